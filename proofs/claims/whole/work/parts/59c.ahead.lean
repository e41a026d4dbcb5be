abbrev mn (x y : Int64) : Int64 := if x < y then x else y
theorem mn_toInt (x y : Int64) : (mn x y).toInt = min x.toInt y.toInt := by
  unfold mn
  by_cases c : x < y
  · rw [if_pos c]
    have := i64_lt.mp c
    omega
  · rw [if_neg c]
    have := i64_nlt c
    omega
theorem minR_succ (v : Nat → Int64) (r b : Nat) (a : Int64) : minR v (r + 1) b a = minR v r (b + 1) (mn (v b) a) := rfl
theorem minR_mn (v : Nat → Int64) (x : Int64) : ∀ (r b : Nat) (a : Int64), minR v r b (mn x a) = mn x (minR v r b a) := by
  intro r
  induction r with
  | zero => intro b a; rfl
  | succ r ih =>
    intro b a
    rw [minR_succ, minR_succ, ← ih]
    congr 1
    apply i64_ext
    rw [mn_toInt, mn_toInt, mn_toInt, mn_toInt]
    omega
theorem minR_le (v : Nat → Int64) : ∀ (r b : Nat) (a : Int64), (minR v r b a).toInt ≤ a.toInt := by
  intro r
  induction r with
  | zero => intro b a; exact Int.le_refl _
  | succ r ih =>
    intro b a
    rw [minR_succ]
    have h1 := ih (b + 1) (mn (v b) a)
    have h2 := mn_toInt (v b) a
    omega
/-- the model's way: the coldest and its hour -/
def mF (v : Nat → Int64) (hw : Int64) : Nat → Nat → Int64 → Int64 → Int64 × Int64
  | 0, _, c, w => (c, w)
  | r + 1, b, c, w => if v b < c then mF v hw r (b + 1) (v b) hw else mF v hw r (b + 1) c w
theorem mF_eq (v : Nat → Int64) (hw : Int64) : ∀ (r b : Nat) (c w : Int64), mF v hw r b c w = (minR v r b c, if minR v r b c < c then hw else w) := by
  intro r
  induction r with
  | zero =>
    intro b c w
    show (c, w) = (c, if c < c then hw else w)
    rw [if_neg (fun k => by have := i64_lt.mp k; omega)]
  | succ r ih =>
    intro b c w
    unfold mF
    rw [minR_succ]
    by_cases h : v b < c
    · have e : mn (v b) c = v b := if_pos h
      rw [if_pos h, ih, e]
      have h1 := minR_le v r (b + 1) (v b)
      have h2 := i64_lt.mp h
      rw [if_pos (show minR v r (b + 1) (v b) < c from i64_lt.mpr (by omega))]
      by_cases h3 : minR v r (b + 1) (v b) < v b
      · rw [if_pos h3]
      · rw [if_neg h3]
    · have e : mn (v b) c = c := if_neg h
      rw [if_neg h, ih, e]
/-- the class's coldest and its hour -/
def cdS (v : Nat → Nat → Int64) (nb hr : Nat) : Nat → Int64 × Int32
  | 0 => (4000000000000000000, Int32.ofNat hr)
  | k + 1 => if minR (v (k + 1)) nb 0 4000000000000000000 < (cdS v nb hr k).1 then (minR (v (k + 1)) nb 0 4000000000000000000, Int32.ofNat (hr + k)) else cdS v nb hr k
/-- the model's -/
def mdS (v : Nat → Nat → Int64) (nb hr : Nat) : Nat → Int64 × Int64
  | 0 => (9223372036854775807, 0)
  | k + 1 => (minR (v (k + 1)) nb 0 (mdS v nb hr k).1, if minR (v (k + 1)) nb 0 (mdS v nb hr k).1 < (mdS v nb hr k).1 then (Int32.ofNat (hr + k)).toInt64 else (mdS v nb hr k).2)
theorem cold_eq {v : Nat → Nat → Int64} {nb hr : Nat} (hnb : 1 ≤ nb) (hv : ∀ k, (v k 0).toInt < 4000000000000000000) : ∀ k, ((cdS v nb hr k).1.toInt ≤ 4000000000000000000 ∧ (k = 0 ∨ ((cdS v nb hr k).1 = (mdS v nb hr k).1 ∧ (cdS v nb hr k).2.toInt64 = (mdS v nb hr k).2))) := by
  have e4 : (4000000000000000000 : Int64).toInt = 4000000000000000000 := by decide
  have e9 : (9223372036854775807 : Int64).toInt = 9223372036854775807 := by decide
  intro k
  induction k with
  | zero =>
    refine ⟨?_, Or.inl rfl⟩
    show (4000000000000000000 : Int64).toInt ≤ _
    rw [e4]
    omega
  | succ k ih =>
    obtain ⟨i1, i2⟩ := ih
    have hv1 := hv (k + 1)
    obtain ⟨m, rfl⟩ : ∃ m, nb = m + 1 := ⟨nb - 1, by omega⟩
    have hnow := minR_le (v (k + 1)) (m + 1) 0 4000000000000000000
    rw [e4] at hnow
    have s4 : minR (v (k + 1)) (m + 1) 0 4000000000000000000 = minR (v (k + 1)) m 1 (v (k + 1) 0) := by
      rw [minR_succ]
      have : mn (v (k + 1) 0) 4000000000000000000 = v (k + 1) 0 := if_pos (i64_lt.mpr (by rw [e4]; exact hv1))
      rw [this]
    have s9 : minR (v (k + 1)) (m + 1) 0 9223372036854775807 = minR (v (k + 1)) m 1 (v (k + 1) 0) := by
      rw [minR_succ]
      have : mn (v (k + 1) 0) 9223372036854775807 = v (k + 1) 0 := if_pos (i64_lt.mpr (by rw [e9]; omega))
      rw [this]
    have hlt := minR_le (v (k + 1)) m 1 (v (k + 1) 0)
    unfold cdS mdS
    rcases i2 with rfl | ⟨j1, j2⟩
    · have c0 : (cdS v (m + 1) hr 0) = (4000000000000000000, Int32.ofNat hr) := rfl
      have d0 : (mdS v (m + 1) hr 0) = (9223372036854775807, 0) := rfl
      rw [c0, d0]
      dsimp only
      rw [s4, s9, if_pos (i64_lt.mpr (by rw [e4]; omega)), if_pos (i64_lt.mpr (by rw [e9]; omega))]
      exact ⟨by dsimp only; omega, Or.inr ⟨rfl, rfl⟩⟩
    · rw [← j1, ← j2]
      generalize cdS v (m + 1) hr k = C at i1 ⊢
      have ec : minR (v (k + 1)) (m + 1) 0 C.1 = mn C.1 (minR (v (k + 1)) (m + 1) 0 4000000000000000000) := by
        rw [← minR_mn]
        congr 1
        apply i64_ext
        rw [mn_toInt, e4]
        omega
      rw [ec]
      generalize minR (v (k + 1)) (m + 1) 0 4000000000000000000 = N at hnow ⊢
      by_cases h : N < C.1
      · have h2 := i64_lt.mp h
        have e1 : mn C.1 N = N := by
          apply i64_ext
          rw [mn_toInt]
          omega
        rw [if_pos h, e1, if_pos h]
        exact ⟨hnow, Or.inr ⟨rfl, rfl⟩⟩
      · have h2 := i64_nlt h
        have e1 : mn C.1 N = C.1 := by
          apply i64_ext
          rw [mn_toInt]
          omega
        rw [if_neg h, e1, if_neg (fun z => by have := i64_lt.mp z; omega)]
        exact ⟨i1, Or.inr ⟨rfl, rfl⟩⟩
theorem frm1209 {x p nb : Nat} {rg ba : Nat → Nat} {ra : Nat → Nat → Nat} (M : Mem) (v : Int64) (w : Int32) : FRM x p nb rg ba ra M (sI (sJ M 1209 x v) 1210 x w) := by
  refine ⟨rfl, rfl, rfl, rfl, rfl, rfl, rfl, rfl, fun f a z1 z2 z3 => ?_, fun f z1 z2 z3 z4 z5 => ?_, FR.refl _, FR.refl _, FR.refl _, FRG.refl _, fun _ _ _ _ => rfl⟩
  · rw [gI_nf z3]
    rfl
  · exact gJ_nf z5
theorem CS.set {x o : Nat} {M W : Mem} {op : Nat → Int32} {ha ua ma : Nat → Nat} {rb : Nat → Nat → Nat} {hr : Nat} {h g t : Nat → Int64} {k : Nat} {Mk : Mem} (hM : CS x o M W op ha ua ma rb hr h g t k Mk) (v : Int64) (w : Int32) : CS x o M W op ha ua ma rb hr h g t k (sI (sJ Mk 1209 x v) 1210 x w) := by
  obtain ⟨⟨hC, hG, hI, hHo, hT, hTa, hRu, hBo, hH⟩, ⟨d1, d2, d3, d4, d5, d6⟩, m3⟩ := hM
  have hF : FRM x (x + 49) (nbW W o) (rgW W o) ma rb Mk (sI (sJ Mk 1209 x v) 1210 x w) := frm1209 Mk v w
  have hi : ∀ f, ¬ f = 1210 → gI (sI (sJ Mk 1209 x v) 1210 x w) f = gI Mk f := fun f z => gI_nf z
  have hj : ∀ f, ¬ f = 1209 → gJ (sI (sJ Mk 1209 x v) 1210 x w) f = gJ Mk f := fun f z => gJ_nf z
  refine ⟨⟨hF.csh (o := o) hC, hF.grs hG, hI, hF.hor hHo, hF.tor hT, hF.tar hTa, hF.rur hRu, hF.bos hBo, ?_, fun b hb => ?_⟩, ⟨?_, ?_, ?_, ?_, ?_, d6⟩, m3.trans hF⟩
  · rw [hi 205 (by omega)]
    exact hH.1
  · rw [hi 107 (by omega), hi 108 (by omega), hi 109 (by omega)]
    exact hH.2 b hb
  · rw [hi 206 (by omega)]
    exact d1
  · rw [hj 502 (by omega)]
    exact d2
  · rw [hj 503 (by omega)]
    exact d3
  · rw [hj 504 (by omega)]
    exact d4
  · rw [hj 110 (by omega)]
    exact d5
/-- warmth of the tops after k hours -/
def vS (W : Mem) (o : Nat) (op : Nat → Int32) (hr : Nat) (h g t : Nat → Int64) (k b : Nat) : Int64 := wS (WO W o op) o (stS (WO W o op) o hr h g t k).1 b 0
theorem c_coldest_hours {x o : Nat} {M W : Mem} (hI : MI o W) {op : Nat → Int32} (hop : ∀ b, b < 8 → op b = 0 ∨ op b = 1) {ha ua ma : Nat → Nat} {rb : Nat → Nat → Nat} {hr : Nat} {h g t : Nat → Int64} (hB : HBd W o hr h) {n : Nat} (hn : hr + n ≤ 20000) : ∀ (r i f : Nat) (Mi : Mem), i + r = n → r < f → CS x o M W op ha ua ma rb hr h g t i Mi → gJ Mi 1209 x = (cdS (vS W o op hr h g t) (nbW W o) hr i).1 → gI Mi 1210 x = (cdS (vS W o op hr h g t) (nbW W o) hr i).2 →
    ∃ M1, F_X11_passColdest_p20 F_X11_passColdest_p76 f Mi x (Int32.ofNat n) (Int32.ofNat i) = some (M1, ()) ∧ CS x o M W op ha ua ma rb hr h g t n M1 ∧ gJ M1 1209 x = (cdS (vS W o op hr h g t) (nbW W o) hr n).1 ∧ gI M1 1210 x = (cdS (vS W o op hr h g t) (nbW W o) hr n).2 := by
  intro r
  induction r with
  | zero =>
    intro i f Mi hi hf hM c1 c2
    obtain ⟨f, rfl⟩ : ∃ z, f = z + 1 := ⟨f - 1, by omega⟩
    have : i = n := by omega
    subst this
    refine ⟨Mi, ?_, hM, c1, c2⟩
    unfold F_X11_passColdest_p20 F_X11_passColdest_p76
    rw [if_pos (Int32.le_refl _)]
  | succ r ih =>
    intro i f Mi hi hf hM c1 c2
    obtain ⟨f, rfl⟩ : ∃ z, f = z + 1 := ⟨f - 1, by omega⟩
    have hlt : ¬ Int32.ofNat n ≤ Int32.ofNat i := by
      rw [ofN_le (by omega) (by omega)]
      omega
    have hC := hM.1.1
    have h206 := hM.2.1.1
    obtain ⟨M2, e, q1, q2, q3⟩ := c_hstep hI hop hB hM (by omega)
    have q0 := q1
    obtain ⟨⟨hC2, hG2, hI2, -, -, -, -, hBo2, -⟩, ⟨-, -, w2, -⟩, -⟩ := q0
    have ec := c_coldest hG2 hI2 hBo2 w2
    have ec : F_X1_coldestNow M2 (x + 49) = some (M2, minR (vS W o op hr h g t (i + 1)) (nbW W o) 0 4000000000000000000) := ec
    have u1 : gJ M2 1209 x = (cdS (vS W o op hr h g t) (nbW W o) hr i).1 := by rw [q2]; exact c1
    have u2 : gI M2 1210 x = (cdS (vS W o op hr h g t) (nbW W o) hr i).2 := by rw [q3]; exact c2
    by_cases c : minR (vS W o op hr h g t (i + 1)) (nbW W o) 0 4000000000000000000 < (cdS (vS W o op hr h g t) (nbW W o) hr i).1
    · have ed : cdS (vS W o op hr h g t) (nbW W o) hr (i + 1) = (minR (vS W o op hr h g t (i + 1)) (nbW W o) 0 4000000000000000000, Int32.ofNat (hr + i)) := if_pos c
      obtain ⟨M1, p1, p2⟩ := ih (i + 1) f (sI (sJ M2 1209 x (minR (vS W o op hr h g t (i + 1)) (nbW W o) 0 4000000000000000000)) 1210 x (Int32.ofNat (hr + i))) (by omega) (by omega) (q1.set _ _) (by rw [ed]; show gJ (sJ M2 1209 x _) 1209 x = _; rw [gJ_sf, ud_s]) (by rw [ed, gI_sf, ud_s])
      refine ⟨M1, ?_, p2⟩
      rw [← p1]
      conv => lhs; unfold F_X11_passColdest_p20
      simp only [if_neg hlt, hC.r1206, lr_some hC.k49, bnd, h206, e, cl_some, hC2.r1206, lr_some hC2.k49, ec, u1]
      rw [if_neg (fun k => absurd ((lg_cmp_ge _ _).mp k) (Int64.not_le.mpr c))]
      unfold F_X11_passColdest_p70
      simp only [bnd, ofN_succ]
    · have ed : cdS (vS W o op hr h g t) (nbW W o) hr (i + 1) = cdS (vS W o op hr h g t) (nbW W o) hr i := if_neg c
      obtain ⟨M1, p1, p2⟩ := ih (i + 1) f M2 (by omega) (by omega) q1 (by rw [ed]; exact u1) (by rw [ed]; exact u2)
      refine ⟨M1, ?_, p2⟩
      rw [← p1]
      conv => lhs; unfold F_X11_passColdest_p20
      simp only [if_neg hlt, hC.r1206, lr_some hC.k49, bnd, e, cl_some, hC2.r1206, lr_some hC2.k49, ec, u1]
      rw [if_pos ((lg_cmp_ge _ _).mpr (Int64.not_lt.mp c))]
      unfold F_X11_passColdest_p70
      simp only [bnd, ofN_succ]
theorem stS_v {o : Nat} {W : Mem} {op : Nat → Int32} {hr : Nat} {h g t u : Nat → Int64} (e : t 5 = u 5) : vS W o op hr h g t = vS W o op hr h g u := by
  funext k b
  unfold vS
  rw [(stS_at (W := WO W o op) (o := o) (hr := hr) h g t u e k).1]
/-- the answers of ahead -/
def ahS (v : Nat → Nat → Int64) (nb hr n : Nat) (b : Int64) (what : Int32) : Int64 := if what = (2 : Int32) then b else if what = 0 then (cdS v nb hr n).1 else (cdS v nb hr n).2.toInt64
theorem c_aheadRun {x o : Nat} {M W : Mem} {ha ua ba ma : Nat → Nat} {ra rb : Nat → Nat → Nat} {hr : Nat} {h g t : Nat → Int64} {op : Nat → Int32} (hop : ∀ b, b < 8 → op b = 0 ∨ op b = 1) (s : Int32) (hops : ∀ b, b < nbW W o → op b = if bitP s b then 0 else gA W (o + 10) b) (hR : MR x o M W ha ua ba ma ra rb hr h g t) (hB : HBd W o hr h) {n : Nat} (hn : hr + n ≤ 20000) (what : Int32) : ∃ M1, F_X11_ahead_p89 M x (Int32.ofNat n) s what = some (M1, ahS (vS W o op hr h g t) (nbW W o) hr n ((stS (WO W o op) o hr h g t n).2.2 5 - t 5) what) ∧ FRM x (x + 49) (nbW W o) (rgW W o) ma rb M M1 := by
  have hC := hR.1.1
  have hI := hR.1.2.2.1
  obtain ⟨M2, M1, t1, e1, g1, c1, e2, hS, ht⟩ := c_startShut hop s hops hR
  have hC1 := hS.1.1
  have h206 := hS.2.1.1
  obtain ⟨M3, e3, hS3, r1, r2⟩ := c_coldest_hours hI hop hB hn n 0 FU (sI (sJ M1 1209 x 4000000000000000000) 1210 x (Int32.ofNat hr)) (by omega) (by unfold FU; omega) (hS.set _ _) (by show gJ (sJ M1 1209 x _) 1209 x = _; rw [gJ_sf, ud_s]; rfl) (by rw [gI_sf, ud_s]; rfl)
  rw [stS_v (ht 5 (by omega))] at r1 r2
  have hC3 := hS3.1.1
  have hR3 := hR.frm hS3.2.2
  have d6 := hS3.2.1.2.2.2.2.2
  have g6 := hR3.2.1.2.2.2.2.2
  have c5 : inb (5 : Int32) 9 := by decide
  have d5 : ixn (5 : Int32) = 5 := by decide
  have eb : gB M3 (x + 51) 5 = (stS (WO W o op) o hr h g t n).2.2 5 := by
    have : gB M3 (x + 51) = (stS (WO W o op) o hr h g t1 n).2.2 := d6
    rw [this]
    exact (stS_at (W := WO W o op) (o := o) (hr := hr) h g t1 t (ht 5 (by omega)) n).2.2
  have eg : gB M3 (x + 48) 5 = t 5 := by
    have : gB M3 (x + 48) = t := g6
    rw [this]
  refine ⟨M3, ?_, hS3.2.2⟩
  unfold F_X11_ahead_p89
  rw [hC.r1206, lr_some hC.k49, hC.r1205, lr_some hC.k46, e1, cl_some]
  simp only [c1.r1206, lr_some c1.k49, e2, cl_some]
  have e3 : F_X11_passColdest M1 x (Int32.ofNat n) = some (M3, ()) := by
    unfold F_X11_passColdest
    simp only [bnd]
    have k1 : gR (sJ M1 1209 x 4000000000000000000) 1206 x = some (x + 49) := hC1.r1206
    have k2 : gK (sJ M1 1209 x 4000000000000000000) (x + 49) = 3 := hC1.k49
    have k3 : gI (sJ M1 1209 x 4000000000000000000) 206 (x + 49) = Int32.ofNat hr := h206
    rw [k1, lr_some k2, k3]
    exact e3
  rw [e3, cl_some]
  unfold ahS
  by_cases w2 : what = (2 : Int32)
  · rw [if_pos w2, if_pos w2]
    simp only [hC3.r1206, hC3.r1205, lr_some hC3.k49, lr_some hC3.k46, hC3.r204_49, hC3.r204_46, lr_some hC3.k51, lr_some hC3.k48, hC3.n51, hC3.n48, grd_pos c5, d5, eb, eg]
  · rw [if_neg w2, if_neg w2]
    unfold F_X11_ahead_p154
    by_cases w0 : what = 0
    · rw [if_pos w0, if_pos w0, r1]
    · rw [if_neg w0, if_neg w0, r2]
