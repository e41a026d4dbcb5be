def inS (f : Nat → Nat → Int64) (b : Nat) : Nat → Nat → Int64 → Int64
  | 0, _, a => a
  | d + 1, k, a => inS f b d (k + 1) (a + f b k)
def outS (f : Nat → Nat → Int64) (rg : Nat → Nat) : Nat → Nat → Int64 → Int64
  | 0, _, a => a
  | d + 1, b, a => outS f rg d (b + 1) (inS f b (rg b) 0 a)
theorem c_heat_in {M : Mem} {l n p b : Nat} {g : Nat → Nat} (hL : LiS M l n g) (hk6 : ∀ k, k < n → gK M (g k) = 6) {fl : Int32} {f : Nat → Nat → Int64} (hf : ∀ k, k < n → (if fl = 0 then gJ M 502 (g k) else gJ M 501 (g k)) = f b k) (K : Mem → Nat → Int32 → Int64 → Int32 → Option (Mem × Int64)) : ∀ d k fu a, k + d = n → F_X1_heatInAll_p37 K (fu + d + 1) M p fl a (Int32.ofNat b) l (Int32.ofNat k) = K M p fl (inS f b d k a) (Int32.ofNat b) := by
  have h10 := hL.2.2.1
  intro d
  induction d with
  | zero =>
    intro k fu a hk
    have : k = n := by omega
    subst this
    unfold F_X1_heatInAll_p37
    rw [c_size, cl_some]
    dsimp only
    rw [hL.2.1, if_pos (Int32.le_refl _)]
    rfl
  | succ d ih =>
    intro k fu a hk
    have hkn : k < n := by omega
    have c1 : ¬ Int32.ofNat n ≤ Int32.ofNat k := fun z => by
      have := (ofN_le (by omega) (by omega)).mp z
      omega
    have es : Int32.ofNat k + 1 = Int32.ofNat (k + 1) := ofN_succ
    have e := hf k hkn
    have t := ih (k + 1) fu (a + f b k) (by omega)
    unfold F_X1_heatInAll_p37
    rw [c_size, cl_some]
    dsimp only
    rw [hL.2.1, if_neg c1, c_get hL hkn, cl_some]
    dsimp only
    rw [lr_some (hk6 k hkn), show fu + (d + 1) = fu + d + 1 by omega]
    unfold F_X1_heatInAll_p77
    by_cases c : fl = 0
    · rw [if_pos c] at e ⊢
      rw [e]
      refine bnd_i (bnd_i ?_)
      rw [es]
      exact t
    · rw [if_neg c] at e ⊢
      rw [e]
      refine bnd_i (bnd_i ?_)
      rw [es]
      exact t
theorem c_heat_all {x p o : Nat} {M W : Mem} (hG : GrS x p M) (hI : MI o W) {ba : Nat → Nat} {ra : Nat → Nat → Nat} (hB : BoS p M o W ba ra) {fl : Int32} {f : Nat → Nat → Int64} (hf : ∀ b k, b < nbW W o → k < rgW W o b → (if fl = 0 then gJ M 502 (ra b k) else gJ M 501 (ra b k)) = f b k) : ∀ d b fu a, b + d = nbW W o → F_X1_heatInAll_p5 F_X1_heatInAll_p91 (fu + d + 1) M p fl a (Int32.ofNat b) = some (M, outS f (rgW W o) d b a) := by
  have h8 := hI.nb8
  intro d
  induction d with
  | zero =>
    intro b fu a hb
    have : b = nbW W o := by omega
    unfold F_X1_heatInAll_p5 F_X1_heatInAll_p91
    rw [hG.2.2.2.2.1, lr_some hG.2.2.2.2.2.2.1, c_size, cl_some]
    dsimp only
    rw [hB.1.2.1, this, if_pos (Int32.le_refl _)]
    rfl
  | succ d ih =>
    intro b fu a hb
    have hbn : b < nbW W o := by omega
    have hr8 := hI.rg8 hbn
    have c1 : ¬ Int32.ofNat (nbW W o) ≤ Int32.ofNat b := fun z => by
      have := (ofN_le (by omega) (by omega)).mp z
      omega
    have es : Int32.ofNat b + 1 = Int32.ofNat (b + 1) := ofN_succ
    obtain ⟨b1, b2, b3, b4, b5, b6, b7, ⟨l, b8, b9⟩, b10⟩ := hB.2.2.2 b hbn
    unfold F_X1_heatInAll_p5
    rw [hG.2.2.2.2.1, lr_some hG.2.2.2.2.2.2.1, c_size, cl_some]
    dsimp only
    rw [hB.1.2.1, if_neg c1, hG.2.2.2.2.1, lr_some hG.2.2.2.2.2.2.1, c_get hB.1 hbn, cl_some]
    dsimp only
    rw [lr_some b1, b8, lr_some b9.1]
    have t := c_heat_in (p := p) (b := b) b9 (fun k hk => (b10 k hk).1) (fl := fl) (f := f) (hf b · hbn) (F_X1_heatInAll_p85 (F_X1_heatInAll_p5 F_X1_heatInAll_p91 (fu + d + 1))) (rgW W o b) 0 (FU - (rgW W o b + 1)) a (by omega)
    rw [show FU - (rgW W o b + 1) + rgW W o b + 1 = FU by unfold FU; omega] at t
    rw [show fu + (d + 1) = fu + d + 1 by omega]
    refine t.trans ?_
    unfold F_X1_heatInAll_p85
    refine bnd_i ?_
    rw [es]
    exact ih (b + 1) fu _ (by omega)
theorem m_told_in {o : Nat} {W : Mem} (hI : MI o W) {b : Nat} (hb : b < nbW W o) {a : Int32} {f : Nat → Nat → Int64} (hf : ∀ k, k < rgW W o b → (if a = 9 then gB W (o + 11) (8 * b + k) else firstS (gA W (o + 5)) (gA W (o + 6)) (gA W (o + 7)) b k) = f b k) (K : Mem → Nat → Int32 → Int64 → Int32 → Option (Mem × Int64)) : ∀ d k fu z, k + d = rgW W o b → F_X12_told_p17 K (fu + d + 1) W o a z (Int32.ofNat b) (Int32.ofNat k) = K W o a (inS f b d k z) (Int32.ofNat b) := by
  have h8 := hI.nb8
  have hr8 := hI.rg8 hb
  have hS := hI.sh
  have b1 : inb (Int32.ofNat b) 8 := ofN_inb (by omega) (by omega)
  have b2 : ixn (Int32.ofNat b) = b := ofN_ix (by omega)
  intro d
  induction d with
  | zero =>
    intro k fu z hk
    have : k = rgW W o b := by omega
    unfold F_X12_told_p17
    rw [hS.r1305, lr_some hS.k4, hS.n4, grd_pos b1, b2, hI.rg hb, this, if_pos (Int32.le_refl _)]
    rfl
  | succ d ih =>
    intro k fu z hk
    have hkn : k < rgW W o b := by omega
    have c1 : ¬ Int32.ofNat (rgW W o b) ≤ Int32.ofNat k := fun z => by
      have := (ofN_le (by omega) (by omega)).mp z
      omega
    have es : Int32.ofNat k + 1 = Int32.ofNat (k + 1) := ofN_succ
    have i1 : inb (Int32.ofNat (8 * b + k)) 64 := ofN_inb (by omega) (by omega)
    have i2 : ixn (Int32.ofNat (8 * b + k)) = 8 * b + k := ofN_ix (by omega)
    have e := hf k hkn
    have t := ih (k + 1) fu (z + f b k) (by omega)
    unfold F_X12_told_p17
    rw [hS.r1305, lr_some hS.k4, hS.n4, grd_pos b1, b2, hI.rg hb, if_neg c1, show fu + (d + 1) = fu + d + 1 by omega]
    unfold F_X12_told_p60
    by_cases c : a = 9
    · rw [if_pos c] at e ⊢
      rw [hS.r1313, lr_some hS.k11, hS.n11, i8, grd_pos i1, i2, e]
      refine bnd_i (bnd_i ?_)
      rw [es]
      exact t
    · rw [if_neg c] at e ⊢
      rw [m_atFirst hS (by omega), cl_some, e]
      refine bnd_i (bnd_i ?_)
      rw [es]
      exact t
theorem m_told_all {o : Nat} {W : Mem} (hI : MI o W) {a : Int32} {f : Nat → Nat → Int64} (hf : ∀ b k, b < nbW W o → k < rgW W o b → (if a = 9 then gB W (o + 11) (8 * b + k) else firstS (gA W (o + 5)) (gA W (o + 6)) (gA W (o + 7)) b k) = f b k) (K : Mem → Nat → Int32 → Int64 → Option (Mem × Int64)) : ∀ d b fu z, b + d = nbW W o → F_X12_told_p5 K (fu + d + 1) W o a z (Int32.ofNat b) = K W o a (outS f (rgW W o) d b z) := by
  have h8 := hI.nb8
  intro d
  induction d with
  | zero =>
    intro b fu z hb
    have : b = nbW W o := by omega
    unfold F_X12_told_p5
    rw [hI.nb, this, if_pos (Int32.le_refl _)]
    rfl
  | succ d ih =>
    intro b fu z hb
    have hbn : b < nbW W o := by omega
    have hr8 := hI.rg8 hbn
    have c1 : ¬ Int32.ofNat (nbW W o) ≤ Int32.ofNat b := fun z => by
      have := (ofN_le (by omega) (by omega)).mp z
      omega
    have es : Int32.ofNat b + 1 = Int32.ofNat (b + 1) := ofN_succ
    unfold F_X12_told_p5
    rw [hI.nb, if_neg c1]
    have t := m_told_in hI hbn (a := a) (f := f) (hf b · hbn) (F_X12_told_p68 (F_X12_told_p5 K (fu + d + 1))) (rgW W o b) 0 (FU - (rgW W o b + 1)) z (by omega)
    rw [show FU - (rgW W o b + 1) + rgW W o b + 1 = FU by unfold FU; omega] at t
    rw [show fu + (d + 1) = fu + d + 1 by omega]
    refine t.trans ?_
    unfold F_X12_told_p68
    refine bnd_i ?_
    rw [es]
    exact ih (b + 1) fu _ (by omega)
theorem op_told {x o : Nat} {M W : Mem} (h : Rel x o M W) (a : Int32) : OPR x o M W (F_X11_told M x a) (F_X12_told W o a) := by
  obtain ⟨ha, ua, ba, ma, ea, ra, rb, tg, hr, hR⟩ := id h
  have hC := hR.csh
  have hI := hR.mi
  have hS := hI.sh
  have h8 := hI.nb8
  have z0 : (0 : Int32).toInt = 0 := by decide
  have z9 : (9 : Int32).toInt = 9 := by decide
  have z10 : (10 : Int32).toInt = 10 := by decide
  have l0 : (0 : Int64).toInt = 0 := by decide
  have l8 : (8 : Int64).toInt = 8 := by decide
  have l9 : (9 : Int64).toInt = 9 := by decide
  have l10 : (10 : Int64).toInt = 10 := by decide
  generalize hf : (fun b k => if a = 9 then gB W (o + 11) (8 * b + k) else firstS (gA W (o + 5)) (gA W (o + 6)) (gA W (o + 7)) b k) = f
  have em : F_X12_told W o a = F_X12_told_p74 W o a (outS f (rgW W o) (nbW W o) 0 0) := by
    unfold F_X12_told
    have t := m_told_all hI (a := a) (f := f) (fun b k _ _ => by rw [← hf]) F_X12_told_p74 (nbW W o) 0 (FU - (nbW W o + 1)) 0 (by omega)
    rw [show FU - (nbW W o + 1) + nbW W o + 1 = FU by unfold FU; omega] at t
    exact t
  rw [em]
  unfold F_X12_told_p74 F_X12_told_p119
  rw [m_in, cl_some]
  unfold F_X11_told
  rw [hC.r1205, lr_some hC.k46, hC.r204_46, lr_some hC.k48, hC.n48]
  by_cases c1 : isB 9 a
  · obtain ⟨i, hi, rfl⟩ := isB_of c1
    have i1 : inb (Int32.ofNat i) 9 := ofN_inb (by omega) (by omega)
    have i2 : ixn (Int32.ofNat i) = i := ofN_ix (by omega)
    have c5 : (0 : Int64) ≤ (Int32.ofNat i).toInt64 ∧ (Int32.ofNat i).toInt64 ≤ 8 := by
      rw [Int64.le_iff_toInt_le, Int64.le_iff_toInt_le, Int32.toInt_toInt64, ofN_toInt (by omega)]
      omega
    rw [if_pos c5, if_neg one_nz, if_neg (ofN_n0 (by omega)), if_neg (fun k => by
      have := (ofN_le (by omega) (by omega)).mp k
      omega), lr_some hC.k46, hC.r204_46, lr_some hC.k48, hC.n48, grd_pos i1, i2, hS.r1315, lr_some hS.k13, hS.n13, grd_pos i1, hR.dr.2.2.2.2.2]
    exact opr_same h rfl rfl
  · have c1' : ¬ ((0 : Int64) ≤ a.toInt64 ∧ a.toInt64 ≤ 8) := by
      rw [Int64.le_iff_toInt_le, Int64.le_iff_toInt_le, Int32.toInt_toInt64, l0, l8]
      exact fun k => c1 ⟨k.1, by omega⟩
    rw [if_neg c1', if_pos rfl]
    dsimp only
    rw [m_in, cl_some]
    have e26 : (if a < 0 then F_X11_told_p26 M x a else if Int32.ofNat 9 ≤ a then F_X11_told_p26 M x a else lr (some (x + 46)) (gK M) 3 fun b3 => lr (gR M 204 b3) (gK M) 21 fun b4 => grd (inb a (gN M b4)) (some (M, gB M b4 (ixn a)))) = F_X11_told_p26 M x a := by
      by_cases d1 : a < 0
      · rw [if_pos d1]
      · rw [if_neg d1, if_pos]
        rw [Int32.lt_iff_toInt_lt, z0] at d1
        rw [Int32.le_iff_toInt_le, ofN_toInt (by omega)]
        have : ¬ a.toInt < ((9 : Nat) : Int) := fun k => c1 ⟨by omega, k⟩
        omega
    rw [e26]
    unfold F_X11_told_p26 F_X11_told_p38 F_X11_told_p53
    by_cases c2 : a = 9
    · have e := c_heat_all hC.g46 hI hR.bos (fl := 0) (f := f) (fun b k hb hk => by
        rw [if_pos rfl, hR.dr.2.1 b k hb hk, ← hf]
        exact (if_pos c2).symm) (nbW W o) 0 (FU - (nbW W o + 1)) 0 (by omega)
      rw [show FU - (nbW W o + 1) + nbW W o + 1 = FU by unfold FU; omega] at e
      refine opr_same (r := outS f (rgW W o) (nbW W o) 0 0) h ?_ ?_
      · rw [if_pos c2, hC.r1205, lr_some hC.k46, if_neg (by rw [c2]; decide)]
        unfold F_X1_heatInAll
        rw [show F_X1_heatInAll_p5 F_X1_heatInAll_p91 FU M (x + 46) 0 0 0 = _ from e, cl_some]
      · rw [c2, if_pos (show (9 : Int64) ≤ Int32.toInt64 9 ∧ Int32.toInt64 9 ≤ 10 by decide), if_neg one_nz]
    · by_cases c3 : a = 10
      · have e := c_heat_all hC.g46 hI hR.bos (fl := 1) (f := f) (fun b k hb hk => by
          rw [if_neg one_nz, ((hR.bos.2.2.2 b hb).2.2.2.2.2.2.2.2 k hk).2.2, ← hf]
          exact (if_neg c2).symm) (nbW W o) 0 (FU - (nbW W o + 1)) 0 (by omega)
        rw [show FU - (nbW W o + 1) + nbW W o + 1 = FU by unfold FU; omega] at e
        refine opr_same (r := outS f (rgW W o) (nbW W o) 0 0) h ?_ ?_
        · rw [if_neg c2, if_pos c3, hC.r1205, lr_some hC.k46, if_pos c3]
          unfold F_X1_heatInAll
          rw [show F_X1_heatInAll_p5 F_X1_heatInAll_p91 FU M (x + 46) 1 0 0 = _ from e, cl_some]
        · rw [c3, if_pos (show (9 : Int64) ≤ Int32.toInt64 10 ∧ Int32.toInt64 10 ≤ 10 by decide), if_neg one_nz]
      · have c4 : ¬ ((9 : Int64) ≤ a.toInt64 ∧ a.toInt64 ≤ 10) := by
          rw [Int64.le_iff_toInt_le, Int64.le_iff_toInt_le, Int32.toInt_toInt64, l9, l10]
          intro k
          have : a.toInt = 9 ∨ a.toInt = 10 := by omega
          rcases this with k1 | k1
          · exact c2 (Int32.toInt_inj.mp (by omega))
          · exact c3 (Int32.toInt_inj.mp (by omega))
        rw [if_neg c2, if_neg c3, if_neg c4, if_pos rfl]
        exact opr_map id (opr_refuseL h rf2 (by omega) (by omega)) (fun _ _ => rfl) (fun _ _ => rfl)
