/-- n places copied -/
def cpR {α : Type} (n : Nat) (src dst : Nat → α) : Nat → α := fun j => if j < n then src j else dst j
theorem cpR_zero {α : Type} (src dst : Nat → α) : cpR 0 src dst = dst := by
  funext j
  exact if_neg (by omega)
theorem cpR_succ {α : Type} (n : Nat) (src dst : Nat → α) : ud (cpR n src dst) n (src n) = cpR (n + 1) src dst := by
  funext j
  unfold ud cpR
  by_cases h1 : j = n
  · rw [if_pos h1, if_pos (by omega), h1]
  · rw [if_neg h1]
    by_cases h2 : j < n
    · rw [if_pos h2, if_pos (by omega)]
    · rw [if_neg h2, if_neg (by omega)]
theorem cpR_lt {α : Type} {n : Nat} {src dst : Nat → α} {j : Nat} (h : j < n) : cpR n src dst j = src j := if_pos h
theorem m_keeps_p10 {o : Nat} {M : Mem} (hS : MSh o M) (kk : Mem → Nat → Option (Mem × Unit)) : ∀ (r i f : Nat), i + r = 64 → r < f →
    F_X12_keeps_p10 kk f (wB M (o + 39) (cpR i (gB M (o + 11)) (gB M (o + 39)))) o (Int32.ofNat i) = kk (wB M (o + 39) (cpR 64 (gB M (o + 11)) (gB M (o + 39)))) o := by
  intro r
  induction r with
  | zero =>
    intro i f hi hf
    obtain ⟨f, rfl⟩ : ∃ z, f = z + 1 := ⟨f - 1, by omega⟩
    have : i = 64 := by omega
    subst this
    unfold F_X12_keeps_p10
    rw [if_pos (show (64 : Int32) ≤ Int32.ofNat 64 by decide)]
  | succ r ih =>
    intro i f hi hf
    obtain ⟨f, rfl⟩ : ∃ z, f = z + 1 := ⟨f - 1, by omega⟩
    have i1 : inb (Int32.ofNat i) 64 := ofN_inb (by omega) (by omega)
    have i2 : ixn (Int32.ofNat i) = i := ofN_ix (by omega)
    have hlt : ¬ (64 : Int32) ≤ Int32.ofNat i := by
      rw [show (64 : Int32) = Int32.ofNat 64 from rfl, ofN_le (by omega) (by omega)]
      omega
    have e1 : gB (wB M (o + 39) (cpR i (gB M (o + 11)) (gB M (o + 39)))) (o + 11) = gB M (o + 11) := by
      rw [gB_wB, if_neg (by omega)]
    rw [← ih (i + 1) f (by omega) (by omega)]
    conv => lhs; unfold F_X12_keeps_p10
    rw [if_neg hlt]
    simp only [gR_wB, gK_wB, gN_wB, hS.r1351, hS.r1313, lr_some hS.k39, lr_some hS.k11, hS.n39, hS.n11, grd_pos i1, i2, e1, bnd, sB_wB, cpR_succ, ofN_succ]
theorem m_keeps_p36 {o : Nat} {M : Mem} (hS : MSh o M) (kk : Mem → Nat → Option (Mem × Unit)) : ∀ (r i f : Nat), i + r = 9 → r < f →
    F_X12_keeps_p36 kk f (wB M (o + 41) (cpR i (gB M (o + 13)) (gB M (o + 41)))) o (Int32.ofNat i) = kk (wB M (o + 41) (cpR 9 (gB M (o + 13)) (gB M (o + 41)))) o := by
  intro r
  induction r with
  | zero =>
    intro i f hi hf
    obtain ⟨f, rfl⟩ : ∃ z, f = z + 1 := ⟨f - 1, by omega⟩
    have : i = 9 := by omega
    subst this
    unfold F_X12_keeps_p36
    rw [if_pos (show (9 : Int32) ≤ Int32.ofNat 9 by decide)]
  | succ r ih =>
    intro i f hi hf
    obtain ⟨f, rfl⟩ : ∃ z, f = z + 1 := ⟨f - 1, by omega⟩
    have i1 : inb (Int32.ofNat i) 9 := ofN_inb (by omega) (by omega)
    have i2 : ixn (Int32.ofNat i) = i := ofN_ix (by omega)
    have hlt : ¬ (9 : Int32) ≤ Int32.ofNat i := by
      rw [show (9 : Int32) = Int32.ofNat 9 from rfl, ofN_le (by omega) (by omega)]
      omega
    have e1 : gB (wB M (o + 41) (cpR i (gB M (o + 13)) (gB M (o + 41)))) (o + 13) = gB M (o + 13) := by
      rw [gB_wB, if_neg (by omega)]
    rw [← ih (i + 1) f (by omega) (by omega)]
    conv => lhs; unfold F_X12_keeps_p36
    rw [if_neg hlt]
    simp only [gR_wB, gK_wB, gN_wB, hS.r1353, hS.r1315, lr_some hS.k41, lr_some hS.k13, hS.n41, hS.n13, grd_pos i1, i2, e1, bnd, sB_wB, cpR_succ, ofN_succ]
theorem m_laysBack_p10 {o : Nat} {M : Mem} (hS : MSh o M) (kk : Mem → Nat → Option (Mem × Unit)) : ∀ (r i f : Nat), i + r = 64 → r < f →
    F_X12_laysBack_p10 kk f (wB M (o + 11) (cpR i (gB M (o + 39)) (gB M (o + 11)))) o (Int32.ofNat i) = kk (wB M (o + 11) (cpR 64 (gB M (o + 39)) (gB M (o + 11)))) o := by
  intro r
  induction r with
  | zero =>
    intro i f hi hf
    obtain ⟨f, rfl⟩ : ∃ z, f = z + 1 := ⟨f - 1, by omega⟩
    have : i = 64 := by omega
    subst this
    unfold F_X12_laysBack_p10
    rw [if_pos (show (64 : Int32) ≤ Int32.ofNat 64 by decide)]
  | succ r ih =>
    intro i f hi hf
    obtain ⟨f, rfl⟩ : ∃ z, f = z + 1 := ⟨f - 1, by omega⟩
    have i1 : inb (Int32.ofNat i) 64 := ofN_inb (by omega) (by omega)
    have i2 : ixn (Int32.ofNat i) = i := ofN_ix (by omega)
    have hlt : ¬ (64 : Int32) ≤ Int32.ofNat i := by
      rw [show (64 : Int32) = Int32.ofNat 64 from rfl, ofN_le (by omega) (by omega)]
      omega
    have e1 : gB (wB M (o + 11) (cpR i (gB M (o + 39)) (gB M (o + 11)))) (o + 39) = gB M (o + 39) := by
      rw [gB_wB, if_neg (by omega)]
    rw [← ih (i + 1) f (by omega) (by omega)]
    conv => lhs; unfold F_X12_laysBack_p10
    rw [if_neg hlt]
    simp only [gR_wB, gK_wB, gN_wB, hS.r1313, hS.r1351, lr_some hS.k11, lr_some hS.k39, hS.n11, hS.n39, grd_pos i1, i2, e1, bnd, sB_wB, cpR_succ, ofN_succ]
theorem m_laysBack_p36 {o : Nat} {M : Mem} (hS : MSh o M) (kk : Mem → Nat → Option (Mem × Unit)) : ∀ (r i f : Nat), i + r = 9 → r < f →
    F_X12_laysBack_p36 kk f (wB M (o + 13) (cpR i (gB M (o + 41)) (gB M (o + 13)))) o (Int32.ofNat i) = kk (wB M (o + 13) (cpR 9 (gB M (o + 41)) (gB M (o + 13)))) o := by
  intro r
  induction r with
  | zero =>
    intro i f hi hf
    obtain ⟨f, rfl⟩ : ∃ z, f = z + 1 := ⟨f - 1, by omega⟩
    have : i = 9 := by omega
    subst this
    unfold F_X12_laysBack_p36
    rw [if_pos (show (9 : Int32) ≤ Int32.ofNat 9 by decide)]
  | succ r ih =>
    intro i f hi hf
    obtain ⟨f, rfl⟩ : ∃ z, f = z + 1 := ⟨f - 1, by omega⟩
    have i1 : inb (Int32.ofNat i) 9 := ofN_inb (by omega) (by omega)
    have i2 : ixn (Int32.ofNat i) = i := ofN_ix (by omega)
    have hlt : ¬ (9 : Int32) ≤ Int32.ofNat i := by
      rw [show (9 : Int32) = Int32.ofNat 9 from rfl, ofN_le (by omega) (by omega)]
      omega
    have e1 : gB (wB M (o + 13) (cpR i (gB M (o + 41)) (gB M (o + 13)))) (o + 41) = gB M (o + 41) := by
      rw [gB_wB, if_neg (by omega)]
    rw [← ih (i + 1) f (by omega) (by omega)]
    conv => lhs; unfold F_X12_laysBack_p36
    rw [if_neg hlt]
    simp only [gR_wB, gK_wB, gN_wB, hS.r1315, hS.r1353, lr_some hS.k13, lr_some hS.k41, hS.n13, hS.n41, grd_pos i1, i2, e1, bnd, sB_wB, cpR_succ, ofN_succ]
theorem m_keeps_p62 {o : Nat} {M : Mem} (hS : MSh o M) (hop : ∀ b, b < 8 → gA M (o + 10) b = 0 ∨ gA M (o + 10) b = 1) (kk : Mem → Option (Mem × Unit)) : ∀ (r i f : Nat), i + r = 8 → r < f →
    F_X12_keeps_p62 kk f (wA (wB M (o + 40) (cpR i (gB M (o + 12)) (gB M (o + 40)))) (o + 42) (cpR i (gA M (o + 10)) (gA M (o + 42)))) o (Int32.ofNat i) = kk (wA (wB M (o + 40) (cpR 8 (gB M (o + 12)) (gB M (o + 40)))) (o + 42) (cpR 8 (gA M (o + 10)) (gA M (o + 42)))) := by
  intro r
  induction r with
  | zero =>
    intro i f hi hf
    obtain ⟨f, rfl⟩ : ∃ z, f = z + 1 := ⟨f - 1, by omega⟩
    have : i = 8 := by omega
    subst this
    unfold F_X12_keeps_p62
    rw [if_pos (show (8 : Int32) ≤ Int32.ofNat 8 by decide)]
  | succ r ih =>
    intro i f hi hf
    obtain ⟨f, rfl⟩ : ∃ z, f = z + 1 := ⟨f - 1, by omega⟩
    have i1 : inb (Int32.ofNat i) 8 := ofN_inb (by omega) (by omega)
    have i2 : ixn (Int32.ofNat i) = i := ofN_ix (by omega)
    have hlt : ¬ (8 : Int32) ≤ Int32.ofNat i := by
      rw [show (8 : Int32) = Int32.ofNat 8 from rfl, ofN_le (by omega) (by omega)]
      omega
    have e1 : gB (wA (wB M (o + 40) (cpR i (gB M (o + 12)) (gB M (o + 40)))) (o + 42) (cpR i (gA M (o + 10)) (gA M (o + 42)))) (o + 12) = gB M (o + 12) := by
      rw [gB_wA, gB_wB, if_neg (by omega)]
    have e2 : ∀ φ ψ, gA (wA (wB M (o + 40) φ) (o + 42) ψ) (o + 10) = gA M (o + 10) := by
      intro φ ψ
      rw [gA_wA, if_neg (by omega), gA_wB]
    have hoi := hop i (by omega)
    rw [← ih (i + 1) f (by omega) (by omega)]
    conv => lhs; unfold F_X12_keeps_p62
    rw [if_neg hlt]
    simp only [gR_wB, gK_wB, gN_wB, gR_wA, gK_wA, gN_wA, hS.r1352, hS.r1314, lr_some hS.k40, lr_some hS.k12, hS.n40, hS.n12, hS.r1354, hS.r1311, lr_some hS.k42, lr_some hS.k10, hS.n42, hS.n10, grd_pos i1, i2, e1, bnd, sB_wA, sB_wB, cpR_succ, e2]
    rw [grd_pos ⟨i1, hoi⟩]
    simp only [sA_wA, cpR_succ, ofN_succ]
theorem m_laysBack_p62 {o : Nat} {M : Mem} (hS : MSh o M) (hop : ∀ b, b < 8 → gA M (o + 42) b = 0 ∨ gA M (o + 42) b = 1) (kk : Mem → Option (Mem × Unit)) : ∀ (r i f : Nat), i + r = 8 → r < f →
    F_X12_laysBack_p62 kk f (wA (wB M (o + 12) (cpR i (gB M (o + 40)) (gB M (o + 12)))) (o + 10) (cpR i (gA M (o + 42)) (gA M (o + 10)))) o (Int32.ofNat i) = kk (wA (wB M (o + 12) (cpR 8 (gB M (o + 40)) (gB M (o + 12)))) (o + 10) (cpR 8 (gA M (o + 42)) (gA M (o + 10)))) := by
  intro r
  induction r with
  | zero =>
    intro i f hi hf
    obtain ⟨f, rfl⟩ : ∃ z, f = z + 1 := ⟨f - 1, by omega⟩
    have : i = 8 := by omega
    subst this
    unfold F_X12_laysBack_p62
    rw [if_pos (show (8 : Int32) ≤ Int32.ofNat 8 by decide)]
  | succ r ih =>
    intro i f hi hf
    obtain ⟨f, rfl⟩ : ∃ z, f = z + 1 := ⟨f - 1, by omega⟩
    have i1 : inb (Int32.ofNat i) 8 := ofN_inb (by omega) (by omega)
    have i2 : ixn (Int32.ofNat i) = i := ofN_ix (by omega)
    have hlt : ¬ (8 : Int32) ≤ Int32.ofNat i := by
      rw [show (8 : Int32) = Int32.ofNat 8 from rfl, ofN_le (by omega) (by omega)]
      omega
    have e1 : gB (wA (wB M (o + 12) (cpR i (gB M (o + 40)) (gB M (o + 12)))) (o + 10) (cpR i (gA M (o + 42)) (gA M (o + 10)))) (o + 40) = gB M (o + 40) := by
      rw [gB_wA, gB_wB, if_neg (by omega)]
    have e2 : ∀ φ ψ, gA (wA (wB M (o + 12) φ) (o + 10) ψ) (o + 42) = gA M (o + 42) := by
      intro φ ψ
      rw [gA_wA, if_neg (by omega), gA_wB]
    have hoi := hop i (by omega)
    rw [← ih (i + 1) f (by omega) (by omega)]
    conv => lhs; unfold F_X12_laysBack_p62
    rw [if_neg hlt]
    simp only [gR_wB, gK_wB, gN_wB, gR_wA, gK_wA, gN_wA, hS.r1314, hS.r1352, lr_some hS.k12, lr_some hS.k40, hS.n12, hS.n40, hS.r1311, hS.r1354, lr_some hS.k10, lr_some hS.k42, hS.n10, hS.n42, grd_pos i1, i2, e1, bnd, sB_wA, sB_wB, cpR_succ, e2]
    rw [grd_pos ⟨i1, hoi⟩]
    simp only [sA_wA, cpR_succ, ofN_succ]
/-- what is kept -/
def KP (o : Nat) (W K : Mem) : Prop := gI K 1355 o = gI W 1301 o ∧ (∀ i, i < 64 → gB K (o + 39) i = gB W (o + 11) i) ∧ (∀ i, i < 9 → gB K (o + 41) i = gB W (o + 13) i) ∧ (∀ i, i < 8 → gB K (o + 40) i = gB W (o + 12) i) ∧ ∀ i, i < 8 → gA K (o + 42) i = gA W (o + 10) i
theorem m_keeps {o : Nat} {M : Mem} (hI : MI o M) : ∃ M1, F_X12_keeps M o = some (M1, ()) ∧ KP o M M1 ∧ MRM o M M1 ∧ gI M1 1301 o = gI M 1301 o ∧ gA M1 (o + 10) = gA M (o + 10) ∧ gB M1 (o + 11) = gB M (o + 11) ∧ gB M1 (o + 12) = gB M (o + 12) ∧ gB M1 (o + 13) = gB M (o + 13) := by
  have hS := hI.sh
  have hS0 : MSh o (sI M 1355 o (gI M 1301 o)) := hS.to rfl rfl rfl rfl
  have e1 := m_keeps_p10 hS0 F_X12_keeps_p34 64 0 FU (by omega) (by unfold FU; omega)
  rw [cpR_zero, wB_self] at e1
  generalize hM1 : wB (sI M 1355 o (gI M 1301 o)) (o + 39) (cpR 64 (gB (sI M 1355 o (gI M 1301 o)) (o + 11)) (gB (sI M 1355 o (gI M 1301 o)) (o + 39))) = M1 at e1
  have hS1 : MSh o M1 := by subst hM1; exact hS.to rfl rfl rfl rfl
  have e2 := m_keeps_p36 hS1 F_X12_keeps_p60 9 0 FU (by omega) (by unfold FU; omega)
  rw [cpR_zero, wB_self] at e2
  generalize hM2 : wB M1 (o + 41) (cpR 9 (gB M1 (o + 13)) (gB M1 (o + 41))) = M2 at e2
  have hS2 : MSh o M2 := by subst hM2; exact hS1.to rfl rfl rfl rfl
  have a1 : gA M2 = gA M := by subst hM2 hM1; rfl
  have e3 := m_keeps_p62 hS2 (by rw [a1]; exact fun b hb => hI.op hb) F_X12_keeps_p98 8 0 FU (by omega) (by unfold FU; omega)
  rw [cpR_zero, cpR_zero, wB_self, wA_self] at e3
  generalize hM3 : wA (wB M2 (o + 40) (cpR 8 (gB M2 (o + 12)) (gB M2 (o + 40)))) (o + 42) (cpR 8 (gA M2 (o + 10)) (gA M2 (o + 42))) = M3 at e3
  have b3 : ∀ a, gB M3 a = if a = o + 40 then cpR 8 (gB M2 (o + 12)) (gB M2 (o + 40)) else gB M2 a := by subst hM3; intro a; rw [gB_wA, gB_wB]
  have b2 : ∀ a, gB M2 a = if a = o + 41 then cpR 9 (gB M1 (o + 13)) (gB M1 (o + 41)) else gB M1 a := by subst hM2; intro a; rw [gB_wB]
  have b1 : ∀ a, gB M1 a = if a = o + 39 then cpR 64 (gB M (o + 11)) (gB M (o + 39)) else gB M a := by subst hM1; intro a; rw [gB_wB]; rfl
  have a3 : ∀ a, gA M3 a = if a = o + 42 then cpR 8 (gA M (o + 10)) (gA M (o + 42)) else gA M a := by subst hM3; intro a; rw [gA_wA, gA_wB, a1]
  have i3 : gI M3 = gI (sI M 1355 o (gI M 1301 o)) := by subst hM3 hM2 hM1; rfl
  have d11 : gB M3 (o + 11) = gB M (o + 11) := by rw [b3, if_neg (by omega), b2, if_neg (by omega), b1, if_neg (by omega)]
  have d12 : gB M3 (o + 12) = gB M (o + 12) := by rw [b3, if_neg (by omega), b2, if_neg (by omega), b1, if_neg (by omega)]
  have d13 : gB M3 (o + 13) = gB M (o + 13) := by rw [b3, if_neg (by omega), b2, if_neg (by omega), b1, if_neg (by omega)]
  have c12 : gB M2 (o + 12) = gB M (o + 12) := by rw [b2, if_neg (by omega), b1, if_neg (by omega)]
  have c13 : gB M1 (o + 13) = gB M (o + 13) := by rw [b1, if_neg (by omega)]
  refine ⟨M3, ?_, ⟨?_, fun i hi => ?_, fun i hi => ?_, fun i hi => ?_, fun i hi => ?_⟩, ⟨by subst hM3 hM2 hM1; rfl, by subst hM3 hM2 hM1; rfl, by subst hM3 hM2 hM1; rfl, by subst hM3 hM2 hM1; rfl, by subst hM3 hM2 hM1; rfl, by subst hM3 hM2 hM1; rfl, by subst hM3 hM2 hM1; rfl, by subst hM3 hM2 hM1; rfl, fun f a z1 z2 => ?_, fun a z1 z2 => ?_, fun a z1 z2 z3 z4 => ?_⟩, ?_, ?_, d11, d12, d13⟩
  · unfold F_X12_keeps
    simp only [bnd]
    refine Eq.trans e1 ?_
    unfold F_X12_keeps_p34
    refine Eq.trans e2 ?_
    unfold F_X12_keeps_p60
    refine Eq.trans e3 ?_
    rfl
  · rw [i3, gI_sf, ud_s]
  · rw [b3, if_neg (by omega), b2, if_neg (by omega), b1, if_pos rfl, cpR_lt hi]
  · rw [b3, if_neg (by omega), b2, if_pos rfl, cpR_lt hi, c13]
  · rw [b3, if_pos rfl, cpR_lt hi, c12]
  · rw [a3, if_pos rfl, cpR_lt hi]
  · rw [i3, gI_nf z2]
  · rw [a3, if_neg z2]
  · rw [b3, if_neg (by omega), b2, if_neg (by omega), b1, if_neg (by omega)]
  · rw [i3, gI_nf (by omega)]
  · rw [a3, if_neg (by omega)]
theorem m_laysBack' {o : Nat} {W M : Mem} (hS : MSh o M) (hK : KP o W M) (hop : ∀ b, b < 8 → gA W (o + 10) b = 0 ∨ gA W (o + 10) b = 1) : ∃ M1, F_X12_laysBack M o = some (M1, ()) ∧ MRM o M M1 ∧ gI M1 1301 o = gI W 1301 o ∧ (∀ i, i < 8 → gA M1 (o + 10) i = gA W (o + 10) i) ∧ (∀ i, i < 64 → gB M1 (o + 11) i = gB W (o + 11) i) ∧ (∀ i, i < 8 → gB M1 (o + 12) i = gB W (o + 12) i) ∧ (∀ i, i < 9 → gB M1 (o + 13) i = gB W (o + 13) i) ∧ KP o W M1 ∧ (∀ i, 8 ≤ i → gA M1 (o + 10) i = gA M (o + 10) i) ∧ (∀ i, 64 ≤ i → gB M1 (o + 11) i = gB M (o + 11) i) ∧ (∀ i, 8 ≤ i → gB M1 (o + 12) i = gB M (o + 12) i) ∧ (∀ i, 9 ≤ i → gB M1 (o + 13) i = gB M (o + 13) i) := by
  obtain ⟨k1, k2, k3, k4, k5⟩ := hK
  have hS0 : MSh o (sI M 1301 o (gI M 1355 o)) := hS.to rfl rfl rfl rfl
  have e1 := m_laysBack_p10 hS0 F_X12_laysBack_p34 64 0 FU (by omega) (by unfold FU; omega)
  rw [cpR_zero, wB_self] at e1
  generalize hM1 : wB (sI M 1301 o (gI M 1355 o)) (o + 11) (cpR 64 (gB (sI M 1301 o (gI M 1355 o)) (o + 39)) (gB (sI M 1301 o (gI M 1355 o)) (o + 11))) = M1 at e1
  have hS1 : MSh o M1 := by subst hM1; exact hS.to rfl rfl rfl rfl
  have e2 := m_laysBack_p36 hS1 F_X12_laysBack_p60 9 0 FU (by omega) (by unfold FU; omega)
  rw [cpR_zero, wB_self] at e2
  generalize hM2 : wB M1 (o + 13) (cpR 9 (gB M1 (o + 41)) (gB M1 (o + 13))) = M2 at e2
  have hS2 : MSh o M2 := by subst hM2; exact hS1.to rfl rfl rfl rfl
  have a1 : gA M2 = gA M := by subst hM2 hM1; rfl
  have e3 := m_laysBack_p62 hS2 (by rw [a1]; exact fun b hb => by rw [k5 b hb]; exact hop b hb) F_X12_laysBack_p98 8 0 FU (by omega) (by unfold FU; omega)
  rw [cpR_zero, cpR_zero, wB_self, wA_self] at e3
  generalize hM3 : wA (wB M2 (o + 12) (cpR 8 (gB M2 (o + 40)) (gB M2 (o + 12)))) (o + 10) (cpR 8 (gA M2 (o + 42)) (gA M2 (o + 10))) = M3 at e3
  have b3 : ∀ a, gB M3 a = if a = o + 12 then cpR 8 (gB M2 (o + 40)) (gB M2 (o + 12)) else gB M2 a := by subst hM3; intro a; rw [gB_wA, gB_wB]
  have b2 : ∀ a, gB M2 a = if a = o + 13 then cpR 9 (gB M1 (o + 41)) (gB M1 (o + 13)) else gB M1 a := by subst hM2; intro a; rw [gB_wB]
  have b1 : ∀ a, gB M1 a = if a = o + 11 then cpR 64 (gB M (o + 39)) (gB M (o + 11)) else gB M a := by subst hM1; intro a; rw [gB_wB]; rfl
  have a3 : ∀ a, gA M3 a = if a = o + 10 then cpR 8 (gA M (o + 42)) (gA M (o + 10)) else gA M a := by subst hM3; intro a; rw [gA_wA, gA_wB, a1]
  have i3 : gI M3 = gI (sI M 1301 o (gI M 1355 o)) := by subst hM3 hM2 hM1; rfl
  have c40 : gB M2 (o + 40) = gB M (o + 40) := by rw [b2, if_neg (by omega), b1, if_neg (by omega)]
  have c41 : gB M1 (o + 41) = gB M (o + 41) := by rw [b1, if_neg (by omega)]
  have s39 : gB M3 (o + 39) = gB M (o + 39) := by rw [b3, if_neg (by omega), b2, if_neg (by omega), b1, if_neg (by omega)]
  have s40 : gB M3 (o + 40) = gB M (o + 40) := by rw [b3, if_neg (by omega), b2, if_neg (by omega), b1, if_neg (by omega)]
  have s41 : gB M3 (o + 41) = gB M (o + 41) := by rw [b3, if_neg (by omega), b2, if_neg (by omega), b1, if_neg (by omega)]
  have s42 : gA M3 (o + 42) = gA M (o + 42) := by rw [a3, if_neg (by omega)]
  refine ⟨M3, ?_, ⟨by subst hM3 hM2 hM1; rfl, by subst hM3 hM2 hM1; rfl, by subst hM3 hM2 hM1; rfl, by subst hM3 hM2 hM1; rfl, by subst hM3 hM2 hM1; rfl, by subst hM3 hM2 hM1; rfl, by subst hM3 hM2 hM1; rfl, by subst hM3 hM2 hM1; rfl, fun f a z1 z2 => ?_, fun a z1 z2 => ?_, fun a z1 z2 z3 z4 => ?_⟩, ?_, fun i hi => ?_, fun i hi => ?_, fun i hi => ?_, fun i hi => ?_, ⟨?_, fun i hi => ?_, fun i hi => ?_, fun i hi => ?_, fun i hi => ?_⟩, fun i hi => ?_, fun i hi => ?_, fun i hi => ?_, fun i hi => ?_⟩
  · unfold F_X12_laysBack
    simp only [bnd]
    refine Eq.trans e1 ?_
    unfold F_X12_laysBack_p34
    refine Eq.trans e2 ?_
    unfold F_X12_laysBack_p60
    refine Eq.trans e3 ?_
    rfl
  · rw [i3, gI_nf z1]
  · rw [a3, if_neg z1]
  · rw [b3, if_neg (by omega), b2, if_neg (by omega), b1, if_neg (by omega)]
  · rw [i3, gI_sf, ud_s, k1]
  · rw [a3, if_pos rfl, cpR_lt hi, k5 i hi]
  · rw [b3, if_neg (by omega), b2, if_neg (by omega), b1, if_pos rfl, cpR_lt hi, k2 i hi]
  · rw [b3, if_pos rfl, cpR_lt hi, c40, k4 i hi]
  · rw [b3, if_neg (by omega), b2, if_pos rfl, cpR_lt hi, c41, k3 i hi]
  · rw [i3, gI_nf (by omega), k1]
  · rw [s39, k2 i hi]
  · rw [s41, k3 i hi]
  · rw [s40, k4 i hi]
  · rw [s42, k5 i hi]
  · rw [a3, if_pos rfl]
    exact if_neg (by omega)
  · rw [b3, if_neg (by omega), b2, if_neg (by omega), b1, if_pos rfl]
    exact if_neg (by omega)
  · rw [b3, if_pos rfl]
    refine (if_neg (by omega)).trans ?_
    rw [b2, if_neg (by omega), b1, if_neg (by omega)]
  · rw [b3, if_neg (by omega), b2, if_pos rfl]
    refine (if_neg (by omega)).trans ?_
    rw [b1, if_neg (by omega)]
