theorem c_force_loop {x o : Nat} {M W : Mem} (hC : CSh x M) (hI : MI o W) {ua : Nat → Nat} (hR : RuR x M o W ua) (k : Mem → Option Nat → Option (Mem × Option Nat)) (p d : Int32) : ∀ (q i f : Nat), i + q = nrW W o → q < f →
    F_X6_inForce_p5 k f M (x + 9) p d ((bestS (gA W (o + 24)) (gA W (o + 25)) p d i).map ua) (Int32.ofNat i) = k M ((bestS (gA W (o + 24)) (gA W (o + 25)) p d (nrW W o)).map ua) := by
  have h30 := hI.nr30
  intro q
  induction q with
  | zero =>
    intro i f hi hf
    obtain ⟨f, rfl⟩ : ∃ z, f = z + 1 := ⟨f - 1, by omega⟩
    have : i = nrW W o := by omega
    subst this
    unfold F_X6_inForce_p5
    rw [hC.r700, lr_some hC.k10, c_size, cl_some, hR.1.2.1, if_pos ((ofN_le (by omega) (by omega)).mpr (Nat.le_refl _))]
  | succ q ih =>
    intro i f hi hf
    obtain ⟨f, rfl⟩ : ∃ z, f = z + 1 := ⟨f - 1, by omega⟩
    obtain ⟨k1, k2, k3, -⟩ := hR.2 i (by omega)
    have hrec := ih (i + 1) f (by omega) (by omega)
    rw [bestS_succ] at hrec
    unfold F_X6_inForce_p5
    rw [hC.r700, lr_some hC.k10, c_size, cl_some, hR.1.2.1, if_neg (by rw [ofN_le (by omega) (by omega)]; omega)]
    rw [hC.r700, lr_some hC.k10, c_get hR.1 (by omega), cl_some, lr_some k1]
    simp only [k2, k3]
    by_cases c1 : gA W (o + 24) i = p
    · rw [if_pos c1] at hrec ⊢
      by_cases c2 : d < gA W (o + 25) i
      · rw [if_pos c2] at hrec ⊢
        unfold F_X6_inForce_p68
        simp only [bnd, ofN_succ]
        exact hrec
      · rw [if_neg c2] at hrec ⊢
        cases hb : bestS (gA W (o + 24)) (gA W (o + 25)) p d i with
        | none =>
          rw [hb] at hrec
          unfold F_X6_inForce_p65 F_X6_inForce_p68
          simp only [Option.map_none, nul, bnd, ofN_succ]
          exact hrec
        | some c =>
          rw [hb] at hrec
          dsimp only at hrec
          have hc := bestS_lt hb
          obtain ⟨j1, j2, j3, -⟩ := hR.2 c (by omega)
          unfold F_X6_inForce_p65 F_X6_inForce_p68
          simp only [Option.map_some, nul, grd_pos j1, j3, bnd, ofN_succ]
          by_cases c3 : gA W (o + 25) i < gA W (o + 25) c
          · rw [if_pos c3] at hrec ⊢
            exact hrec
          · rw [if_neg c3] at hrec ⊢
            exact hrec
    · rw [if_neg c1] at hrec ⊢
      unfold F_X6_inForce_p68
      simp only [bnd, ofN_succ]
      exact hrec
theorem c_inForce {x o : Nat} {M W : Mem} (hC : CSh x M) (hI : MI o W) {ua : Nat → Nat} (hR : RuR x M o W ua) (p d : Int32) : F_X6_inForce M (x + 9) p d = some (M, (bestS (gA W (o + 24)) (gA W (o + 25)) p d (nrW W o)).map ua) :=
  c_force_loop hC hI hR F_X6_inForce_p74 p d (nrW W o) 0 FU (by omega) (by have := hI.nr30; unfold FU; omega)
theorem c_p127 (M : Mem) (v : Int64) : F_X6_step_p127 M v = some (M, clampS v) := by
  unfold F_X6_step_p127 F_X6_step_p159 clampS cutS
  by_cases h1 : v < (-1000000000 : Int64)
  · rw [if_neg (fun h => absurd ((lg_cmp_ge _ _).mp h) (Int64.not_le.mpr h1)), if_pos h1]
  · rw [if_pos ((lg_cmp_ge _ _).mpr (Int64.not_lt.mp h1)), if_neg h1]
    by_cases h2 : (1000000000 : Int64) < v
    · rw [if_neg (fun h => absurd ((lg_cmp_le _ _).mp h) (Int64.not_le.mpr h2)), if_pos h2]
    · rw [if_pos ((lg_cmp_le _ _).mpr (Int64.not_lt.mp h2)), if_neg h2]
theorem c_step (M : Mem) {op code : Int32} (h1 : 20 ≤ code.toInt) (h2 : code.toInt ≤ 26) (hop : op.toInt = code.toInt - 20) (a b : Int64) : F_X6_step M op a b = some (M, clampS (twoS code a b)) := by
  unfold F_X6_step swi twoS
  rw [if_neg (by omega), hop]
  rcases (show code.toInt = 20 ∨ code.toInt = 21 ∨ code.toInt = 22 ∨ code.toInt = 23 ∨ code.toInt = 24 ∨ code.toInt = 25 ∨ code.toInt = 26 by omega) with h | h | h | h | h | h | h
  · rw [h]
    exact c_p127 M (a + b)
  · rw [h]
    exact c_p127 M (a - b)
  · rw [h]
    exact c_p127 M (a * b)
  · rw [h]
    show (if lg_cmp b 0 = 0 then F_X6_step_p77 M 0 else grd (¬ b = 0) (F_X6_step_p77 M (a / b))) = some (M, clampS (if b = 0 then 0 else a / b))
    by_cases hb : b = 0
    · rw [if_pos ((lg_cmp_eq _ _).mpr hb), if_pos hb]
      exact c_p127 M 0
    · rw [if_neg (fun h => hb ((lg_cmp_eq _ _).mp h)), if_neg hb, grd_pos hb]
      exact c_p127 M _
  · rw [h]
    show (if 0 ≤ lg_cmp a b then F_X6_step_p93 M 0 else F_X6_step_p93 M 1) = some (M, clampS (if a < b then 1 else 0))
    by_cases hb : a < b
    · rw [if_neg (fun h => absurd ((lg_cmp_ge _ _).mp h) (Int64.not_le.mpr hb)), if_pos hb]
      exact c_p127 M _
    · rw [if_pos ((lg_cmp_ge _ _).mpr (Int64.not_lt.mp hb)), if_neg hb]
      exact c_p127 M _
  · rw [h]
    show (if lg_cmp a b = 0 then F_X6_step_p109 M 1 else F_X6_step_p109 M 0) = some (M, clampS (if a = b then 1 else 0))
    by_cases hb : a = b
    · rw [if_pos ((lg_cmp_eq _ _).mpr hb), if_pos hb]
      exact c_p127 M _
    · rw [if_neg (fun h => hb ((lg_cmp_eq _ _).mp h)), if_neg hb]
      exact c_p127 M _
  · rw [h]
    show (if lg_cmp a b ≤ 0 then F_X6_step_p125 M 0 else F_X6_step_p125 M 1) = some (M, clampS (if b < a then 1 else 0))
    by_cases hb : b < a
    · rw [if_neg (fun h => absurd ((lg_cmp_le _ _).mp h) (Int64.not_le.mpr hb)), if_pos hb]
      exact c_p127 M _
    · rw [if_pos ((lg_cmp_le _ _).mpr (Int64.not_lt.mp hb)), if_neg hb]
      exact c_p127 M _
theorem cmap_num {c : Int32} (h : 1000 ≤ c.toInt ∧ c.toInt ≤ 100999) : cmap c = c - 1000 ∧ ¬ cmap c < 0 ∧ (-10 : Int32) < cmap c := by
  have e : cmap c = c - 1000 := if_pos h.1
  have h1 := h.1
  have h2 := h.2
  have e2 : (c - 1000).toInt = c.toInt - 1000 := i32_sub (by rw [t1000]; omega) (by rw [t1000]; omega)
  have z : (0 : Int32).toInt = 0 := by decide
  have z1 : (-10 : Int32).toInt = -10 := by decide
  refine ⟨e, ?_, ?_⟩
  · rw [e, i32_lt, e2, z]
    omega
  · rw [e, i32_lt, e2, z1]
    omega
theorem cmap_let {c : Int32} (h : 0 ≤ c.toInt ∧ c.toInt < 9) : cmap c < 0 ∧ (-10 : Int32) < cmap c ∧ (-1 : Int32) - cmap c = c := by
  have h1 := h.1
  have h2 := h.2
  have e : cmap c = -1 - c := by
    unfold cmap
    rw [if_neg (by omega), if_pos h2]
  have z : (0 : Int32).toInt = 0 := by decide
  have z1 : (-10 : Int32).toInt = -10 := by decide
  have z2 : (-1 : Int32).toInt = -1 := by decide
  have e2 : (-1 - c).toInt = -1 - c.toInt := by rw [i32_sub (by rw [z2]; omega) (by rw [z2]; omega), z2]
  refine ⟨?_, ?_, ?_⟩
  · rw [e, i32_lt, e2, z]
    omega
  · rw [e, i32_lt, e2, z1]
    omega
  · rw [e]
    apply i32_ext
    rw [i32_sub (by rw [z2, e2]; omega) (by rw [z2, e2]; omega), e2, z2]
    omega
theorem cmap_opr {c : Int32} (h : opr c) : ¬ (-10 : Int32) < cmap c ∧ ((-10 : Int32) - cmap c).toInt = c.toInt - 20 := by
  have h1 := h.1
  have h2 := h.2
  have e : cmap c = 10 - c := by
    unfold cmap
    rw [if_neg (by omega), if_neg (by omega)]
  have z1 : (-10 : Int32).toInt = -10 := by decide
  have z2 : (10 : Int32).toInt = 10 := by decide
  have e2 : (10 - c).toInt = 10 - c.toInt := by rw [i32_sub (by rw [z2]; omega) (by rw [z2]; omega), z2]
  refine ⟨?_, ?_⟩
  · rw [e, i32_lt, e2, z1]
    omega
  · rw [e, i32_sub (by rw [z1, e2]; omega) (by rw [z1, e2]; omega), e2, z1]
    omega
theorem c_val_letA {x : Nat} {M : Mem} (hC : CSh x M) {c : Int32} (hp : 0 ≤ c.toInt ∧ c.toInt < 9) : F_X6_valueOf M (x + 9) (cmap c) = some (M, gB M (x + 11) (ixn c)) := by
  obtain ⟨m1, m2, m3⟩ := cmap_let hp
  have c3 : inb c 9 := ⟨hp.1, hp.2⟩
  have c5 : ¬ c < 0 := by
    intro h
    have h := i32_lt.mp h
    have z : (0 : Int32).toInt = 0 := by decide
    omega
  have c6 : ¬ Int32.ofNat 9 ≤ c := by
    intro h
    have h := i32_le.mp h
    have z : (Int32.ofNat 9).toInt = 9 := by decide
    omega
  unfold F_X6_valueOf F_X6_valueOf_p34 bnd
  rw [if_pos m1]
  sorry
theorem c_val_letB {x : Nat} {M : Mem} (hC : CSh x M) {c : Int32} (hp : 0 ≤ c.toInt ∧ c.toInt < 9) : F_X6_valueOf M (x + 9) (cmap c) = some (M, gB M (x + 11) (ixn c)) := by
  obtain ⟨m1, m2, m3⟩ := cmap_let hp
  have c3 : inb c 9 := ⟨hp.1, hp.2⟩
  have c5 : ¬ c < 0 := by
    intro h
    have h := i32_lt.mp h
    have z : (0 : Int32).toInt = 0 := by decide
    omega
  have c6 : ¬ Int32.ofNat 9 ≤ c := by
    intro h
    have h := i32_le.mp h
    have z : (Int32.ofNat 9).toInt = 9 := by decide
    omega
  unfold F_X6_valueOf F_X6_valueOf_p34 bnd
  sorry
theorem c_val_letC {x : Nat} {M : Mem} (hC : CSh x M) {c : Int32} (hp : 0 ≤ c.toInt ∧ c.toInt < 9) : F_X6_valueOf M (x + 9) (cmap c) = some (M, gB M (x + 11) (ixn c)) := by
  obtain ⟨m1, m2, m3⟩ := cmap_let hp
  have c3 : inb c 9 := ⟨hp.1, hp.2⟩
  have c5 : ¬ c < 0 := by
    intro h
    have h := i32_lt.mp h
    have z : (0 : Int32).toInt = 0 := by decide
    omega
  have c6 : ¬ Int32.ofNat 9 ≤ c := by
    intro h
    have h := i32_le.mp h
    have z : (Int32.ofNat 9).toInt = 9 := by decide
    omega
  unfold F_X6_valueOf F_X6_valueOf_p34 bnd
  rw [if_pos m1]
  generalize cmap c = z at m3 ⊢
  rw [m3]
  sorry
theorem c_val_letD {x : Nat} {M : Mem} (hC : CSh x M) {c : Int32} (hp : 0 ≤ c.toInt ∧ c.toInt < 9) : F_X6_valueOf M (x + 9) (cmap c) = some (M, gB M (x + 11) (ixn c)) := by
  obtain ⟨m1, m2, m3⟩ := cmap_let hp
  have c3 : inb c 9 := ⟨hp.1, hp.2⟩
  have c5 : ¬ c < 0 := by
    intro h
    have h := i32_lt.mp h
    have z : (0 : Int32).toInt = 0 := by decide
    omega
  have c6 : ¬ Int32.ofNat 9 ≤ c := by
    intro h
    have h := i32_le.mp h
    have z : (Int32.ofNat 9).toInt = 9 := by decide
    omega
  unfold F_X6_valueOf F_X6_valueOf_p34 bnd
  rw [if_pos m1]
  generalize cmap c = z at m3 ⊢
  rw [m3]
  dsimp only
  rw [if_neg c5]
  sorry
theorem c_val_letE {x : Nat} {M : Mem} (hC : CSh x M) {c : Int32} (hp : 0 ≤ c.toInt ∧ c.toInt < 9) : F_X6_valueOf M (x + 9) (cmap c) = some (M, gB M (x + 11) (ixn c)) := by
  obtain ⟨m1, m2, m3⟩ := cmap_let hp
  have c3 : inb c 9 := ⟨hp.1, hp.2⟩
  have c5 : ¬ c < 0 := by
    intro h
    have h := i32_lt.mp h
    have z : (0 : Int32).toInt = 0 := by decide
    omega
  have c6 : ¬ Int32.ofNat 9 ≤ c := by
    intro h
    have h := i32_le.mp h
    have z : (Int32.ofNat 9).toInt = 9 := by decide
    omega
  unfold F_X6_valueOf F_X6_valueOf_p34 bnd
  rw [if_pos m1]
  generalize cmap c = z at m3 ⊢
  rw [m3]
  dsimp only
  rw [if_neg c5, hC.r701, lr_some hC.k11, hC.n11]
  sorry
