theorem c_force_loop {x o : Nat} {M W : Mem} (hC : CSh x M) (hI : MI o W) {ua : Nat → Nat} (hR : RuR x M o W ua) (k : Mem → Option Nat → Option (Mem × Option Nat)) (p d : Int32) : ∀ (q i f : Nat), i + q = nrW W o → q < f →
    F_X6_inForce_p5 k f M (x + 9) p d ((bestS (gA W (o + 24)) (gA W (o + 25)) p d i).map ua) (Int32.ofNat i) = k M ((bestS (gA W (o + 24)) (gA W (o + 25)) p d (nrW W o)).map ua) := by
  have h30 := hI.nr30
  intro q
  induction q with
  | zero =>
    intro i f hi hf
    obtain ⟨f, rfl⟩ : ∃ z, f = z + 1 := ⟨f - 1, by omega⟩
    have : i = nrW W o := by omega
    subst this
    unfold F_X6_inForce_p5
    rw [hC.r700, lr_some hC.k10, c_size, cl_some, hR.1.2.1, if_pos ((ofN_le (by omega) (by omega)).mpr (Nat.le_refl _))]
  | succ q ih =>
    intro i f hi hf
    obtain ⟨f, rfl⟩ : ∃ z, f = z + 1 := ⟨f - 1, by omega⟩
    obtain ⟨k1, k2, k3, -⟩ := hR.2 i (by omega)
    have hrec := ih (i + 1) f (by omega) (by omega)
    rw [bestS_succ] at hrec
    unfold F_X6_inForce_p5
    rw [hC.r700, lr_some hC.k10, c_size, cl_some, hR.1.2.1, if_neg (by rw [ofN_le (by omega) (by omega)]; omega)]
    rw [hC.r700, lr_some hC.k10, c_get hR.1 (by omega), cl_some, lr_some k1]
    simp only [k2, k3]
    by_cases c1 : gA W (o + 24) i = p
    · rw [if_pos c1] at hrec ⊢
      by_cases c2 : d < gA W (o + 25) i
      · rw [if_pos c2] at hrec ⊢
        unfold F_X6_inForce_p68
        simp only [bnd, ofN_succ]
        exact hrec
      · rw [if_neg c2] at hrec ⊢
        cases hb : bestS (gA W (o + 24)) (gA W (o + 25)) p d i with
        | none =>
          rw [hb] at hrec
          unfold F_X6_inForce_p65 F_X6_inForce_p68
          simp only [Option.map_none, nul, bnd, ofN_succ]
          exact hrec
        | some c =>
          rw [hb] at hrec
          dsimp only at hrec
          have hc := bestS_lt hb
          obtain ⟨j1, j2, j3, -⟩ := hR.2 c (by omega)
          unfold F_X6_inForce_p65 F_X6_inForce_p68
          simp only [Option.map_some, nul, grd_pos j1, j3, bnd, ofN_succ]
          by_cases c3 : gA W (o + 25) i < gA W (o + 25) c
          · rw [if_pos c3] at hrec ⊢
            exact hrec
          · rw [if_neg c3] at hrec ⊢
            exact hrec
    · rw [if_neg c1] at hrec ⊢
      unfold F_X6_inForce_p68
      simp only [bnd, ofN_succ]
      exact hrec
theorem c_inForce {x o : Nat} {M W : Mem} (hC : CSh x M) (hI : MI o W) {ua : Nat → Nat} (hR : RuR x M o W ua) (p d : Int32) : F_X6_inForce M (x + 9) p d = some (M, (bestS (gA W (o + 24)) (gA W (o + 25)) p d (nrW W o)).map ua) :=
  c_force_loop hC hI hR F_X6_inForce_p74 p d (nrW W o) 0 FU (by omega) (by have := hI.nr30; unfold FU; omega)
theorem c_p127 (M : Mem) (v : Int64) : F_X6_step_p127 M v = some (M, clampS v) := by
  unfold F_X6_step_p127 F_X6_step_p159 clampS cutS
  by_cases h1 : v < (-1000000000 : Int64)
  · rw [if_neg (fun h => absurd ((lg_cmp_ge _ _).mp h) (Int64.not_le.mpr h1)), if_pos h1]
  · rw [if_pos ((lg_cmp_ge _ _).mpr (Int64.not_lt.mp h1)), if_neg h1]
    by_cases h2 : (1000000000 : Int64) < v
    · rw [if_neg (fun h => absurd ((lg_cmp_le _ _).mp h) (Int64.not_le.mpr h2)), if_pos h2]
    · rw [if_pos ((lg_cmp_le _ _).mpr (Int64.not_lt.mp h2)), if_neg h2]
theorem c_step (M : Mem) {op code : Int32} (h1 : 20 ≤ code.toInt) (h2 : code.toInt ≤ 26) (hop : op.toInt = code.toInt - 20) (a b : Int64) : F_X6_step M op a b = some (M, clampS (twoS code a b)) := by
  unfold F_X6_step swi twoS
  rw [if_neg (by omega), hop]
  rcases (show code.toInt = 20 ∨ code.toInt = 21 ∨ code.toInt = 22 ∨ code.toInt = 23 ∨ code.toInt = 24 ∨ code.toInt = 25 ∨ code.toInt = 26 by omega) with h | h | h | h | h | h | h
  · rw [h]
    exact c_p127 M (a + b)
  · rw [h]
    exact c_p127 M (a - b)
  · rw [h]
    exact c_p127 M (a * b)
  · rw [h]
    show (if lg_cmp b 0 = 0 then F_X6_step_p77 M 0 else grd (¬ b = 0) (F_X6_step_p77 M (a / b))) = some (M, clampS (if b = 0 then 0 else a / b))
    by_cases hb : b = 0
    · rw [if_pos ((lg_cmp_eq _ _).mpr hb), if_pos hb]
      exact c_p127 M 0
    · rw [if_neg (fun h => hb ((lg_cmp_eq _ _).mp h)), if_neg hb, grd_pos hb]
      exact c_p127 M _
  · rw [h]
    show (if 0 ≤ lg_cmp a b then F_X6_step_p93 M 0 else F_X6_step_p93 M 1) = some (M, clampS (if a < b then 1 else 0))
    by_cases hb : a < b
    · rw [if_neg (fun h => absurd ((lg_cmp_ge _ _).mp h) (Int64.not_le.mpr hb)), if_pos hb]
      exact c_p127 M _
    · rw [if_pos ((lg_cmp_ge _ _).mpr (Int64.not_lt.mp hb)), if_neg hb]
      exact c_p127 M _
  · rw [h]
    show (if lg_cmp a b = 0 then F_X6_step_p109 M 1 else F_X6_step_p109 M 0) = some (M, clampS (if a = b then 1 else 0))
    by_cases hb : a = b
    · rw [if_pos ((lg_cmp_eq _ _).mpr hb), if_pos hb]
      exact c_p127 M _
    · rw [if_neg (fun h => hb ((lg_cmp_eq _ _).mp h)), if_neg hb]
      exact c_p127 M _
  · rw [h]
    show (if lg_cmp a b ≤ 0 then F_X6_step_p125 M 0 else F_X6_step_p125 M 1) = some (M, clampS (if b < a then 1 else 0))
    by_cases hb : b < a
    · rw [if_neg (fun h => absurd ((lg_cmp_le _ _).mp h) (Int64.not_le.mpr hb)), if_pos hb]
      exact c_p127 M _
    · rw [if_pos ((lg_cmp_le _ _).mpr (Int64.not_lt.mp hb)), if_neg hb]
      exact c_p127 M _
theorem cmap_num {c : Int32} (h : 1000 ≤ c.toInt ∧ c.toInt ≤ 100999) : cmap c = c - 1000 ∧ ¬ cmap c < 0 ∧ (-10 : Int32) < cmap c := by
  have e : cmap c = c - 1000 := if_pos h.1
  have h1 := h.1
  have h2 := h.2
  have e2 : (c - 1000).toInt = c.toInt - 1000 := i32_sub (by rw [t1000]; omega) (by rw [t1000]; omega)
  have z : (0 : Int32).toInt = 0 := by decide
  have z1 : (-10 : Int32).toInt = -10 := by decide
  refine ⟨e, ?_, ?_⟩
  · rw [e, i32_lt, e2, z]
    omega
  · rw [e, i32_lt, e2, z1]
    omega
theorem cmap_let {c : Int32} (h : 0 ≤ c.toInt ∧ c.toInt < 9) : cmap c < 0 ∧ (-10 : Int32) < cmap c ∧ (-1 : Int32) - cmap c = c := by
  have h1 := h.1
  have h2 := h.2
  have e : cmap c = -1 - c := by
    unfold cmap
    rw [if_neg (by omega), if_pos h2]
  have z : (0 : Int32).toInt = 0 := by decide
  have z1 : (-10 : Int32).toInt = -10 := by decide
  have z2 : (-1 : Int32).toInt = -1 := by decide
  have e2 : (-1 - c).toInt = -1 - c.toInt := by rw [i32_sub (by rw [z2]; omega) (by rw [z2]; omega), z2]
  refine ⟨?_, ?_, ?_⟩
  · rw [e, i32_lt, e2, z]
    omega
  · rw [e, i32_lt, e2, z1]
    omega
  · rw [e]
    apply i32_ext
    rw [i32_sub (by rw [z2, e2]; omega) (by rw [z2, e2]; omega), e2, z2]
    omega
theorem cmap_opr {c : Int32} (h : opr c) : ¬ (-10 : Int32) < cmap c ∧ ((-10 : Int32) - cmap c).toInt = c.toInt - 20 := by
  have h1 := h.1
  have h2 := h.2
  have e : cmap c = 10 - c := by
    unfold cmap
    rw [if_neg (by omega), if_neg (by omega)]
  have z1 : (-10 : Int32).toInt = -10 := by decide
  have z2 : (10 : Int32).toInt = 10 := by decide
  have e2 : (10 - c).toInt = 10 - c.toInt := by rw [i32_sub (by rw [z2]; omega) (by rw [z2]; omega), z2]
  refine ⟨?_, ?_⟩
  · rw [e, i32_lt, e2, z1]
    omega
  · rw [e, i32_sub (by rw [z1, e2]; omega) (by rw [z1, e2]; omega), e2, z1]
    omega
theorem c_val_let {x : Nat} {M : Mem} (h7 : gR M 701 (x + 9) = some (x + 11)) (hk : gK M (x + 11) = 21) (hn : gN M (x + 11) = 9) {z c : Int32} (h1 : z < 0) (h2 : (-1 : Int32) - z = c) (c5 : ¬ c < 0) (c6 : ¬ Int32.ofNat 9 ≤ c) (c3 : inb c 9) : F_X6_valueOf M (x + 9) z = some (M, gB M (x + 11) (ixn c)) := by
  unfold F_X6_valueOf
  rw [if_pos h1, h2]
  simp only [bnd]
  rw [if_neg c5, h7, lr_some hk, hn, if_neg c6, lr_some hk, hn, grd_pos c3]
  rfl
theorem c_val_num {M : Mem} {a : Nat} {z : Int32} (h1 : ¬ z < 0) : F_X6_valueOf M a z = some (M, z.toInt64) := by
  unfold F_X6_valueOf
  rw [if_neg h1]
theorem c_val_let2 {x : Nat} {M : Mem} (hC : CSh x M) {c : Int32} (hp : 0 ≤ c.toInt ∧ c.toInt < 9) : F_X6_valueOf M (x + 9) (cmap c) = some (M, gB M (x + 11) (ixn c)) := by
  obtain ⟨m1, m2, m3⟩ := cmap_let hp
  have c5 : ¬ c < 0 := by
    intro h
    have h := i32_lt.mp h
    have z : (0 : Int32).toInt = 0 := by decide
    omega
  have c6 : ¬ Int32.ofNat 9 ≤ c := by
    intro h
    have h := i32_le.mp h
    have z : (Int32.ofNat 9).toInt = 9 := by decide
    omega
  exact c_val_let hC.r701 hC.k11 hC.n11 m1 m3 c5 c6 ⟨hp.1, hp.2⟩
theorem c_work_push {k45 : Mem → Option (Mem × Int64)} {k113 : Mem → Nat → Int32 → Option (Mem × Int64)} {f x cr : Nat} {M M1 : Mem} {xs xn xi z : Int32} {v : Int64} {n : Nat} (h1 : ¬ xs ≤ xi) (h2 : gN M cr = 60) (h3 : ¬ Int32.ofNat 60 ≤ xi) (h4 : inb xi 60) (h5 : gA M cr (ixn xi) = z) (h6 : (-10 : Int32) < z) (h7 : gR M 702 (x + 9) = some (x + 12)) (h8 : gK M (x + 12) = 21) (h9 : gN M (x + 12) = 60) (h10 : ¬ Int32.ofNat 60 ≤ xn) (h11 : F_X6_valueOf M (x + 9) z = some (M, v)) (h12 : inb xn 60) (h13 : ixn xn = n) (h14 : sB M (x + 12) n v = M1) :
    F_X6_workOut_p5 k45 k113 (f + 1) M (x + 9) cr xs xn xi = F_X6_workOut_p5 k45 k113 f M1 (x + 9) cr xs (xn + 1) (xi + 1) := by
  conv => lhs; unfold F_X6_workOut_p5
  rw [if_neg h1, h2, if_neg h3, grd_pos h4, h5]
  simp only [bnd]
  rw [if_pos h6, h7, lr_some h8, h9, if_neg h10, lr_some h8, h11, cl_some, h9, grd_pos h12, h13, h14]
  rfl
theorem c_work_op {k45 : Mem → Option (Mem × Int64)} {k113 : Mem → Nat → Int32 → Option (Mem × Int64)} {f x cr : Nat} {M M1 : Mem} {xs xn xi z op y1 y2 : Int32} {v : Int64} {n1 n2 : Nat} (h1 : ¬ xs ≤ xi) (h2 : gN M cr = 60) (h3 : ¬ Int32.ofNat 60 ≤ xi) (h4 : inb xi 60) (h5 : gA M cr (ixn xi) = z) (h6 : ¬ (-10 : Int32) < z) (h7 : gR M 702 (x + 9) = some (x + 12)) (h8 : gK M (x + 12) = 21) (h9 : gN M (x + 12) = 60) (h10 : ¬ xn < (2 : Int32)) (h11 : xn ≤ Int32.ofNat 60) (e1 : xn + (-1) = y1) (e2 : y1 - (1 : Int32) = y2) (g1 : inb y1 60) (g2 : ixn y1 = n1) (g3 : inb y2 60) (g4 : ixn y2 = n2) (h12 : (-10 : Int32) - z = op) (h13 : F_X6_step M op (gB M (x + 12) n2) (gB M (x + 12) n1) = some (M, v)) (h14 : sB M (x + 12) n2 v = M1) :
    F_X6_workOut_p5 k45 k113 (f + 1) M (x + 9) cr xs xn xi = F_X6_workOut_p5 k45 k113 f M1 (x + 9) cr xs y1 (xi + 1) := by
  conv => lhs; unfold F_X6_workOut_p5
  rw [if_neg h1, h2, if_neg h3, grd_pos h4, h5]
  simp only [bnd]
  rw [if_neg h6, if_neg h10, h7, lr_some h8, h9, if_pos h11, lr_some h8, lr_some h8, e1, e2, h9, grd_pos g3, lr_some h8, h9, grd_pos g1, h12, g2, g4, h13, cl_some, h9, grd_pos g3, h14]
  rfl
theorem c_work_loop {x : Nat} {M : Mem} (hC : CSh x M) (p : Nat) (φ2 φ3 φ4 φg t l : Nat → Int64) {cr r sz : Nat} {co : Nat → Int32} (hsz : sz ≤ 60) (hN : gN M cr = 60) (hco : ∀ i, i < sz → gA M cr i = cmap (co (62 * r + i))) : ∀ (q i n f : Nat) (s : Nat → Int64), i + q = sz → q < f → okC co q (62 * r + i) n →
    F_X6_workOut_p5 F_X6_workOut_p45 F_X6_workOut_p113 f (PM M x p φ2 φ3 φ4 φg t l s) (x + 9) cr (Int32.ofNat sz) (Int32.ofNat n) (Int32.ofNat i) = some (PM M x p φ2 φ3 φ4 φg t l (runC co l q (62 * r + i) n s), runC co l q (62 * r + i) n s 0) := by
  intro q
  induction q with
  | zero =>
    intro i n f s hi hf hok
    obtain ⟨f, rfl⟩ : ∃ z, f = z + 1 := ⟨f - 1, by omega⟩
    unfold okC at hok
    subst hok
    have e1 : ¬ Int32.ofNat 1 ≤ 0 := by decide
    have e2 : ¬ Int32.ofNat 60 < Int32.ofNat 1 := by decide
    have e3 : inb (Int32.ofNat 1 - (1 : Int32)) 60 := by decide
    have e4 : ixn (Int32.ofNat 1 - (1 : Int32)) = 0 := by decide
    unfold F_X6_workOut_p5
    rw [if_pos ((ofN_le (by omega) (by omega)).mpr (by omega))]
    unfold F_X6_workOut_p113 F_X6_workOut_p138
    rw [if_neg e1]
    simp only [gR_PM, gK_PM, gN_PM, PM_s, hC.r702, lr_some hC.k12, hC.n12, if_neg e2, grd_pos e3, e4]
    rfl
  | succ q ih =>
    intro i n f s hi hf hok
    obtain ⟨f, rfl⟩ : ∃ z, f = z + 1 := ⟨f - 1, by omega⟩
    have h1 : ¬ Int32.ofNat sz ≤ Int32.ofNat i := by rw [ofN_le (by omega) (by omega)]; omega
    have h3 : ¬ Int32.ofNat 60 ≤ Int32.ofNat i := by rw [ofN_le (by omega) (by omega)]; omega
    have h4 : inb (Int32.ofNat i) 60 := ofN_inb (by omega) (by omega)
    have h5 : ixn (Int32.ofNat i) = i := ofN_ix (by omega)
    have hc := hco i (by omega)
    have hC1 := cshPM hC p φ2 φ3 φ4 φg t l s
    unfold okC at hok
    unfold runC
    rcases hok with ⟨hp, hn, hok⟩ | ⟨hp, hn2, hn, hok⟩
    · have g1 : ¬ Int32.ofNat 60 ≤ Int32.ofNat n := by rw [ofN_le (by omega) (by omega)]; omega
      have n1 : inb (Int32.ofNat n) 60 := ofN_inb (by omega) (by omega)
      have n2 : ixn (Int32.ofNat n) = n := ofN_ix (by omega)
      rcases hp with hp | hp
      · obtain ⟨m1, m2, m3⟩ := cmap_num hp
        rw [if_pos hp.1]
        have hrec := ih (i + 1) (n + 1) f (ud s n ((co (62 * r + i) - (1000 : Int32)).toInt64)) (by omega) (by omega) hok
        rw [c_work_push (M := PM M x p φ2 φ3 φ4 φg t l s) (M1 := PM M x p φ2 φ3 φ4 φg t l (ud s n ((co (62 * r + i) - (1000 : Int32)).toInt64))) h1 hN h3 h4 (by rw [h5]; exact hc) m3 hC1.r702 hC1.k12 hC1.n12 g1 (c_val_num m2) n1 n2 (by rw [sPs, m1]), ofN_succ, ofN_succ]
        exact hrec
      · obtain ⟨m1, m2, m3⟩ := cmap_let hp
        rw [if_neg (show ¬ 1000 ≤ (co (62 * r + i)).toInt by omega), if_pos hp.2]
        have hrec := ih (i + 1) (n + 1) f (ud s n (l (ixn (co (62 * r + i))))) (by omega) (by omega) hok
        rw [c_work_push (M := PM M x p φ2 φ3 φ4 φg t l s) (M1 := PM M x p φ2 φ3 φ4 φg t l (ud s n (l (ixn (co (62 * r + i)))))) h1 hN h3 h4 (by rw [h5]; exact hc) m2 hC1.r702 hC1.k12 hC1.n12 g1 (c_val_let2 hC1 hp) n1 n2 (by rw [sPs, PM_l]), ofN_succ, ofN_succ]
        exact hrec
    · obtain ⟨m1, m2⟩ := cmap_opr hp
      have g1 := hp.1
      have g2 := hp.2
      rw [if_neg (show ¬ 1000 ≤ (co (62 * r + i)).toInt by omega), if_neg (show ¬ (co (62 * r + i)).toInt < 9 by omega)]
      have e1 : Int32.ofNat n + (-1 : Int32) = Int32.ofNat (n - 1) := by
        rw [show (-1 : Int32) = -Int32.ofNat 1 by decide, ← Int32.sub_eq_add_neg, ofN_subk (by omega) (by omega)]
      have e2 : Int32.ofNat (n - 1) - (1 : Int32) = Int32.ofNat (n - 2) := by
        rw [show (1 : Int32) = Int32.ofNat 1 by decide, ofN_subk (by omega) (by omega), Nat.sub_sub]
      have n1 : inb (Int32.ofNat (n - 1)) 60 := ofN_inb (by omega) (by omega)
      have n2 : ixn (Int32.ofNat (n - 1)) = n - 1 := ofN_ix (by omega)
      have n3 : inb (Int32.ofNat (n - 2)) 60 := ofN_inb (by omega) (by omega)
      have n4 : ixn (Int32.ofNat (n - 2)) = n - 2 := ofN_ix (by omega)
      have k1 : ¬ Int32.ofNat n < (2 : Int32) := by
        rw [show (2 : Int32) = Int32.ofNat 2 by decide, ofN_lt (by omega) (by omega)]
        omega
      have k2 : Int32.ofNat n ≤ Int32.ofNat 60 := (ofN_le (by omega) (by omega)).mpr hn
      have hrec := ih (i + 1) (n - 1) f (ud s (n - 2) (clampS (twoS (co (62 * r + i)) (s (n - 2)) (s (n - 1))))) (by omega) (by omega) hok
      rw [c_work_op (M := PM M x p φ2 φ3 φ4 φg t l s) (M1 := PM M x p φ2 φ3 φ4 φg t l (ud s (n - 2) (clampS (twoS (co (62 * r + i)) (s (n - 2)) (s (n - 1)))))) h1 hN h3 h4 (by rw [h5]; exact hc) m1 hC1.r702 hC1.k12 hC1.n12 k1 k2 e1 e2 n1 n2 n3 n4 rfl (c_step _ g1 g2 m2 _ _) (by rw [sPs, PM_s]), ofN_succ]
      exact hrec
/-- the letters' bounds: the reference's clamp does nothing -/
def NOk (W : Mem) (o hr : Nat) (h : Nat → Int64) (b : Nat) : Prop := ∀ k, k < 9 → clampS (nmS W o hr h b k) = nmS W o hr h b k
theorem c_worth {x o hr : Nat} {M W : Mem} (hC : CSh x M) (hI : MI o W) {ua : Nat → Nat} (hR : RuR x M o W ua) (p : Nat) {φ2 φ3 φ4 φg t l s h : Nat → Int64} {b a r0 r1 : Nat} (hN : NOk W o hr h b) (pp : Int32)
    (hb0 : gI M 100 a = Int32.ofNat b) (hb1 : gI M 103 a = gA W (o + 7) b) (hb2 : gR M 105 a = some r0) (hb3 : gR M 106 a = some r1) (hb4 : gK M r0 = 6) (hb5 : gK M r1 = 6) (hw0 : φ3 r0 = wS W o h b 0) (hw1 : φ3 r1 = wS W o h b (rgW W o b - 1)) (hl : ∀ k, k < 5 → l k = nmS W o hr h b k) :
    ∃ l1 s1, F_X6_worth (PM M x p φ2 φ3 φ4 φg t l s) (x + 9) ((bestS (gA W (o + 24)) (gA W (o + 25)) pp (Int32.ofNat (hr / 24)) (nrW W o)).map ua) a = some (PM M x p φ2 φ3 φ4 φg t l1 s1, mayS W o hr h pp b) ∧ ∀ k, k < 5 → l1 k = nmS W o hr h b k := by
  unfold mayS
  cases hbs : bestS (gA W (o + 24)) (gA W (o + 25)) pp (Int32.ofNat (hr / 24)) (nrW W o) with
  | none =>
    refine ⟨l, s, ?_, hl⟩
    unfold F_X6_worth
    rfl
  | some r =>
    have hrl := bestS_lt hbs
    have hr30 := hI.nr30
    obtain ⟨z1, z2, z3⟩ := hI.ru hrl
    obtain ⟨k1, k2, k3, k4, k5, k6, k7, k8, k9⟩ := hR.2 r hrl
    have i5 : inb (5 : Int32) 9 := by decide
    have i6 : inb (6 : Int32) 9 := by decide
    have i7 : inb (7 : Int32) 9 := by decide
    have i8 : inb (8 : Int32) 9 := by decide
    have j5 : ixn (5 : Int32) = 5 := by decide
    have j6 : ixn (6 : Int32) = 6 := by decide
    have j7 : ixn (7 : Int32) = 7 := by decide
    have j8 : ixn (8 : Int32) = 8 := by decide
    have hnm : ∀ k, k < 9 → ud (ud (ud (ud l 5 (wS W o h b 0 / 1000)) 6 (wS W o h b (rgW W o b - 1) / 1000)) 7 (Int32.ofNat b).toInt64) 8 (gA W (o + 7) b).toInt64 k = nmS W o hr h b k := by
      intro k hk
      rcases (show k < 5 ∨ k = 5 ∨ k = 6 ∨ k = 7 ∨ k = 8 by omega) with h5 | rfl | rfl | rfl | rfl
      · rw [ud_n _ (by omega), ud_n _ (by omega), ud_n _ (by omega), ud_n _ (by omega)]
        exact hl k h5
      · rw [nmS_5, ud_n _ (by omega), ud_n _ (by omega), ud_n _ (by omega), ud_s, wS]
      · rw [nmS_6, ud_n _ (by omega), ud_n _ (by omega), ud_s, wS]
      · rw [nmS_7, ud_n _ (by omega), ud_s]
      · rw [nmS_8, ud_s]
    have hw := c_work_loop hC p φ2 φ3 φ4 φg t (ud (ud (ud (ud l 5 (wS W o h b 0 / 1000)) 6 (wS W o h b (rgW W o b - 1) / 1000)) 7 (Int32.ofNat b).toInt64) 8 (gA W (o + 7) b).toInt64) z2 k6 k9 (szW W o r) 0 0 FU s (by omega) (by unfold FU; omega) z3
    have ev : runC (gA W (o + 27)) (ud (ud (ud (ud l 5 (wS W o h b 0 / 1000)) 6 (wS W o h b (rgW W o b - 1) / 1000)) 7 (Int32.ofNat b).toInt64) 8 (gA W (o + 7) b).toInt64) (szW W o r) (62 * r + 0) 0 s 0 = wkS (gA W (o + 27)) (fun k => clampS (nmS W o hr h b k)) r (szW W o r) := by
      unfold wkS
      exact runC_ind (fun k hk => (hnm k hk).trans (hN k hk).symm) _ _ _ _ _ z3 (fun i hi => absurd hi (Nat.not_lt_zero i))
    refine ⟨ud (ud (ud (ud l 5 (wS W o h b 0 / 1000)) 6 (wS W o h b (rgW W o b - 1) / 1000)) 7 (Int32.ofNat b).toInt64) 8 (gA W (o + 7) b).toInt64, runC (gA W (o + 27)) (ud (ud (ud (ud l 5 (wS W o h b 0 / 1000)) 6 (wS W o h b (rgW W o b - 1) / 1000)) 7 (Int32.ofNat b).toInt64) 8 (gA W (o + 7) b).toInt64) (szW W o r) (62 * r + 0) 0 s, ?_, fun k hk => (hnm k (by omega))⟩
    unfold F_X6_worth
    simp only [Option.map_some, nul, gR_PM, gK_PM, gN_PM, gI_PM, hC.r701, lr_some hC.k11, hC.n11, hb0, hb1, hb2, hb3, lr_some hb4, lr_some hb5, grd_pos i5, grd_pos i6, grd_pos i7, grd_pos i8, j5, j6, j7, j8, PM_503, hw0, hw1, sPl, bnd, grd_pos k1, k4, lr_some k5, k7, z1]
    have hw : F_X6_workOut (PM M x p φ2 φ3 φ4 φg t (ud (ud (ud (ud l 5 (wS W o h b 0 / 1000)) 6 (wS W o h b (rgW W o b - 1) / 1000)) 7 (Int32.ofNat b).toInt64) 8 (gA W (o + 7) b).toInt64) s) (x + 9) (ua r + 1) (Int32.ofNat (szW W o r)) = _ := hw
    rw [hw, cl_some, ev]
    unfold F_X6_worth_p103 cutS
    dsimp only
    generalize wkS (gA W (o + 27)) (fun k => clampS (nmS W o hr h b k)) r (szW W o r) = v
    by_cases h1 : v < (0 : Int64)
    · rw [if_neg (fun h => absurd ((lg_cmp_ge _ _).mp h) (Int64.not_le.mpr h1)), if_pos h1]
    · rw [if_pos ((lg_cmp_ge _ _).mpr (Int64.not_lt.mp h1)), if_neg h1]
      by_cases h2 : (99999 : Int64) < v
      · rw [if_neg (fun h => absurd ((lg_cmp_le _ _).mp h) (Int64.not_le.mpr h2)), if_pos h2]
      · rw [if_pos ((lg_cmp_le _ _).mpr (Int64.not_lt.mp h2)), if_neg h2]
