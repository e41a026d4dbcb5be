theorem num_step {v b : Nat} (hv : v < 100000) (h1 : 48 ≤ b) (h2 : b ≤ 57) : (((10 : Int32) * Int32.ofNat v) + Int32.ofNat b) - (48 : Int32) = Int32.ofNat (10 * v + b - 48) := by
  rw [show (10 : Int32) = Int32.ofNat 10 from rfl, ofN_mulk, ← Int32.ofNat_add, show (48 : Int32) = Int32.ofNat 48 from rfl, ofN_subk (by omega) (by omega)]
theorem num_loop {x o T nr : Nat} {tb : Nat → Nat} {M W : Mem} (hc : CT x T tb M) (hm : MT o T nr tb W) (rm : Nat → Mem → Nat → Int32 → Option (Mem × Unit)) (kc km : Mem → Nat → Int32 → Option (Mem × Unit)) (u n : Int32) (κ γ : Nat → Int32) : ∀ (r i a v fc fm : Nat), i + r = 5 → r < fc → r < fm → a ≤ T → v < 10 ^ i → ∃ a1 v1, F_X9_readNumber_p4 kc fc (PC M x u (Int32.ofNat a) (-1) κ) (x + 13) (Int32.ofNat v) (Int32.ofNat i) = kc (PC M x u (Int32.ofNat a1) (-1) κ) (x + 13) (Int32.ofNat v1) ∧ F_X12_unit_p32 rm km fm (PQ W o n (Int32.ofNat a) 0 γ) o (Int32.ofNat v) (Int32.ofNat i) = km (PQ W o n (Int32.ofNat a1) 0 γ) o (Int32.ofNat v1) ∧ a ≤ a1 ∧ a1 ≤ T ∧ v1 < 100000 ∧ (i < 5 → a < T → 48 ≤ tb a → tb a ≤ 57 → a < a1) := by
  intro r
  induction r with
  | zero =>
    intro i a v fc fm hi hfc hfm ha hv
    obtain ⟨fc, rfl⟩ : ∃ z, fc = z + 1 := ⟨fc - 1, by omega⟩
    obtain ⟨fm, rfl⟩ : ∃ z, fm = z + 1 := ⟨fm - 1, by omega⟩
    have : i = 5 := by omega
    subst this
    refine ⟨a, v, ?_, ?_, Nat.le_refl _, ha, hv, fun h => by omega⟩
    · unfold F_X9_readNumber_p4
      rw [if_pos (show (5 : Int32) ≤ Int32.ofNat 5 by decide)]
    · unfold F_X12_unit_p32
      rw [if_pos (show (5 : Int32) ≤ Int32.ofNat 5 by decide)]
  | succ r ih =>
    intro i a v fc fm hi hfc hfm ha hv
    obtain ⟨fc, rfl⟩ : ∃ z, fc = z + 1 := ⟨fc - 1, by omega⟩
    obtain ⟨fm, rfl⟩ : ∃ z, fm = z + 1 := ⟨fm - 1, by omega⟩
    have hv5 : v < 100000 := Nat.lt_of_lt_of_le hv (show 10 ^ i ≤ 10 ^ 5 from Nat.pow_le_pow_right (by omega) (by omega))
    have hlt : ¬ (5 : Int32) ≤ Int32.ofNat i := by
      rw [show (5 : Int32) = Int32.ofNat 5 from rfl, ofN_le (by omega) (by omega)]
      omega
    by_cases d : a < T ∧ 48 ≤ tb a ∧ tb a ≤ 57
    · have hp : 10 ^ (i + 1) = 10 ^ i * 10 := by rw [Nat.pow_succ]
      obtain ⟨a1, v1, e1, e2, q1, q2, q3, q4⟩ := ih (i + 1) (a + 1) (10 * v + tb a - 48) fc fm (by omega) (by omega) (by omega) (by omega) (by omega)
      refine ⟨a1, v1, ?_, ?_, by omega, q2, q3, fun _ _ _ _ => by omega⟩
      · rw [← e1]
        conv => lhs; unfold F_X9_readNumber_p4
        rw [if_neg hlt, c_isAtDigit hc u a ha κ, cl_some, if_pos d, if_neg (show ¬ (1 : Int32) = 0 by decide), c_seen hc u a ha κ, cl_some]
        unfold hereN
        rw [if_pos d.1]
        dsimp only
        rw [num_step hv5 d.2.1 d.2.2]
        refine bnd_i ?_
        rw [PC_a, sPC_a]
        refine bnd_i ?_
        refine bnd_i ?_
        rw [ofN_succ, ofN_add1]
      · rw [← e2]
        conv => lhs; unfold F_X12_unit_p32
        rw [if_neg hlt, m_here hm n 0 a ha γ, cl_some]
        dsimp only
        rw [m_digit hm.2.2.2.2.1, cl_some, if_pos d, if_neg (show ¬ (1 : Int32) = 0 by decide), m_here hm n 0 a ha γ, cl_some]
        unfold hereN
        rw [if_pos d.1]
        dsimp only
        rw [num_step hv5 d.2.1 d.2.2]
        refine bnd_i ?_
        rw [PQ_a, sPQ_a]
        refine bnd_i ?_
        refine bnd_i ?_
        rw [ofN_succ, ofN_add1]
    · refine ⟨a, v, ?_, ?_, Nat.le_refl _, ha, hv5, fun _ h1 h2 h3 => absurd ⟨h1, h2, h3⟩ d⟩
      · unfold F_X9_readNumber_p4
        rw [if_neg hlt, c_isAtDigit hc u a ha κ, cl_some, if_neg d, if_pos rfl]
      · unfold F_X12_unit_p32
        rw [if_neg hlt, m_here hm n 0 a ha γ, cl_some]
        dsimp only
        rw [m_digit hm.2.2.2.2.1, cl_some, if_neg d, if_pos rfl]
theorem ltI_le (v : Int32) : ∀ r i, i + r = 9 → ltI v r i ≤ 9 := by
  intro r
  induction r with
  | zero => exact fun i h => by show i ≤ 9; omega
  | succ r ih =>
    intro i h
    unfold ltI
    by_cases c : ltrs.getD i 0 = v
    · rw [if_pos c]
      omega
    · rw [if_neg c]
      exact ih (i + 1) (by omega)
theorem let_loop {o T nr : Nat} {tb : Nat → Nat} {W : Mem} (hm : MT o T nr tb W) (rm : Nat → Mem → Nat → Int32 → Option (Mem × Unit)) (km : Mem → Nat → Int32 → Option (Mem × Unit)) (n a ft c : Int32) (γ : Nat → Int32) : ∀ (r i f : Nat), i + r = 9 → r < f → F_X12_unit_p136 rm km f (PQ W o n a ft γ) o c (Int32.ofNat i) = km (PQ W o n a ft γ) o (Int32.ofNat (ltI c r i)) := by
  obtain ⟨hS, h1, h2, h3, h4, h5, h6, h7⟩ := hm
  intro r
  induction r with
  | zero =>
    intro i f hi hf
    obtain ⟨f, rfl⟩ : ∃ z, f = z + 1 := ⟨f - 1, by omega⟩
    have : i = 9 := by omega
    subst this
    unfold F_X12_unit_p136
    rw [if_pos (show (9 : Int32) ≤ Int32.ofNat 9 by decide)]
    rfl
  | succ r ih =>
    intro i f hi hf
    obtain ⟨f, rfl⟩ : ∃ z, f = z + 1 := ⟨f - 1, by omega⟩
    have hlt : ¬ (9 : Int32) ≤ Int32.ofNat i := by
      rw [show (9 : Int32) = Int32.ofNat 9 from rfl, ofN_le (by omega) (by omega)]
      omega
    have i1 : inb (Int32.ofNat i) 9 := ofN_inb (by omega) (by omega)
    have i2 : ixn (Int32.ofNat i) = i := ofN_ix (by omega)
    have hrec := ih (i + 1) f (by omega) (by omega)
    conv => lhs; unfold F_X12_unit_p136
    rw [if_neg hlt, gR_PQ, gK_PQ, hS.r1340, lr_some hS.k31, gN_PQ, hS.n31, grd_pos i1, PQ_r _ _ _ _ _ _ (by omega), i2, h5 i (by omega)]
    unfold ltI
    by_cases e : ltrs.getD i 0 = c
    · rw [if_pos e, if_pos e]
    · rw [if_neg e, if_neg e]
      refine bnd_i ?_
      rw [ofN_succ]
      exact hrec
theorem psh_num {v : Nat} (hv : v < 100000) : psh ((1000 : Int32) + Int32.ofNat v) ∧ cmap ((1000 : Int32) + Int32.ofNat v) = Int32.ofNat v := by
  have e : ((1000 : Int32) + Int32.ofNat v).toInt = 1000 + (v : Int) := by rw [i32_add (by rw [t1000, ofN_toInt (by omega)]; omega) (by rw [t1000, ofN_toInt (by omega)]; omega), t1000, ofN_toInt (by omega)]
  refine ⟨Or.inl ⟨by omega, by omega⟩, ?_⟩
  unfold cmap
  rw [if_pos (by omega)]
  apply i32_ext
  rw [i32_sub (by rw [e, t1000]; omega) (by rw [e, t1000]; omega), e, t1000, ofN_toInt (by omega)]
  omega
theorem psh_let {k : Nat} (hk : k < 9) : psh (Int32.ofNat k) ∧ cmap (Int32.ofNat k) = (-1 : Int32) - Int32.ofNat k := by
  have e : (Int32.ofNat k).toInt = k := ofN_toInt (by omega)
  refine ⟨Or.inr ⟨by omega, by omega⟩, ?_⟩
  unfold cmap
  rw [if_neg (by omega), if_pos (by omega)]
/-- the faults at a place -/
theorem out_fault {x o T nr : Nat} {M W : Mem} {a n : Nat} {κ γ : Nat → Int32} {rc rm : Option (Mem × Unit)} (ha : a ≤ T) (h1 : rc = some (PC M x (Int32.ofNat n) (Int32.ofNat a) (Int32.ofNat a) κ, ())) (h2 : rm = some (PQ W o (Int32.ofNat n) (Int32.ofNat a) 1 γ, ())) : OUT x o T nr M W a n κ γ rc rm :=
  Or.inr ⟨a, n, Int32.ofNat n, κ, γ, h1, h2, Nat.le_refl _, ha, Nat.le_refl _, Nat.le_refl _, fun _ _ => rfl⟩
theorem unit_alk {x o T nr : Nat} {tb : Nat → Nat} {M W : Mem} (hc : CT x T tb M) (hm : MT o T nr tb W) (rc rm : Nat → Mem → Nat → Int32 → Option (Mem × Unit)) {d : Nat} (hd : d ≤ 5) (hB : d < 5 → ALK x o T nr M W (fun M' => rc 3 M' (x + 13) (Int32.ofNat (d + 1))) (fun W' => cl (rm 0 W' o (Int32.ofNat (d + 1))) fun M6 _ => rm 3 M6 o (Int32.ofNat (d + 1)))) : ALK x o T nr M W (fun M' => B_X9_readUnit rc M' (x + 13) (Int32.ofNat d)) (fun W' => B_X12_unit rm W' o (Int32.ofNat d)) := by
  have hC := hc.1
  have hT := hc.2.2.1
  have hby := hc.2.2.2.2
  intro a n κ γ ha hn
  show OUT x o T nr M W a n κ γ (B_X9_readUnit rc (PC M x (Int32.ofNat n) (Int32.ofNat a) (-1) κ) (x + 13) (Int32.ofNat d)) (B_X12_unit rm (PQ W o (Int32.ofNat n) (Int32.ofNat a) 0 γ) o (Int32.ofNat d))
  unfold B_X9_readUnit B_X12_unit
  rw [c_isAtDigit hc _ a ha κ, cl_some, PQ_f, if_pos rfl, m_here hm _ 0 a ha γ, cl_some]
  dsimp only
  rw [m_digit hby, cl_some]
  dsimp only
  by_cases dg : a < T ∧ 48 ≤ tb a ∧ tb a ≤ 57
  · rw [if_pos dg, if_neg (show ¬ (1 : Int32) = 0 by decide), if_neg (show ¬ (1 : Int32) = 0 by decide)]
    obtain ⟨a1, v1, e1, e2, q1, q2, q3, q4⟩ := num_loop hc hm rm F_X9_readNumber_p45 (F_X12_unit_p84 rm) (Int32.ofNat n) (Int32.ofNat n) κ γ 5 0 a 0 FU FU (by omega) (by unfold FU; omega) (by unfold FU; omega) ha (by omega)
    have q4 := q4 (by omega) dg.1 dg.2.1 dg.2.2
    obtain ⟨p1, p2⟩ := psh_num q3
    refine Or.inl ⟨a1, n + 1, ud κ n (Int32.ofNat v1), ud γ (62 * nr + n) ((1000 : Int32) + Int32.ofNat v1), ?_, ?_, good_push p1 p2 q4 q2⟩
    · unfold F_X9_readNumber
      have e1 : F_X9_readNumber_p4 F_X9_readNumber_p45 FU (PC M x (Int32.ofNat n) (Int32.ofNat a) (-1) κ) (x + 13) (0 : Int32) (0 : Int32) = _ := e1
      rw [e1]
      unfold F_X9_readNumber_p45 F_X9_readUnit_p90
      rw [c_emit hC (by omega), cl_some]
      rfl
    · have e2 : F_X12_unit_p32 rm (F_X12_unit_p84 rm) FU (PQ W o (Int32.ofNat n) (Int32.ofNat a) 0 γ) o (0 : Int32) (0 : Int32) = _ := e2
      rw [e2]
      unfold F_X12_unit_p84 F_X12_unit_p185
      rw [m_puts hm (by omega), cl_some]
  · rw [if_neg dg, if_pos rfl, if_pos rfl, c_isAt hc _ a ha κ (by omega), cl_some]
    dsimp only
    have hll := fun c => let_loop hm rm (F_X12_unit_p158 rm) (Int32.ofNat n) (Int32.ofNat a) 0 c γ 9 0 FU (by omega) (by unfold FU; omega)
    -- a fault in both
    have hfault : ltI (hereN T tb a) 9 0 = 9 → OUT x o T nr M W a n κ γ (F_X9_readUnit_p86 rc (PC M x (Int32.ofNat n) (Int32.ofNat a) (-1) κ) (x + 13)) (F_X12_unit_p134 rm (PQ W o (Int32.ofNat n) (Int32.ofNat a) 0 γ) o (hereN T tb a)) := by
      intro h9
      refine out_fault ha ?_ ?_
      · unfold F_X9_readUnit_p86 F_X9_readUnit_p90
        rw [c_fail, cl_some]
      · unfold F_X12_unit_p134
        refine Eq.trans (hll (hereN T tb a)) ?_
        rw [h9]
        unfold F_X12_unit_p158
        rw [if_pos (show Int32.ofNat 9 = (9 : Int32) from rfl), grd_pos (Or.inr rfl), sPQ_f]
        rfl
    by_cases ca : a < T
    · have hb := hby a ca
      have hh : hereN T tb a = Int32.ofNat (tb a) := if_pos ca
      rcases ix_2 (tb a) hb with ⟨l1, l2⟩ | ⟨l1, l2, l3, l4, l5⟩
      · rw [if_neg (show ¬ (a < T ∧ ¬ idxS 2 (tb a) < 0) from fun k => k.2 l1), if_pos rfl, c_isAt hc _ a ha κ (by omega), cl_some]
        dsimp only
        by_cases pa : tb a = 40
        · have i3 : ¬ idxS 3 (tb a) < 0 := fun k => (ix_3 (tb a) hb).mp k pa
          have h40 : hereN T tb a = (40 : Int32) := by
            rw [hh, pa]
            rfl
          rw [if_pos (show a < T ∧ ¬ idxS 3 (tb a) < 0 from ⟨ca, i3⟩), if_neg (show ¬ (1 : Int32) = 0 by decide), if_pos h40]
          by_cases d5 : d < 5
          · have hlt : ¬ (5 : Int32) ≤ Int32.ofNat d := by
              rw [show (5 : Int32) = Int32.ofNat 5 from rfl, ofN_le (by omega) (by omega)]
              omega
            rw [if_neg hlt, if_neg hlt]
            have hbr := hB d5 (a + 1) n κ γ (by omega) (by omega)
            have ec : ∀ q, rc 3 (PC M x (Int32.ofNat n) (Int32.ofNat (a + 1)) (-1) κ) (x + 13) (Int32.ofNat (d + 1)) = some q → (bnd (sI (PC M x (Int32.ofNat n) (Int32.ofNat a) (-1) κ) 1004 (x + 13) ((gI (PC M x (Int32.ofNat n) (Int32.ofNat a) (-1) κ) 1004 (x + 13)) + (1 : Int32))) fun M7 => cl (rc 3 M7 (x + 13) (Int32.ofNat d + (1 : Int32))) fun M8 _ => (F_X9_readUnit_p90 rc) M8) = some (q.1, ()) := by
              intro q hq
              rw [PC_a, sPC_a]
              refine bnd_i ?_
              rw [ofN_add1, ofN_add1, hq]
              rfl
            have em : ∀ q, (cl (rm 0 (PQ W o (Int32.ofNat n) (Int32.ofNat (a + 1)) 0 γ) o (Int32.ofNat (d + 1))) fun M6 _ => rm 3 M6 o (Int32.ofNat (d + 1))) = some q → (bnd (sI (PQ W o (Int32.ofNat n) (Int32.ofNat a) 0 γ) 1341 o ((gI (PQ W o (Int32.ofNat n) (Int32.ofNat a) 0 γ) 1341 o) + (1 : Int32))) fun M5 => cl (rm 0 M5 o (Int32.ofNat d + (1 : Int32))) fun M6 _ => cl (rm 3 M6 o (Int32.ofNat d + (1 : Int32))) fun M8 _ => (F_X12_unit_p185 rm) M8) = some (q.1, ()) := by
              intro q hq
              obtain ⟨N, r, k1, k2⟩ := cl_e hq
              rw [PQ_a, sPQ_a]
              refine bnd_i ?_
              rw [ofN_add1, ofN_add1, k1, cl_some, k2]
              rfl
            rcases hbr with ⟨a1, n1, κ1, γ1, r1, r2, r3⟩ | ⟨a1, n1, u1, κ1, γ1, r1, r2, r3, r4, r5, r6, r7⟩
            · exact Or.inl ⟨a1, n1, κ1, γ1, ec _ r1, em _ r2, good_wide r3 (by omega) (Nat.le_refl _) r3.1⟩
            · exact Or.inr ⟨a1, n1, u1, κ1, γ1, ec _ r1, em _ r2, by omega, r4, r5, by omega, r7⟩
          · have hle : (5 : Int32) ≤ Int32.ofNat d := by
              rw [show (5 : Int32) = Int32.ofNat 5 from rfl, ofN_le (by omega) (by omega)]
              omega
            rw [if_pos hle, if_pos hle]
            exact hfault (by rw [hh]; exact l2)
        · have i3 : idxS 3 (tb a) < 0 := (ix_3 (tb a) hb).mpr pa
          have h40 : ¬ hereN T tb a = (40 : Int32) := by
            rw [hh]
            intro k
            exact pa ((ofN_eq (m := 40) (by omega) (by omega)).mp k)
          rw [if_neg (show ¬ (a < T ∧ ¬ idxS 3 (tb a) < 0) from fun k => k.2 i3), if_pos rfl, if_neg h40]
          exact hfault (by rw [hh]; exact l2)
      · have h40 : ¬ hereN T tb a = (40 : Int32) := by
          rw [hh]
          intro k
          exact l5 ((ofN_eq (m := 40) (by omega) (by omega)).mp k)
        obtain ⟨p1, p2⟩ := psh_let l2
        rw [if_pos (show a < T ∧ ¬ idxS 2 (tb a) < 0 from ⟨ca, l1⟩), if_neg (show ¬ (1 : Int32) = 0 by decide), if_neg h40]
        refine Or.inl ⟨a + 1, n + 1, ud κ n ((-1 : Int32) - Int32.ofNat (ltI (Int32.ofNat (tb a)) 9 0)), ud γ (62 * nr + n) (Int32.ofNat (ltI (Int32.ofNat (tb a)) 9 0)), ?_, ?_, good_push p1 p2 (by omega) (by omega)⟩
        · rw [c_seen hc _ a ha κ, cl_some]
          dsimp only
          rw [hh, byte_u _ hb, c_indexOf _ (by omega) hb, cl_some]
          dsimp only
          rw [l3, c_emit hC (by omega), cl_some]
          dsimp only
          rw [PC_a, sPC_a]
          refine bnd_i ?_
          rw [ofN_add1]
          rfl
        · unfold F_X12_unit_p134
          refine Eq.trans (hll (hereN T tb a)) ?_
          rw [hh]
          unfold F_X12_unit_p158
          rw [if_neg (fun k => by have := (ofN_eq (m := 9) (by omega) (by omega)).mp k; omega), PQ_a, sPQ_a]
          refine bnd_i ?_
          rw [ofN_add1, m_puts hm (by omega), cl_some]
          rfl
    · have hh : hereN T tb a = -1 := if_neg ca
      rw [if_neg (show ¬ (a < T ∧ ¬ idxS 2 (tb a) < 0) from fun k => ca k.1), if_pos rfl, c_isAt hc _ a ha κ (by omega), cl_some]
      dsimp only
      rw [if_neg (show ¬ (a < T ∧ ¬ idxS 3 (tb a) < 0) from fun k => ca k.1), if_pos rfl, if_neg (show ¬ hereN T tb a = (40 : Int32) by rw [hh]; decide)]
      exact hfault (by rw [hh]; exact ix_2n)
theorem term_fault {x o : Nat} (M W : Mem) (rc rm : Nat → Mem → Nat → Int32 → Option (Mem × Unit)) (u a : Int32) {ft : Int32} (hf : ¬ ft = -1) (κ : Nat → Int32) (n a2 : Int32) (γ : Nat → Int32) (d1 d2 i : Int32) {fc fm : Nat} (h1 : 0 < fc) (h2 : 0 < fm) : F_X9_readTerm_p7 rc (F_X9_readTerm_p43 rc) fc (PC M x u a ft κ) (x + 13) d1 i = some (PC M x u a ft κ, ()) ∧ F_X12_term_p5 rm (F_X12_term_p70 rm) fm (PQ W o n a2 1 γ) o d2 = some (PQ W o n a2 1 γ, ()) := by
  obtain ⟨fc, rfl⟩ : ∃ z, fc = z + 1 := ⟨fc - 1, by omega⟩
  obtain ⟨fm, rfl⟩ : ∃ z, fm = z + 1 := ⟨fm - 1, by omega⟩
  constructor
  · unfold F_X9_readTerm_p7 F_X9_readTerm_p43
    by_cases k : (60 : Int32) ≤ i
    · rw [if_pos k]
    · rw [if_neg k, c_isAt_f u a hf κ, cl_some]
      dsimp only
      rw [if_pos rfl]
  · unfold F_X12_term_p5 F_X12_term_p70
    rw [PQ_f, if_neg (show ¬ (1 : Int32) = 0 by decide)]
theorem term_loop {x o T nr : Nat} {tb : Nat → Nat} {M W : Mem} (hc : CT x T tb M) (hm : MT o T nr tb W) (rc rm : Nat → Mem → Nat → Int32 → Option (Mem × Unit)) {d : Int32} (hU : ALK x o T nr M W (fun M' => rc 2 M' (x + 13) d) (fun W' => rm 2 W' o d)) {a0 n0 : Nat} {κ0 γ0 : Nat → Int32} (hn0 : n0 ≤ a0) : ∀ (r i a n fc fm : Nat) (κ γ : Nat → Int32), T - a ≤ r → r < fc → r < fm → i ≤ a → i ≤ 60 → GOOD T nr a0 n0 κ0 γ0 a n κ γ → OUT x o T nr M W a0 n0 κ0 γ0 (F_X9_readTerm_p7 rc (F_X9_readTerm_p43 rc) fc (PC M x (Int32.ofNat n) (Int32.ofNat a) (-1) κ) (x + 13) d (Int32.ofNat i)) (F_X12_term_p5 rm (F_X12_term_p70 rm) fm (PQ W o (Int32.ofNat n) (Int32.ofNat a) 0 γ) o d) := by
  have hC := hc.1
  have hT := hc.2.2.1
  have hby := hc.2.2.2.2
  intro r
  induction r with
  | zero =>
    intro i a n fc fm κ γ hr hfc hfm hia hi G
    have haT := G.1
    obtain ⟨fc, rfl⟩ : ∃ z, fc = z + 1 := ⟨fc - 1, by omega⟩
    obtain ⟨fm, rfl⟩ : ∃ z, fm = z + 1 := ⟨fm - 1, by omega⟩
    have hh : hereN T tb a = -1 := if_neg (by omega)
    refine Or.inl ⟨a, n, κ, γ, ?_, ?_, G⟩
    · unfold F_X9_readTerm_p7 F_X9_readTerm_p43
      by_cases k : (60 : Int32) ≤ Int32.ofNat i
      · rw [if_pos k]
      · rw [if_neg k, c_isAt hc _ a haT κ (by omega), cl_some]
        dsimp only
        rw [if_neg (show ¬ (a < T ∧ ¬ idxS 1 (tb a) < 0) from fun k => by omega), if_pos rfl]
    · unfold F_X12_term_p5 F_X12_term_p70
      rw [PQ_f, if_pos rfl, m_here hm _ 0 a haT γ, cl_some]
      dsimp only
      rw [hh, if_neg (by decide), m_here hm _ 0 a haT γ, cl_some]
      dsimp only
      rw [hh, if_neg (by decide)]
  | succ r ih =>
    intro i a n fc fm κ γ hr hfc hfm hia hi G
    have haT := G.1
    have hGa := G.2.2.1
    have hGn := G.2.1
    obtain ⟨fc, rfl⟩ : ∃ z, fc = z + 1 := ⟨fc - 1, by omega⟩
    obtain ⟨fm, rfl⟩ : ∃ z, fm = z + 1 := ⟨fm - 1, by omega⟩
    by_cases op : a < T ∧ (tb a = 42 ∨ tb a = 47)
    · obtain ⟨ca, ob⟩ := op
      have hb := hby a ca
      have hh : hereN T tb a = Int32.ofNat (tb a) := if_pos ca
      have i0 : ¬ idxS 1 (tb a) < 0 := fun k => (ix_1 (tb a) hb).mp k ob
      have hlt : ¬ (60 : Int32) ≤ Int32.ofNat i := by
        rw [show (60 : Int32) = Int32.ofNat 60 from rfl, ofN_le (by omega) (by omega)]
        omega
      -- the operator's code and sign
      obtain ⟨c, hc1, hc2, hc3⟩ : ∃ c : Int32, opr c ∧ cmap c = (-10 : Int32) - idxS 6 (tb a) ∧ F_X12_term_p30 rm (F_X12_term_p5 rm (F_X12_term_p70 rm) fm) (PQ W o (Int32.ofNat n) (Int32.ofNat a) 0 γ) o d = F_X12_term_p46 rm (F_X12_term_p5 rm (F_X12_term_p70 rm) fm) (PQ W o (Int32.ofNat n) (Int32.ofNat a) 0 γ) o d c := by
        rcases ob with ob | ob
        · refine ⟨22, ⟨by decide, by decide⟩, by rw [ob, ix_6.2.2.1]; decide, ?_⟩
          unfold F_X12_term_p30
          rw [m_here hm _ 0 a haT γ, cl_some]
          dsimp only
          rw [hh, ob, if_pos (show Int32.ofNat 42 = (42 : Int32) from rfl)]
        · refine ⟨23, ⟨by decide, by decide⟩, by rw [ob, ix_6.2.2.2.1]; decide, ?_⟩
          unfold F_X12_term_p30
          rw [m_here hm _ 0 a haT γ, cl_some]
          dsimp only
          rw [hh, ob, if_neg (show ¬ Int32.ofNat 47 = (42 : Int32) by decide)]
      have em : F_X12_term_p5 rm (F_X12_term_p70 rm) (fm + 1) (PQ W o (Int32.ofNat n) (Int32.ofNat a) 0 γ) o d = cl (rm 2 (PQ W o (Int32.ofNat n) (Int32.ofNat (a + 1)) 0 γ) o d) fun M2 _ => cl (F_X12_puts M2 o c) fun M4 _ => F_X12_term_p5 rm (F_X12_term_p70 rm) fm M4 o d := by
        conv => lhs; unfold F_X12_term_p5
        rw [PQ_f, if_pos rfl, m_here hm _ 0 a haT γ, cl_some]
        dsimp only
        have e46 : F_X12_term_p46 rm (F_X12_term_p5 rm (F_X12_term_p70 rm) fm) (PQ W o (Int32.ofNat n) (Int32.ofNat a) 0 γ) o d c = cl (rm 2 (PQ W o (Int32.ofNat n) (Int32.ofNat (a + 1)) 0 γ) o d) fun M2 _ => cl (F_X12_puts M2 o c) fun M4 _ => F_X12_term_p5 rm (F_X12_term_p70 rm) fm M4 o d := by
          unfold F_X12_term_p46
          rw [PQ_a, sPQ_a]
          refine bnd_i ?_
          rw [ofN_add1]
        by_cases z : hereN T tb a = (42 : Int32)
        · rw [if_pos z, hc3, e46]
        · have z2 : hereN T tb a = (47 : Int32) := by
            rcases ob with ob | ob
            · exact absurd (by rw [hh, ob]; rfl) z
            · rw [hh, ob]
              rfl
          rw [if_neg z, m_here hm _ 0 a haT γ, cl_some]
          dsimp only
          rw [if_pos z2, hc3, e46]
      have ec : F_X9_readTerm_p7 rc (F_X9_readTerm_p43 rc) (fc + 1) (PC M x (Int32.ofNat n) (Int32.ofNat a) (-1) κ) (x + 13) d (Int32.ofNat i) = cl (rc 2 (PC M x (Int32.ofNat n) (Int32.ofNat (a + 1)) (-1) κ) (x + 13) d) fun M5 _ => cl (F_X9_emit M5 (x + 13) ((-10 : Int32) - idxS 6 (tb a))) fun M7 _ => F_X9_readTerm_p7 rc (F_X9_readTerm_p43 rc) fc M7 (x + 13) d (Int32.ofNat (i + 1)) := by
        conv => lhs; unfold F_X9_readTerm_p7
        rw [if_neg hlt, c_isAt hc _ a haT κ (by omega), cl_some]
        dsimp only
        rw [if_pos (show a < T ∧ ¬ idxS 1 (tb a) < 0 from ⟨ca, i0⟩), if_neg (show ¬ (1 : Int32) = 0 by decide), c_takeOp hc _ a ca κ, cl_some]
        dsimp only
        simp only [bnd, ofN_succ]
      rw [em, ec]
      rcases hU (a + 1) n κ γ (by omega) (by omega) with ⟨a1, n1, κ1, γ1, r1, r2, r3⟩ | ⟨a1, n1, u1, κ1, γ1, r1, r2, r3, r4, r5, r6, r7⟩
      · have r1 : rc 2 (PC M x (Int32.ofNat n) (Int32.ofNat (a + 1)) (-1) κ) (x + 13) d = _ := r1
        have r2 : rm 2 (PQ W o (Int32.ofNat n) (Int32.ofNat (a + 1)) 0 γ) o d = _ := r2
        have g1 := r3.1
        have g2 := r3.2.1
        have g3 := r3.2.2.1
        rw [r1, r2, cl_some, cl_some]
        dsimp only
        rw [c_emit hC (by omega), m_puts hm (by omega), cl_some, cl_some]
        exact ih (i + 1) a1 (n1 + 1) fc fm _ _ (by omega) (by omega) (by omega) (by omega) (by omega) (good_op G r3 hc1 hc2)
      · have r1 : rc 2 (PC M x (Int32.ofNat n) (Int32.ofNat (a + 1)) (-1) κ) (x + 13) d = _ := r1
        have r2 : rm 2 (PQ W o (Int32.ofNat n) (Int32.ofNat (a + 1)) 0 γ) o d = _ := r2
        obtain ⟨u2, κ2, e3⟩ := c_emit_any (M := M) hC u1 (Int32.ofNat a1) (Int32.ofNat a1) κ1 ((-10 : Int32) - idxS 6 (tb a))
        rw [r1, r2, cl_some, cl_some]
        dsimp only
        rw [e3, m_puts hm (by omega), cl_some, cl_some]
        dsimp only
        obtain ⟨f1, f2⟩ := term_fault (x := x) (o := o) M W rc rm u2 (Int32.ofNat a1) (ofN_nn (n := a1) (by omega)) κ2 (Int32.ofNat (n1 + 1)) (Int32.ofNat a1) (ud γ1 (62 * nr + n1) c) d d (Int32.ofNat (i + 1)) (fc := fc) (fm := fm) (by omega) (by omega)
        rw [f1, f2]
        refine Or.inr ⟨a1, n1 + 1, u2, κ2, _, rfl, rfl, by omega, r4, by omega, by omega, fun j hj => ?_⟩
        rw [ud_n _ (by omega), r7 j (by omega)]
        exact G.2.2.2.2.1 j hj
    · refine Or.inl ⟨a, n, κ, γ, ?_, ?_, G⟩
      · unfold F_X9_readTerm_p7 F_X9_readTerm_p43
        by_cases k : (60 : Int32) ≤ Int32.ofNat i
        · rw [if_pos k]
        · rw [if_neg k, c_isAt hc _ a haT κ (by omega), cl_some]
          dsimp only
          rw [if_neg (show ¬ (a < T ∧ ¬ idxS 1 (tb a) < 0) from fun k => k.2 ((ix_1 (tb a) (hby a k.1)).mpr (fun z => op ⟨k.1, z⟩))), if_pos rfl]
      · have n1 : ¬ hereN T tb a = (42 : Int32) := by
          unfold hereN
          by_cases ca : a < T
          · rw [if_pos ca]
            intro k
            exact op ⟨ca, Or.inl ((ofN_eq (m := 42) (by have := hby a ca; omega) (by omega)).mp k)⟩
          · rw [if_neg ca]
            decide
        have n2 : ¬ hereN T tb a = (47 : Int32) := by
          unfold hereN
          by_cases ca : a < T
          · rw [if_pos ca]
            intro k
            exact op ⟨ca, Or.inr ((ofN_eq (m := 47) (by have := hby a ca; omega) (by omega)).mp k)⟩
          · rw [if_neg ca]
            decide
        unfold F_X12_term_p5 F_X12_term_p70
        rw [PQ_f, if_pos rfl, m_here hm _ 0 a haT γ, cl_some]
        dsimp only
        rw [if_neg n1, m_here hm _ 0 a haT γ, cl_some]
        dsimp only
        rw [if_neg n2]
theorem term_alk {x o T nr : Nat} {tb : Nat → Nat} {M W : Mem} (hc : CT x T tb M) (hm : MT o T nr tb W) (rc rm : Nat → Mem → Nat → Int32 → Option (Mem × Unit)) {d : Int32} (hU : ALK x o T nr M W (fun M' => rc 2 M' (x + 13) d) (fun W' => rm 2 W' o d)) : ALK x o T nr M W (fun M' => B_X9_readTerm rc M' (x + 13) d) (fun W' => B_X12_term rm W' o d) := by
  have hT := hc.2.2.1
  intro a n κ γ ha hn
  show OUT x o T nr M W a n κ γ (B_X9_readTerm rc (PC M x (Int32.ofNat n) (Int32.ofNat a) (-1) κ) (x + 13) d) (B_X12_term rm (PQ W o (Int32.ofNat n) (Int32.ofNat a) 0 γ) o d)
  unfold B_X9_readTerm B_X12_term
  rcases hU a n κ γ ha hn with ⟨a1, n1, κ1, γ1, r1, r2, r3⟩ | ⟨a1, n1, u1, κ1, γ1, r1, r2, r3, r4, r5, r6, r7⟩
  · have r1 : rc 2 (PC M x (Int32.ofNat n) (Int32.ofNat a) (-1) κ) (x + 13) d = _ := r1
    have r2 : rm 2 (PQ W o (Int32.ofNat n) (Int32.ofNat a) 0 γ) o d = _ := r2
    rw [r1, r2, cl_some, cl_some]
    have g1 := r3.1
    exact term_loop hc hm rc rm hU hn T 0 a1 n1 FU FU κ1 γ1 (by omega) (by unfold FU; omega) (by unfold FU; omega) (by omega) (by omega) r3
  · have r1 : rc 2 (PC M x (Int32.ofNat n) (Int32.ofNat a) (-1) κ) (x + 13) d = _ := r1
    have r2 : rm 2 (PQ W o (Int32.ofNat n) (Int32.ofNat a) 0 γ) o d = _ := r2
    obtain ⟨f1, f2⟩ := term_fault (x := x) (o := o) M W rc rm u1 (Int32.ofNat a1) (ofN_nn (n := a1) (by omega)) κ1 (Int32.ofNat n1) (Int32.ofNat a1) γ1 d d (0 : Int32) (fc := FU) (fm := FU) (by unfold FU; omega) (by unfold FU; omega)
    rw [r1, r2, cl_some, cl_some]
    dsimp only
    rw [f1, f2]
    exact Or.inr ⟨a1, n1, u1, κ1, γ1, rfl, rfl, r3, r4, r5, r6, r7⟩
theorem sum_fault {x o : Nat} (M W : Mem) (rc rm : Nat → Mem → Nat → Int32 → Option (Mem × Unit)) (u a : Int32) {ft : Int32} (hf : ¬ ft = -1) (κ : Nat → Int32) (n a2 : Int32) (γ : Nat → Int32) (d1 d2 i : Int32) {fc fm : Nat} (h1 : 0 < fc) (h2 : 0 < fm) : F_X9_readSum_p7 rc (F_X9_readSum_p43 rc) fc (PC M x u a ft κ) (x + 13) d1 i = some (PC M x u a ft κ, ()) ∧ F_X12_sum_p5 rm (F_X12_sum_p70 rm) fm (PQ W o n a2 1 γ) o d2 = some (PQ W o n a2 1 γ, ()) := by
  obtain ⟨fc, rfl⟩ : ∃ z, fc = z + 1 := ⟨fc - 1, by omega⟩
  obtain ⟨fm, rfl⟩ : ∃ z, fm = z + 1 := ⟨fm - 1, by omega⟩
  constructor
  · unfold F_X9_readSum_p7 F_X9_readSum_p43
    by_cases k : (60 : Int32) ≤ i
    · rw [if_pos k]
    · rw [if_neg k, c_isAt_f u a hf κ, cl_some]
      dsimp only
      rw [if_pos rfl]
  · unfold F_X12_sum_p5 F_X12_sum_p70
    rw [PQ_f, if_neg (show ¬ (1 : Int32) = 0 by decide)]
theorem sum_loop {x o T nr : Nat} {tb : Nat → Nat} {M W : Mem} (hc : CT x T tb M) (hm : MT o T nr tb W) (rc rm : Nat → Mem → Nat → Int32 → Option (Mem × Unit)) {d : Int32} (hU : ALK x o T nr M W (fun M' => rc 1 M' (x + 13) d) (fun W' => rm 1 W' o d)) {a0 n0 : Nat} {κ0 γ0 : Nat → Int32} (hn0 : n0 ≤ a0) : ∀ (r i a n fc fm : Nat) (κ γ : Nat → Int32), T - a ≤ r → r < fc → r < fm → i ≤ a → i ≤ 60 → GOOD T nr a0 n0 κ0 γ0 a n κ γ → OUT x o T nr M W a0 n0 κ0 γ0 (F_X9_readSum_p7 rc (F_X9_readSum_p43 rc) fc (PC M x (Int32.ofNat n) (Int32.ofNat a) (-1) κ) (x + 13) d (Int32.ofNat i)) (F_X12_sum_p5 rm (F_X12_sum_p70 rm) fm (PQ W o (Int32.ofNat n) (Int32.ofNat a) 0 γ) o d) := by
  have hC := hc.1
  have hT := hc.2.2.1
  have hby := hc.2.2.2.2
  intro r
  induction r with
  | zero =>
    intro i a n fc fm κ γ hr hfc hfm hia hi G
    have haT := G.1
    obtain ⟨fc, rfl⟩ : ∃ z, fc = z + 1 := ⟨fc - 1, by omega⟩
    obtain ⟨fm, rfl⟩ : ∃ z, fm = z + 1 := ⟨fm - 1, by omega⟩
    have hh : hereN T tb a = -1 := if_neg (by omega)
    refine Or.inl ⟨a, n, κ, γ, ?_, ?_, G⟩
    · unfold F_X9_readSum_p7 F_X9_readSum_p43
      by_cases k : (60 : Int32) ≤ Int32.ofNat i
      · rw [if_pos k]
      · rw [if_neg k, c_isAt hc _ a haT κ (by omega), cl_some]
        dsimp only
        rw [if_neg (show ¬ (a < T ∧ ¬ idxS 0 (tb a) < 0) from fun k => by omega), if_pos rfl]
    · unfold F_X12_sum_p5 F_X12_sum_p70
      rw [PQ_f, if_pos rfl, m_here hm _ 0 a haT γ, cl_some]
      dsimp only
      rw [hh, if_neg (by decide), m_here hm _ 0 a haT γ, cl_some]
      dsimp only
      rw [hh, if_neg (by decide)]
  | succ r ih =>
    intro i a n fc fm κ γ hr hfc hfm hia hi G
    have haT := G.1
    have hGa := G.2.2.1
    have hGn := G.2.1
    obtain ⟨fc, rfl⟩ : ∃ z, fc = z + 1 := ⟨fc - 1, by omega⟩
    obtain ⟨fm, rfl⟩ : ∃ z, fm = z + 1 := ⟨fm - 1, by omega⟩
    by_cases op : a < T ∧ (tb a = 43 ∨ tb a = 45)
    · obtain ⟨ca, ob⟩ := op
      have hb := hby a ca
      have hh : hereN T tb a = Int32.ofNat (tb a) := if_pos ca
      have i0 : ¬ idxS 0 (tb a) < 0 := fun k => (ix_0 (tb a) hb).mp k ob
      have hlt : ¬ (60 : Int32) ≤ Int32.ofNat i := by
        rw [show (60 : Int32) = Int32.ofNat 60 from rfl, ofN_le (by omega) (by omega)]
        omega
      -- the operator's code and sign
      obtain ⟨c, hc1, hc2, hc3⟩ : ∃ c : Int32, opr c ∧ cmap c = (-10 : Int32) - idxS 6 (tb a) ∧ F_X12_sum_p30 rm (F_X12_sum_p5 rm (F_X12_sum_p70 rm) fm) (PQ W o (Int32.ofNat n) (Int32.ofNat a) 0 γ) o d = F_X12_sum_p46 rm (F_X12_sum_p5 rm (F_X12_sum_p70 rm) fm) (PQ W o (Int32.ofNat n) (Int32.ofNat a) 0 γ) o d c := by
        rcases ob with ob | ob
        · refine ⟨20, ⟨by decide, by decide⟩, by rw [ob, ix_6.1]; decide, ?_⟩
          unfold F_X12_sum_p30
          rw [m_here hm _ 0 a haT γ, cl_some]
          dsimp only
          rw [hh, ob, if_pos (show Int32.ofNat 43 = (43 : Int32) from rfl)]
        · refine ⟨21, ⟨by decide, by decide⟩, by rw [ob, ix_6.2.1]; decide, ?_⟩
          unfold F_X12_sum_p30
          rw [m_here hm _ 0 a haT γ, cl_some]
          dsimp only
          rw [hh, ob, if_neg (show ¬ Int32.ofNat 45 = (43 : Int32) by decide)]
      have em : F_X12_sum_p5 rm (F_X12_sum_p70 rm) (fm + 1) (PQ W o (Int32.ofNat n) (Int32.ofNat a) 0 γ) o d = cl (rm 1 (PQ W o (Int32.ofNat n) (Int32.ofNat (a + 1)) 0 γ) o d) fun M2 _ => cl (F_X12_puts M2 o c) fun M4 _ => F_X12_sum_p5 rm (F_X12_sum_p70 rm) fm M4 o d := by
        conv => lhs; unfold F_X12_sum_p5
        rw [PQ_f, if_pos rfl, m_here hm _ 0 a haT γ, cl_some]
        dsimp only
        have e46 : F_X12_sum_p46 rm (F_X12_sum_p5 rm (F_X12_sum_p70 rm) fm) (PQ W o (Int32.ofNat n) (Int32.ofNat a) 0 γ) o d c = cl (rm 1 (PQ W o (Int32.ofNat n) (Int32.ofNat (a + 1)) 0 γ) o d) fun M2 _ => cl (F_X12_puts M2 o c) fun M4 _ => F_X12_sum_p5 rm (F_X12_sum_p70 rm) fm M4 o d := by
          unfold F_X12_sum_p46
          rw [PQ_a, sPQ_a]
          refine bnd_i ?_
          rw [ofN_add1]
        by_cases z : hereN T tb a = (43 : Int32)
        · rw [if_pos z, hc3, e46]
        · have z2 : hereN T tb a = (45 : Int32) := by
            rcases ob with ob | ob
            · exact absurd (by rw [hh, ob]; rfl) z
            · rw [hh, ob]
              rfl
          rw [if_neg z, m_here hm _ 0 a haT γ, cl_some]
          dsimp only
          rw [if_pos z2, hc3, e46]
      have ec : F_X9_readSum_p7 rc (F_X9_readSum_p43 rc) (fc + 1) (PC M x (Int32.ofNat n) (Int32.ofNat a) (-1) κ) (x + 13) d (Int32.ofNat i) = cl (rc 1 (PC M x (Int32.ofNat n) (Int32.ofNat (a + 1)) (-1) κ) (x + 13) d) fun M5 _ => cl (F_X9_emit M5 (x + 13) ((-10 : Int32) - idxS 6 (tb a))) fun M7 _ => F_X9_readSum_p7 rc (F_X9_readSum_p43 rc) fc M7 (x + 13) d (Int32.ofNat (i + 1)) := by
        conv => lhs; unfold F_X9_readSum_p7
        rw [if_neg hlt, c_isAt hc _ a haT κ (by omega), cl_some]
        dsimp only
        rw [if_pos (show a < T ∧ ¬ idxS 0 (tb a) < 0 from ⟨ca, i0⟩), if_neg (show ¬ (1 : Int32) = 0 by decide), c_takeOp hc _ a ca κ, cl_some]
        dsimp only
        simp only [bnd, ofN_succ]
      rw [em, ec]
      rcases hU (a + 1) n κ γ (by omega) (by omega) with ⟨a1, n1, κ1, γ1, r1, r2, r3⟩ | ⟨a1, n1, u1, κ1, γ1, r1, r2, r3, r4, r5, r6, r7⟩
      · have r1 : rc 1 (PC M x (Int32.ofNat n) (Int32.ofNat (a + 1)) (-1) κ) (x + 13) d = _ := r1
        have r2 : rm 1 (PQ W o (Int32.ofNat n) (Int32.ofNat (a + 1)) 0 γ) o d = _ := r2
        have g1 := r3.1
        have g2 := r3.2.1
        have g3 := r3.2.2.1
        rw [r1, r2, cl_some, cl_some]
        dsimp only
        rw [c_emit hC (by omega), m_puts hm (by omega), cl_some, cl_some]
        exact ih (i + 1) a1 (n1 + 1) fc fm _ _ (by omega) (by omega) (by omega) (by omega) (by omega) (good_op G r3 hc1 hc2)
      · have r1 : rc 1 (PC M x (Int32.ofNat n) (Int32.ofNat (a + 1)) (-1) κ) (x + 13) d = _ := r1
        have r2 : rm 1 (PQ W o (Int32.ofNat n) (Int32.ofNat (a + 1)) 0 γ) o d = _ := r2
        obtain ⟨u2, κ2, e3⟩ := c_emit_any (M := M) hC u1 (Int32.ofNat a1) (Int32.ofNat a1) κ1 ((-10 : Int32) - idxS 6 (tb a))
        rw [r1, r2, cl_some, cl_some]
        dsimp only
        rw [e3, m_puts hm (by omega), cl_some, cl_some]
        dsimp only
        obtain ⟨f1, f2⟩ := sum_fault (x := x) (o := o) M W rc rm u2 (Int32.ofNat a1) (ofN_nn (n := a1) (by omega)) κ2 (Int32.ofNat (n1 + 1)) (Int32.ofNat a1) (ud γ1 (62 * nr + n1) c) d d (Int32.ofNat (i + 1)) (fc := fc) (fm := fm) (by omega) (by omega)
        rw [f1, f2]
        refine Or.inr ⟨a1, n1 + 1, u2, κ2, _, rfl, rfl, by omega, r4, by omega, by omega, fun j hj => ?_⟩
        rw [ud_n _ (by omega), r7 j (by omega)]
        exact G.2.2.2.2.1 j hj
    · refine Or.inl ⟨a, n, κ, γ, ?_, ?_, G⟩
      · unfold F_X9_readSum_p7 F_X9_readSum_p43
        by_cases k : (60 : Int32) ≤ Int32.ofNat i
        · rw [if_pos k]
        · rw [if_neg k, c_isAt hc _ a haT κ (by omega), cl_some]
          dsimp only
          rw [if_neg (show ¬ (a < T ∧ ¬ idxS 0 (tb a) < 0) from fun k => k.2 ((ix_0 (tb a) (hby a k.1)).mpr (fun z => op ⟨k.1, z⟩))), if_pos rfl]
      · have n1 : ¬ hereN T tb a = (43 : Int32) := by
          unfold hereN
          by_cases ca : a < T
          · rw [if_pos ca]
            intro k
            exact op ⟨ca, Or.inl ((ofN_eq (m := 43) (by have := hby a ca; omega) (by omega)).mp k)⟩
          · rw [if_neg ca]
            decide
        have n2 : ¬ hereN T tb a = (45 : Int32) := by
          unfold hereN
          by_cases ca : a < T
          · rw [if_pos ca]
            intro k
            exact op ⟨ca, Or.inr ((ofN_eq (m := 45) (by have := hby a ca; omega) (by omega)).mp k)⟩
          · rw [if_neg ca]
            decide
        unfold F_X12_sum_p5 F_X12_sum_p70
        rw [PQ_f, if_pos rfl, m_here hm _ 0 a haT γ, cl_some]
        dsimp only
        rw [if_neg n1, m_here hm _ 0 a haT γ, cl_some]
        dsimp only
        rw [if_neg n2]
theorem sum_alk {x o T nr : Nat} {tb : Nat → Nat} {M W : Mem} (hc : CT x T tb M) (hm : MT o T nr tb W) (rc rm : Nat → Mem → Nat → Int32 → Option (Mem × Unit)) {d : Int32} (hU : ALK x o T nr M W (fun M' => rc 1 M' (x + 13) d) (fun W' => rm 1 W' o d)) : ALK x o T nr M W (fun M' => B_X9_readSum rc M' (x + 13) d) (fun W' => B_X12_sum rm W' o d) := by
  have hT := hc.2.2.1
  intro a n κ γ ha hn
  show OUT x o T nr M W a n κ γ (B_X9_readSum rc (PC M x (Int32.ofNat n) (Int32.ofNat a) (-1) κ) (x + 13) d) (B_X12_sum rm (PQ W o (Int32.ofNat n) (Int32.ofNat a) 0 γ) o d)
  unfold B_X9_readSum B_X12_sum
  rcases hU a n κ γ ha hn with ⟨a1, n1, κ1, γ1, r1, r2, r3⟩ | ⟨a1, n1, u1, κ1, γ1, r1, r2, r3, r4, r5, r6, r7⟩
  · have r1 : rc 1 (PC M x (Int32.ofNat n) (Int32.ofNat a) (-1) κ) (x + 13) d = _ := r1
    have r2 : rm 1 (PQ W o (Int32.ofNat n) (Int32.ofNat a) 0 γ) o d = _ := r2
    rw [r1, r2, cl_some, cl_some]
    have g1 := r3.1
    exact sum_loop hc hm rc rm hU hn T 0 a1 n1 FU FU κ1 γ1 (by omega) (by unfold FU; omega) (by unfold FU; omega) (by omega) (by omega) r3
  · have r1 : rc 1 (PC M x (Int32.ofNat n) (Int32.ofNat a) (-1) κ) (x + 13) d = _ := r1
    have r2 : rm 1 (PQ W o (Int32.ofNat n) (Int32.ofNat a) 0 γ) o d = _ := r2
    obtain ⟨f1, f2⟩ := sum_fault (x := x) (o := o) M W rc rm u1 (Int32.ofNat a1) (ofN_nn (n := a1) (by omega)) κ1 (Int32.ofNat n1) (Int32.ofNat a1) γ1 d d (0 : Int32) (fc := FU) (fm := FU) (by unfold FU; omega) (by unfold FU; omega)
    rw [r1, r2, cl_some, cl_some]
    dsimp only
    rw [f1, f2]
    exact Or.inr ⟨a1, n1, u1, κ1, γ1, rfl, rfl, r3, r4, r5, r6, r7⟩
