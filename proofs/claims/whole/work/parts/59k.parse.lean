def hereN (T : Nat) (tb : Nat → Nat) (a : Nat) : Int32 := if a < T then Int32.ofNat (tb a) else -1
/-- the class's tape -/
def CT (x T : Nat) (tb : Nat → Nat) (M : Mem) : Prop := CSh x M ∧ gI M 1002 (x + 13) = Int32.ofNat T ∧ T ≤ 60 ∧ (∀ i, i < T → gA M (x + 14) i = Int32.ofNat (tb i)) ∧ ∀ i, i < T → tb i < 256
/-- the model's tape -/
def MT (o T nr : Nat) (tb : Nat → Nat) (W : Mem) : Prop := MSh o W ∧ gI W 1328 o = Int32.ofNat T ∧ T ≤ 60 ∧ (∀ i, i < T → gA W (o + 23) i = Int32.ofNat (tb i)) ∧ (∀ i, i < T → tb i < 256) ∧ (∀ k, k < 9 → gA W (o + 31) k = ltrs.getD k 0) ∧ gI W 1329 o = Int32.ofNat nr ∧ nr < 30
theorem ofN_nn {n : Nat} (h : n < 2147483648) : ¬ Int32.ofNat n = -1 := by
  intro k
  have := congrArg Int32.toInt k
  rw [ofN_toInt h] at this
  have e : (-1 : Int32).toInt = -1 := by decide
  omega
theorem ofN_n0 {n : Nat} (h : n < 2147483648) : ¬ Int32.ofNat n < 0 := by
  intro k
  have := i32_lt.mp k
  rw [ofN_toInt h] at this
  have e : (0 : Int32).toInt = 0 := by decide
  omega
theorem c_seen {x T : Nat} {tb : Nat → Nat} {M : Mem} (h : CT x T tb M) (u : Int32) (a : Nat) (ha : a ≤ T) (κ : Nat → Int32) : F_X9_seen (PC M x u (Int32.ofNat a) (-1) κ) (x + 13) = some (PC M x u (Int32.ofNat a) (-1) κ, hereN T tb a) := by
  obtain ⟨hC, h1, h2, h3, h4⟩ := h
  unfold F_X9_seen F_X9_seen_p42 F_X9_seen_p43 F_X9_seen_p61 hereN
  rw [PC_f, if_pos rfl, PC_a, if_neg (ofN_n0 (by omega)), PC_s, h1]
  by_cases c : a < T
  · have i1 : inb (Int32.ofNat a) 60 := ofN_inb (by omega) (by omega)
    have i2 : ixn (Int32.ofNat a) = a := ofN_ix (by omega)
    have l1 : ¬ Int32.ofNat T ≤ Int32.ofNat a := by
      rw [ofN_le (by omega) (by omega)]
      omega
    have l2 : ¬ Int32.ofNat 60 ≤ Int32.ofNat a := by
      rw [ofN_le (by omega) (by omega)]
      omega
    simp only [if_neg l1, gR_PC, gK_PC, gN_PC, hC.r1000, lr_some hC.k14, hC.n14, if_neg l2]
    rw [if_neg (show ¬ (1 : Int32) = 0 by decide), grd_pos i1, PC_t, i2, h3 a c, if_pos c]
  · rw [if_pos ((ofN_le (by omega) (by omega)).mpr (by omega)), if_pos rfl, if_neg c]
theorem c_seen_f {x : Nat} {M : Mem} (u a : Int32) {ft : Int32} (hf : ¬ ft = -1) (κ : Nat → Int32) : F_X9_seen (PC M x u a ft κ) (x + 13) = some (PC M x u a ft κ, -1) := by
  unfold F_X9_seen F_X9_seen_p42 F_X9_seen_p43 F_X9_seen_p61
  rw [PC_f, if_neg hf, if_pos rfl]
theorem c_isAt {x T : Nat} {tb : Nat → Nat} {M : Mem} (h : CT x T tb M) (u : Int32) (a : Nat) (ha : a ≤ T) (κ : Nat → Int32) {s : Nat} (hs : s < 7) : F_X9_isAt (PC M x u (Int32.ofNat a) (-1) κ) (x + 13) s = some (PC M x u (Int32.ofNat a) (-1) κ, if a < T ∧ ¬ idxS s (tb a) < 0 then 1 else 0) := by
  unfold F_X9_isAt F_X9_isAt_p23 F_X9_isAt_p24
  rw [c_seen h u a ha κ, cl_some]
  unfold hereN
  dsimp only
  by_cases c : a < T
  · have hb := h.2.2.2.2 a c
    rw [if_pos c, if_neg (ofN_nn (by omega)), byte_u _ hb, c_indexOf _ hs hb, cl_some]
    dsimp only
    by_cases d : idxS s (tb a) < 0
    · rw [if_pos d, if_neg (fun k => k.2 d), grd_pos (Or.inl rfl)]
    · rw [if_neg d, if_pos ⟨c, d⟩, grd_pos (Or.inr rfl)]
  · rw [if_neg c, if_pos rfl, if_neg (fun k => c k.1), grd_pos (Or.inl rfl)]
theorem c_isAt_f {x : Nat} {M : Mem} (u a : Int32) {ft : Int32} (hf : ¬ ft = -1) (κ : Nat → Int32) (s : Nat) : F_X9_isAt (PC M x u a ft κ) (x + 13) s = some (PC M x u a ft κ, 0) := by
  unfold F_X9_isAt F_X9_isAt_p23 F_X9_isAt_p24
  rw [c_seen_f u a hf κ, cl_some]
  dsimp only
  rw [if_pos rfl, grd_pos (Or.inl rfl)]
theorem c_isAtDigit {x T : Nat} {tb : Nat → Nat} {M : Mem} (h : CT x T tb M) (u : Int32) (a : Nat) (ha : a ≤ T) (κ : Nat → Int32) : F_X9_isAtDigit (PC M x u (Int32.ofNat a) (-1) κ) (x + 13) = some (PC M x u (Int32.ofNat a) (-1) κ, if a < T ∧ 48 ≤ tb a ∧ tb a ≤ 57 then 1 else 0) := by
  have e48 : (48 : Int32) = Int32.ofNat 48 := rfl
  have e57 : (57 : Int32) = Int32.ofNat 57 := rfl
  unfold F_X9_isAtDigit F_X9_isAtDigit_p21 F_X9_isAtDigit_p22
  rw [c_seen h u a ha κ, cl_some]
  unfold hereN
  dsimp only
  by_cases c : a < T
  · have hb := h.2.2.2.2 a c
    rw [if_pos c, e48, e57]
    by_cases d : tb a < 48
    · rw [if_pos ((ofN_lt (by omega) (by omega)).mpr d), if_neg (fun k => by omega), grd_pos (Or.inl rfl)]
    · rw [if_neg (fun k => d ((ofN_lt (by omega) (by omega)).mp k))]
      by_cases d2 : 57 < tb a
      · rw [if_pos ((ofN_lt (by omega) (by omega)).mpr d2), if_neg (fun k => by omega), grd_pos (Or.inl rfl)]
      · rw [if_neg (fun k => d2 ((ofN_lt (by omega) (by omega)).mp k)), if_pos ⟨c, by omega, by omega⟩, grd_pos (Or.inr rfl)]
  · rw [if_neg c, if_pos (show (-1 : Int32) < 48 by decide), if_neg (fun k => c k.1), grd_pos (Or.inl rfl)]
theorem c_takeOp {x T : Nat} {tb : Nat → Nat} {M : Mem} (h : CT x T tb M) (u : Int32) (a : Nat) (ha : a < T) (κ : Nat → Int32) : F_X9_takeOperator (PC M x u (Int32.ofNat a) (-1) κ) (x + 13) = some (PC M x u (Int32.ofNat (a + 1)) (-1) κ, (-10 : Int32) - idxS 6 (tb a)) := by
  have hb := h.2.2.2.2 a ha
  unfold F_X9_takeOperator
  rw [c_seen h u a (by omega) κ, cl_some]
  unfold hereN
  dsimp only
  rw [if_pos ha, byte_u _ hb, c_indexOf _ (by omega) hb, cl_some]
  refine bnd_i ?_
  rw [PC_a, sPC_a]
  refine bnd_i ?_
  rw [ofN_add1]
theorem c_fail {x : Nat} (M : Mem) (u a : Int32) (κ : Nat → Int32) : F_X9_fail (PC M x u a (-1) κ) (x + 13) = some (PC M x u a a κ, ()) := by
  unfold F_X9_fail F_X9_fail_p16
  rw [PC_f, if_pos rfl, PC_a, sPC_f]
  rfl
theorem c_fail_f {x : Nat} (M : Mem) (u a : Int32) {ft : Int32} (hf : ¬ ft = -1) (κ : Nat → Int32) : F_X9_fail (PC M x u a ft κ) (x + 13) = some (PC M x u a ft κ, ()) := by
  unfold F_X9_fail F_X9_fail_p16
  rw [PC_f, if_neg hf]
theorem c_emit {x : Nat} {M : Mem} (hC : CSh x M) {n : Nat} (hn : n < 60) (a ft : Int32) (κ : Nat → Int32) (v : Int32) : F_X9_emit (PC M x (Int32.ofNat n) a ft κ) (x + 13) v = some (PC M x (Int32.ofNat (n + 1)) a ft (ud κ n v), ()) := by
  have i1 : inb (Int32.ofNat n) 60 := ofN_inb (by omega) hn
  have i2 : ixn (Int32.ofNat n) = n := ofN_ix (by omega)
  unfold F_X9_emit F_X9_emit_p39
  rw [PC_u, if_neg (ofN_n0 (by omega)), gR_PC, gK_PC, gN_PC, hC.r1001, lr_some hC.k15, hC.n15, if_neg (by rw [ofN_le (by omega) (by omega)]; omega), lr_some hC.k15, hC.n15, grd_pos i1, i2, sPC_k]
  refine bnd_i ?_
  rw [PC_u, sPC_u, ofN_add1]
  rfl
theorem c_emit_any {x : Nat} {M : Mem} (hC : CSh x M) (u a ft : Int32) (κ : Nat → Int32) (v : Int32) : ∃ u1 κ1, F_X9_emit (PC M x u a ft κ) (x + 13) v = some (PC M x u1 a ft κ1, ()) := by
  unfold F_X9_emit F_X9_emit_p39
  rw [PC_u]
  by_cases c : u < 0
  · rw [if_pos c]
    exact ⟨u, κ, rfl⟩
  · rw [if_neg c, gR_PC, gK_PC, gN_PC, hC.r1001, lr_some hC.k15, hC.n15]
    by_cases c2 : Int32.ofNat 60 ≤ u
    · rw [if_pos c2]
      exact ⟨u, κ, rfl⟩
    · rw [if_neg c2, lr_some hC.k15, hC.n15]
      have e0 : (0 : Int32).toInt = 0 := by decide
      have e60 : (Int32.ofNat 60).toInt = 60 := by decide
      have c3 := i32_nlt c
      have c4 := i32_nle c2
      have i1 : inb u 60 := ⟨by omega, by omega⟩
      rw [grd_pos i1, sPC_k]
      refine ⟨u + 1, ud κ (ixn u) v, bnd_i ?_⟩
      rw [PC_u, sPC_u]
      rfl
theorem m_here {o T nr : Nat} {tb : Nat → Nat} {W : Mem} (h : MT o T nr tb W) (n ft : Int32) (a : Nat) (ha : a ≤ T) (γ : Nat → Int32) : F_X12_here (PQ W o n (Int32.ofNat a) ft γ) o = some (PQ W o n (Int32.ofNat a) ft γ, hereN T tb a) := by
  obtain ⟨hS, h1, h2, h3, h4, h5, h6, h7⟩ := h
  unfold F_X12_here F_X12_here_p24 hereN
  rw [PQ_o _ _ _ _ _ _ (by omega) (by omega) (by omega), PQ_a, h1]
  by_cases c : a < T
  · have i1 : inb (Int32.ofNat a) 60 := ofN_inb (by omega) (by omega)
    have i2 : ixn (Int32.ofNat a) = a := ofN_ix (by omega)
    rw [if_neg (by rw [ofN_le (by omega) (by omega)]; omega), gR_PQ, gK_PQ, hS.r1327, lr_some hS.k23, gN_PQ, hS.n23, grd_pos i1, PQ_r _ _ _ _ _ _ (by omega), i2, h3 a c, if_pos c]
  · rw [if_pos ((ofN_le (by omega) (by omega)).mpr (by omega)), if_neg c]
theorem m_puts {o T nr : Nat} {tb : Nat → Nat} {W : Mem} (h : MT o T nr tb W) {n : Nat} (hn : n < 62) (a ft : Int32) (γ : Nat → Int32) (v : Int32) : F_X12_puts (PQ W o (Int32.ofNat n) a ft γ) o v = some (PQ W o (Int32.ofNat (n + 1)) a ft (ud γ (62 * nr + n) v), ()) := by
  obtain ⟨hS, h1, h2, h3, h4, h5, h6, h7⟩ := h
  have e1 : (62 : Int32) * Int32.ofNat nr + Int32.ofNat n = Int32.ofNat (62 * nr + n) := by
    rw [show (62 : Int32) = Int32.ofNat 62 from rfl, ofN_mulk, ← Int32.ofNat_add]
  have i1 : inb (Int32.ofNat (62 * nr + n)) 1860 := ofN_inb (by omega) (by omega)
  have i2 : ixn (Int32.ofNat (62 * nr + n)) = 62 * nr + n := ofN_ix (by omega)
  unfold F_X12_puts
  rw [gR_PQ, gK_PQ, hS.r1333, lr_some hS.k27, PQ_o _ _ _ _ _ _ (by omega) (by omega) (by omega), h6, PQ_n, e1, gN_PQ, hS.n27, grd_pos i1, i2, sPQ_k]
  refine bnd_i ?_
  rw [PQ_n, sPQ_n, ofN_add1]
  rfl
theorem t48 : (48 : Int64).toInt = 48 := by decide
theorem t57 : (57 : Int64).toInt = 57 := by decide
theorem m_digit {T : Nat} {tb : Nat → Nat} (hb : ∀ i, i < T → tb i < 256) (M : Mem) (a : Nat) : F_X12_in M (hereN T tb a).toInt64 (48 : Int64) (57 : Int64) = some (M, if a < T ∧ 48 ≤ tb a ∧ tb a ≤ 57 then 1 else 0) := by
  rw [m_in]
  unfold hereN
  by_cases c : a < T
  · have h1 := hb a c
    rw [if_pos c]
    by_cases d : 48 ≤ tb a ∧ tb a ≤ 57
    · rw [if_pos (show (48 : Int64) ≤ (Int32.ofNat (tb a)).toInt64 ∧ (Int32.ofNat (tb a)).toInt64 ≤ 57 from ⟨i64_le.mpr (by rw [Int32.toInt_toInt64, ofN_toInt (by omega), t48]; omega), i64_le.mpr (by rw [Int32.toInt_toInt64, ofN_toInt (by omega), t57]; omega)⟩), if_pos ⟨c, d⟩]
    · rw [if_neg (fun k => d (by
        have k1 := i64_le.mp k.1
        have k2 := i64_le.mp k.2
        rw [Int32.toInt_toInt64, ofN_toInt (by omega), t48] at k1
        rw [Int32.toInt_toInt64, ofN_toInt (by omega), t57] at k2
        omega)), if_neg (fun k => d k.2)]
  · rw [if_neg c, if_neg (show ¬ ((48 : Int64) ≤ (-1 : Int32).toInt64 ∧ (-1 : Int32).toInt64 ≤ 57) by decide), if_neg (fun k => c k.1)]
/-- codes that lead from a height to another -/
def seg (co : Nat → Int32) : Nat → Nat → Nat → Nat → Prop
  | 0, _, h, h1 => h = h1
  | r + 1, j, h, h1 => (psh (co j) ∧ h < 60 ∧ seg co r (j + 1) (h + 1) h1) ∨ (opr (co j) ∧ 2 ≤ h ∧ h ≤ 60 ∧ seg co r (j + 1) (h - 1) h1)
theorem seg_okC (co : Nat → Int32) : ∀ r j h, seg co r j h 1 → okC co r j h := by
  intro r
  induction r with
  | zero => exact fun j h k => k
  | succ r ih =>
    intro j h k
    rcases k with ⟨k1, k2, k3⟩ | ⟨k1, k2, k3, k4⟩
    · exact Or.inl ⟨k1, k2, ih _ _ k3⟩
    · exact Or.inr ⟨k1, k2, k3, ih _ _ k4⟩
theorem seg_congr {co co1 : Nat → Int32} : ∀ r j h h1, (∀ i, j ≤ i → i < j + r → co1 i = co i) → seg co r j h h1 → seg co1 r j h h1 := by
  intro r
  induction r with
  | zero => exact fun j h h1 _ k => k
  | succ r ih =>
    intro j h h1 e k
    have e0 := e j (Nat.le_refl _) (by omega)
    rcases k with ⟨k1, k2, k3⟩ | ⟨k1, k2, k3, k4⟩
    · exact Or.inl ⟨by rw [e0]; exact k1, k2, ih _ _ _ (fun i h1 h2 => e i (by omega) (by omega)) k3⟩
    · exact Or.inr ⟨by rw [e0]; exact k1, k2, k3, ih _ _ _ (fun i h1 h2 => e i (by omega) (by omega)) k4⟩
theorem seg_append {co : Nat → Int32} : ∀ r j h h1 r2 h2, seg co r j h h1 → seg co r2 (j + r) h1 h2 → seg co (r + r2) j h h2 := by
  intro r
  induction r with
  | zero =>
    intro j h h1 r2 h2 k1 k2
    have k1 : h = h1 := k1
    subst k1
    rw [Nat.zero_add]
    exact k2
  | succ r ih =>
    intro j h h1 r2 h2 k k2
    rw [show r + 1 + r2 = (r + r2) + 1 by omega]
    have e : seg co r2 (j + 1 + r) h1 h2 := by
      rw [show j + 1 + r = j + (r + 1) by omega]
      exact k2
    rcases k with ⟨k1, k3, k4⟩ | ⟨k1, k3, k5, k4⟩
    · exact Or.inl ⟨k1, k3, ih _ _ _ _ _ k4 e⟩
    · exact Or.inr ⟨k1, k3, k5, ih _ _ _ _ _ k4 e⟩
/-- a piece of the text was read well, from place a with n codes to place a1 with n1 -/
def GOOD (T nr a n : Nat) (κ γ : Nat → Int32) (a1 n1 : Nat) (κ1 γ1 : Nat → Int32) : Prop := a1 ≤ T ∧ n < n1 ∧ n1 + a ≤ n + a1 ∧ (∀ j, j < n → κ1 j = κ j) ∧ (∀ i, i < 62 * nr + n → γ1 i = γ i) ∧ (∀ j, n ≤ j → j < n1 → κ1 j = cmap (γ1 (62 * nr + j))) ∧ ∀ h, h + (n1 - n) ≤ 60 → seg γ1 (n1 - n) (62 * nr + n) h (h + 1)
theorem good_push {T nr a n a1 : Nat} {κ γ : Nat → Int32} {c v : Int32} (hc : psh c) (hv : cmap c = v) (h1 : a < a1) (h2 : a1 ≤ T) : GOOD T nr a n κ γ a1 (n + 1) (ud κ n v) (ud γ (62 * nr + n) c) := by
  refine ⟨h2, by omega, by omega, fun j hj => ud_n _ (by omega) _, fun i hi => ud_n _ (by omega) _, fun j hj hj2 => ?_, fun h hh => ?_⟩
  · have : j = n := by omega
    subst this
    rw [ud_s, ud_s, hv]
  · rw [show n + 1 - n = 1 by omega]
    exact Or.inl ⟨by rw [ud_s]; exact hc, by omega, rfl⟩
theorem good_wide {T nr a a0 n a1 a2 n1 : Nat} {κ γ κ1 γ1 : Nat → Int32} (h : GOOD T nr a n κ γ a1 n1 κ1 γ1) (h1 : a0 ≤ a) (h2 : a1 ≤ a2) (h3 : a2 ≤ T) : GOOD T nr a0 n κ γ a2 n1 κ1 γ1 := by
  obtain ⟨g1, g2, g3, g4⟩ := h
  exact ⟨h3, g2, by omega, g4⟩
theorem good_op {T nr a0 n0 a n a2 n2 : Nat} {κ0 γ0 κ γ κ2 γ2 : Nat → Int32} {c v : Int32} (h1 : GOOD T nr a0 n0 κ0 γ0 a n κ γ) (h2 : GOOD T nr (a + 1) n κ γ a2 n2 κ2 γ2) (hc : opr c) (hv : cmap c = v) : GOOD T nr a0 n0 κ0 γ0 a2 (n2 + 1) (ud κ2 n2 v) (ud γ2 (62 * nr + n2) c) := by
  obtain ⟨g1, g2, g3, g4, g5, g6, g7⟩ := h1
  obtain ⟨k1, k2, k3, k4, k5, k6, k7⟩ := h2
  refine ⟨k1, by omega, by omega, fun j hj => ?_, fun i hi => ?_, fun j hj hj2 => ?_, fun h hh => ?_⟩
  · rw [ud_n _ (by omega), k4 j (by omega), g4 j hj]
  · rw [ud_n _ (by omega), k5 i (by omega), g5 i hi]
  · by_cases e : j = n2
    · subst e
      rw [ud_s, ud_s, hv]
    · rw [ud_n _ e, ud_n _ (by omega)]
      by_cases e2 : j < n
      · rw [k4 j e2, k5 _ (by omega)]
        exact g6 j hj e2
      · exact k6 j (by omega) (by omega)
  · have s1 : seg (ud γ2 (62 * nr + n2) c) (n - n0) (62 * nr + n0) h (h + 1) := seg_congr _ _ _ _ (fun i i1 i2 => by rw [ud_n _ (by omega), k5 i (by omega)]) (g7 h (by omega))
    have s2 : seg (ud γ2 (62 * nr + n2) c) (n2 - n) (62 * nr + n) (h + 1) (h + 2) := seg_congr _ _ _ _ (fun i i1 i2 => by rw [ud_n _ (by omega)]) (k7 (h + 1) (by omega))
    have s3 : seg (ud γ2 (62 * nr + n2) c) 1 (62 * nr + n2) (h + 2) (h + 1) := Or.inr ⟨by rw [ud_s]; exact hc, by omega, by omega, by show h + 2 - 1 = h + 1; omega⟩
    have s4 := seg_append _ _ _ _ _ _ s1 (by rw [show 62 * nr + n0 + (n - n0) = 62 * nr + n by omega]; exact s2)
    have s5 := seg_append _ _ _ _ _ _ s4 (by rw [show 62 * nr + n0 + (n - n0 + (n2 - n)) = 62 * nr + n2 by omega]; exact s3)
    rw [show n2 + 1 - n0 = n - n0 + (n2 - n) + 1 by omega]
    exact s5
/-- what a reading of a piece comes to, for class and model -/
def OUT (x o T nr : Nat) (M W : Mem) (a n : Nat) (κ γ : Nat → Int32) (rc rm : Option (Mem × Unit)) : Prop :=
  (∃ a1 n1 κ1 γ1, rc = some (PC M x (Int32.ofNat n1) (Int32.ofNat a1) (-1) κ1, ()) ∧ rm = some (PQ W o (Int32.ofNat n1) (Int32.ofNat a1) 0 γ1, ()) ∧ GOOD T nr a n κ γ a1 n1 κ1 γ1) ∨
  (∃ a1 n1 u1 κ1 γ1, rc = some (PC M x u1 (Int32.ofNat a1) (Int32.ofNat a1) κ1, ()) ∧ rm = some (PQ W o (Int32.ofNat n1) (Int32.ofNat a1) 1 γ1, ()) ∧ a ≤ a1 ∧ a1 ≤ T ∧ n ≤ n1 ∧ n1 + a ≤ n + a1 ∧ ∀ i, i < 62 * nr + n → γ1 i = γ i)
/-- class and model read alike -/
def ALK (x o T nr : Nat) (M W : Mem) (fc fm : Mem → Option (Mem × Unit)) : Prop := ∀ a n κ γ, a ≤ T → n ≤ a → OUT x o T nr M W a n κ γ (fc (PC M x (Int32.ofNat n) (Int32.ofNat a) (-1) κ)) (fm (PQ W o (Int32.ofNat n) (Int32.ofNat a) 0 γ))
