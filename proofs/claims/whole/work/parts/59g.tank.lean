/-- memory with other long rows -/
def ZB (M : Mem) (β : Nat → Nat → Int64) : Mem := mk (gK M) (gN M) (gI M) (gJ M) (gR M) (gA M) β (gO M) (gH M) (gS M) (gE M)
theorem ZB_self (M : Mem) : ZB M (gB M) = M := rfl
theorem sB_ZB (M : Mem) (β : Nat → Nat → Int64) (a i : Nat) (v : Int64) : sB (ZB M β) a i v = ZB M (up2 β a i v) := rfl
theorem gK_ZB (M : Mem) (β : Nat → Nat → Int64) : gK (ZB M β) = gK M := rfl
theorem gN_ZB (M : Mem) (β : Nat → Nat → Int64) : gN (ZB M β) = gN M := rfl
theorem gI_ZB (M : Mem) (β : Nat → Nat → Int64) : gI (ZB M β) = gI M := rfl
theorem gJ_ZB (M : Mem) (β : Nat → Nat → Int64) : gJ (ZB M β) = gJ M := rfl
theorem gR_ZB (M : Mem) (β : Nat → Nat → Int64) : gR (ZB M β) = gR M := rfl
theorem gA_ZB (M : Mem) (β : Nat → Nat → Int64) : gA (ZB M β) = gA M := rfl
theorem gO_ZB (M : Mem) (β : Nat → Nat → Int64) : gO (ZB M β) = gO M := rfl
theorem gB_ZB (M : Mem) (β : Nat → Nat → Int64) : gB (ZB M β) = β := rfl
/-- a move: j less 3 -/
def dI (j : Nat) : Int32 := Int32.ofNat j + (-3)
theorem dI_0 : dI 0 = -3 := by decide
theorem dI_s (j : Nat) : dI j + 1 = dI (j + 1) := by
  unfold dI
  rw [← ofN_succ, Int32.add_assoc, Int32.add_comm (-3), ← Int32.add_assoc]
theorem dI_t {j : Nat} (h : j ≤ 7) : (dI j).toInt = (j : Int) - 3 := by
  unfold dI
  have e : (-3 : Int32).toInt = -3 := by decide
  rw [i32_add (by rw [ofN_toInt (by omega), e]; omega) (by rw [ofN_toInt (by omega), e]; omega), ofN_toInt (by omega), e]
  omega
theorem dI_c {c j : Nat} (hc : c ≤ 9) (h : j ≤ 7) : (Int32.ofNat c + dI j).toInt = (c : Int) + j - 3 := by
  rw [i32_add (by rw [ofN_toInt (by omega), dI_t h]; omega) (by rw [ofN_toInt (by omega), dI_t h]; omega), ofN_toInt (by omega), dI_t h]
  omega
theorem dI_n {c j : Nat} (hc : c ≤ 9) (h : j ≤ 7) (h3 : 3 ≤ c + j) : Int32.ofNat c + dI j = Int32.ofNat (c + j - 3) := by
  apply i32_ext
  rw [dI_c hc h, ofN_toInt (by omega)]
  omega
theorem dI_7 : (3 : Int32) < dI 7 := by decide
theorem dI_lt {j : Nat} (h : j ≤ 6) : ¬ (3 : Int32) < dI j := by
  intro k
  have k := i32_lt.mp k
  have e : (3 : Int32).toInt = 3 := by decide
  rw [dI_t (by omega), e] at k
  omega
def boS (nd : Nat → Int64) (sz : Int64) (h j : Nat) : Int64 := nd h + (dI j).toInt64 * sz
abbrev fea (cr : Nat) (nd : Nat → Int64) (sz : Int64) (h c j : Nat) : Prop := 3 ≤ c + j ∧ c + j ≤ cr + 3 ∧ 0 ≤ (boS nd sz h j).toInt
def coS (nd pr : Nat → Int64) (sz : Int64) (h j : Nat) : Int64 := boS nd sz h j * pr h / 100
def mvS (cr : Nat) (nd pr : Nat → Int64) (sz : Int64) (h : Nat) (nx : Nat → Int64) (c j : Nat) : Int64 := if fea cr nd sz h c j then coS nd pr sz h j + nx (c + j - 3) else 9223372036854775807
def cvS (cr : Nat) (nd pr : Nat → Int64) (sz : Int64) (h : Nat) (nx : Nat → Int64) (c j : Nat) : Int64 := if fea cr nd sz h c j then coS nd pr sz h j + nx (c + j - 3) else 4000000000000000000
/-- the least cost with r hours left -/
def tkL (cr : Nat) (nd pr : Nat → Int64) (sz : Int64) : Nat → Nat → Int64
  | 0, _ => 0
  | r + 1, c => minR (mvS cr nd pr sz (23 - r) (tkL cr nd pr sz r) c) 7 0 9223372036854775807
theorem minR_at (v : Nat → Int64) : ∀ (r b : Nat) (a : Int64) (j : Nat), b ≤ j → j < b + r → (minR v r b a).toInt ≤ (v j).toInt := by
  intro r
  induction r with
  | zero => intro b a j h1 h2; omega
  | succ r ih =>
    intro b a j h1 h2
    rw [minR_succ]
    by_cases e : j = b
    · have h3 := minR_le v r (b + 1) (mn (v b) a)
      have h4 := mn_toInt (v b) a
      rw [e]
      omega
    · exact ih (b + 1) _ j (by omega) (by omega)
theorem minR_ex (v : Nat → Int64) : ∀ (r b : Nat) (a : Int64), minR v r b a = a ∨ ∃ j, b ≤ j ∧ j < b + r ∧ minR v r b a = v j := by
  intro r
  induction r with
  | zero => intro b a; exact Or.inl rfl
  | succ r ih =>
    intro b a
    rw [minR_succ]
    rcases ih (b + 1) (mn (v b) a) with h | ⟨j, h1, h2, h3⟩
    · rw [h]
      unfold mn
      by_cases c : v b < a
      · rw [if_pos c]
        exact Or.inr ⟨b, Nat.le_refl _, by omega, rfl⟩
      · rw [if_neg c]
        exact Or.inl rfl
    · exact Or.inr ⟨j, by omega, by omega, h3⟩
theorem minR_cap (v w : Nat → Int64) (K : Int64) : ∀ (r b : Nat) (a : Int64), (∀ j, b ≤ j → j < b + r → w j = mn (v j) K) → minR w r b (mn a K) = mn (minR v r b a) K := by
  intro r
  induction r with
  | zero => intro b a _; rfl
  | succ r ih =>
    intro b a h
    rw [minR_succ, minR_succ, h b (by omega) (by omega), ← ih (b + 1) (mn (v b) a) (fun j h1 h2 => h j (by omega) (by omega))]
    congr 1
    apply i64_ext
    simp only [mn_toInt]
    omega
/-- what a day's tank rests on -/
def TK (cr : Nat) (nd pr : Nat → Int64) (sz : Int64) : Prop := cr ≤ 9 ∧ 1 ≤ sz.toInt ∧ sz.toInt ≤ 9999 ∧ ∀ h, 0 ≤ (nd h).toInt ∧ (nd h).toInt ≤ 2000000 ∧ 0 ≤ (pr h).toInt ∧ (pr h).toInt ≤ 999
theorem TK.bo {cr : Nat} {nd pr : Nat → Int64} {sz : Int64} (hT : TK cr nd pr sz) (h : Nat) {j : Nat} (hj : j ≤ 6) : (boS nd sz h j).toInt = (nd h).toInt + ((j : Int) - 3) * sz.toInt ∧ (boS nd sz h j).toInt ≤ 2029997 := by
  obtain ⟨t1, t2, t3, t4⟩ := hT
  obtain ⟨n1, n2, -, -⟩ := t4 h
  have m1 : ((j : Int) - 3) * sz.toInt ≤ 3 * 9999 := by
    have a1 : ((j : Int) - 3) * sz.toInt ≤ 3 * sz.toInt := Int.mul_le_mul_of_nonneg_right (by omega) (by omega)
    omega
  have m2 : -(3 * 9999) ≤ ((j : Int) - 3) * sz.toInt := by
    have a1 : (-3) * sz.toInt ≤ ((j : Int) - 3) * sz.toInt := Int.mul_le_mul_of_nonneg_right (by omega) (by omega)
    omega
  have e1 : ((dI j).toInt64 * sz).toInt = ((j : Int) - 3) * sz.toInt := by rw [i64_mul (by rw [Int32.toInt_toInt64, dI_t (by omega)]; omega) (by rw [Int32.toInt_toInt64, dI_t (by omega)]; omega), Int32.toInt_toInt64, dI_t (by omega)]
  unfold boS
  rw [i64_add (by rw [e1]; omega) (by rw [e1]; omega), e1]
  exact ⟨rfl, by omega⟩
theorem TK.co {cr : Nat} {nd pr : Nat → Int64} {sz : Int64} (hT : TK cr nd pr sz) (h : Nat) {j : Nat} (hj : j ≤ 6) (hb : 0 ≤ (boS nd sz h j).toInt) : 0 ≤ (coS nd pr sz h j).toInt ∧ (coS nd pr sz h j).toInt ≤ 30000000 := by
  obtain ⟨b1, b2⟩ := hT.bo h hj
  obtain ⟨-, -, p1, p2⟩ := hT.2.2.2 h
  have m0 : 0 ≤ (boS nd sz h j).toInt * (pr h).toInt := Int.mul_nonneg hb p1
  have m1 : (boS nd sz h j).toInt * (pr h).toInt ≤ 2029997 * 999 := Int.mul_le_mul b2 p2 p1 (by omega)
  unfold coS
  rw [i64_div (by rw [k100]; omega), i64_mul (by omega) (by omega), k100]
  obtain ⟨d1, d2, d3⟩ := tdiv_nn m0 (show (0 : Int) < 100 by omega)
  omega
theorem TK.fea3 {cr : Nat} {nd pr : Nat → Int64} {sz : Int64} (hT : TK cr nd pr sz) (h : Nat) {c : Nat} (hc : c ≤ cr) : fea cr nd sz h c 3 := by
  obtain ⟨b1, b2⟩ := hT.bo h (j := 3) (by omega)
  refine ⟨by omega, by omega, ?_⟩
  rw [b1]
  have := (hT.2.2.2 h).1
  simp
  omega
theorem e9x : (9223372036854775807 : Int64).toInt = 9223372036854775807 := by decide
theorem e4x : (4000000000000000000 : Int64).toInt = 4000000000000000000 := by decide
theorem tkL_bt {cr : Nat} {nd pr : Nat → Int64} {sz : Int64} (hT : TK cr nd pr sz) : ∀ r, r ≤ 24 → ∀ c, c ≤ cr → 0 ≤ (tkL cr nd pr sz r c).toInt ∧ (tkL cr nd pr sz r c).toInt ≤ 30000000 * r := by
  intro r
  induction r with
  | zero =>
    intro _ c _
    show 0 ≤ (0 : Int64).toInt ∧ (0 : Int64).toInt ≤ _
    rw [z64]
    omega
  | succ r ih =>
    intro hr c hc
    have hx : ∀ j, j ≤ 6 → fea cr nd sz (23 - r) c j → (mvS cr nd pr sz (23 - r) (tkL cr nd pr sz r) c j).toInt = (coS nd pr sz (23 - r) j).toInt + (tkL cr nd pr sz r (c + j - 3)).toInt := by
      intro j hj hf
      obtain ⟨c1, c2⟩ := hT.co (23 - r) hj hf.2.2
      obtain ⟨l1, l2⟩ := ih (by omega) (c + j - 3) (by have := hf.2.1; omega)
      unfold mvS
      rw [if_pos hf, i64_add (by omega) (by omega)]
    have h3 := hT.fea3 (23 - r) hc
    have hat := minR_at (mvS cr nd pr sz (23 - r) (tkL cr nd pr sz r) c) 7 0 9223372036854775807 3 (by omega) (by omega)
    rw [hx 3 (by omega) h3] at hat
    obtain ⟨c1, c2⟩ := hT.co (23 - r) (j := 3) (by omega) h3.2.2
    obtain ⟨l1, l2⟩ := ih (by omega) (c + 3 - 3) (by omega)
    have hL : tkL cr nd pr sz (r + 1) c = minR (mvS cr nd pr sz (23 - r) (tkL cr nd pr sz r) c) 7 0 9223372036854775807 := rfl
    rw [hL]
    refine ⟨?_, by omega⟩
    rcases minR_ex (mvS cr nd pr sz (23 - r) (tkL cr nd pr sz r) c) 7 0 9223372036854775807 with h | ⟨j, j1, j2, j3⟩
    · rw [h, e9x]
      omega
    · rw [j3]
      by_cases hf : fea cr nd sz (23 - r) c j
      · rw [hx j (by omega) hf]
        obtain ⟨c3, c4⟩ := hT.co (23 - r) (show j ≤ 6 by omega) hf.2.2
        obtain ⟨l3, l4⟩ := ih (by omega) (c + j - 3) (by have := hf.2.1; omega)
        omega
      · unfold mvS
        rw [if_neg hf, e9x]
        omega
/-- the class's least is the model's -/
theorem least_eq {cr : Nat} {nd pr : Nat → Int64} {sz : Int64} (hT : TK cr nd pr sz) {r : Nat} (hr : r < 24) {c : Nat} (hc : c ≤ cr) : minR (cvS cr nd pr sz (23 - r) (tkL cr nd pr sz r) c) 7 0 4000000000000000000 = tkL cr nd pr sz (r + 1) c := by
  have hcap := minR_cap (mvS cr nd pr sz (23 - r) (tkL cr nd pr sz r) c) (cvS cr nd pr sz (23 - r) (tkL cr nd pr sz r) c) 4000000000000000000 7 0 9223372036854775807 (by
    intro j _ hj
    apply i64_ext
    rw [mn_toInt, e4x]
    unfold cvS mvS
    by_cases hf : fea cr nd sz (23 - r) c j
    · rw [if_pos hf, if_pos hf]
      obtain ⟨c3, c4⟩ := hT.co (23 - r) (show j ≤ 6 by omega) hf.2.2
      obtain ⟨l3, l4⟩ := tkL_bt hT r (by omega) (c + j - 3) (by have := hf.2.1; omega)
      rw [i64_add (by omega) (by omega)]
      omega
    · rw [if_neg hf, if_neg hf, e4x, e9x]
      omega)
  have e1 : mn 9223372036854775807 4000000000000000000 = 4000000000000000000 := by
    apply i64_ext
    rw [mn_toInt, e9x, e4x]
    omega
  rw [e1] at hcap
  rw [hcap]
  obtain ⟨l1, l2⟩ := tkL_bt hT (r + 1) (by omega) c hc
  apply i64_ext
  rw [mn_toInt, e4x]
  show min (tkL cr nd pr sz (r + 1) c).toInt _ = _
  omega
/-- the first of r places from j on -/
def fstP (p : Nat → Prop) [DecidablePred p] : Nat → Nat → Nat
  | 0, j => j
  | r + 1, j => if p j then j else fstP p r (j + 1)
theorem fstP_ok (p : Nat → Prop) [DecidablePred p] : ∀ (r j : Nat), (∃ k, j ≤ k ∧ k < j + r ∧ p k) → p (fstP p r j) ∧ fstP p r j < j + r := by
  intro r
  induction r with
  | zero =>
    intro j h
    obtain ⟨k, h1, h2, -⟩ := h
    omega
  | succ r ih =>
    intro j h
    unfold fstP
    by_cases c : p j
    · rw [if_pos c]
      exact ⟨c, by omega⟩
    · rw [if_neg c]
      obtain ⟨k, h1, h2, h3⟩ := h
      have hk : ¬ k = j := fun z => c (z ▸ h3)
      obtain ⟨i1, i2⟩ := ih (j + 1) ⟨k, by omega, by omega, h3⟩
      exact ⟨i1, by omega⟩
/-- the best move's test -/
abbrev isBest (cr : Nat) (nd pr : Nat → Int64) (sz : Int64) (h c j : Nat) : Prop := fea cr nd sz h c j ∧ coS nd pr sz h j + tkL cr nd pr sz (23 - h) (c + j - 3) = tkL cr nd pr sz (24 - h) c
def bestJ (cr : Nat) (nd pr : Nat → Int64) (sz : Int64) (h c : Nat) : Nat := fstP (fun j => isBest cr nd pr sz h c j) 7 0
theorem bestJ_ok {cr : Nat} {nd pr : Nat → Int64} {sz : Int64} (hT : TK cr nd pr sz) {h c : Nat} (hh : h < 24) (hc : c ≤ cr) : isBest cr nd pr sz h c (bestJ cr nd pr sz h c) ∧ bestJ cr nd pr sz h c < 7 := by
  have hok := fstP_ok (fun j => isBest cr nd pr sz h c j) 7 0
  have : ∃ k, 0 ≤ k ∧ k < 0 + 7 ∧ isBest cr nd pr sz h c k := by
    have hL : tkL cr nd pr sz (24 - h) c = minR (mvS cr nd pr sz h (tkL cr nd pr sz (23 - h)) c) 7 0 9223372036854775807 := by
      rw [show 24 - h = (23 - h) + 1 by omega]
      show minR (mvS cr nd pr sz (23 - (23 - h)) _ c) 7 0 _ = _
      rw [show 23 - (23 - h) = h by omega]
    obtain ⟨l1, l2⟩ := tkL_bt hT (24 - h) (by omega) c hc
    rcases minR_ex (mvS cr nd pr sz h (tkL cr nd pr sz (23 - h)) c) 7 0 9223372036854775807 with e | ⟨j, j1, j2, j3⟩
    · rw [hL, e, e9x] at l2
      omega
    · by_cases hf : fea cr nd sz h c j
      · refine ⟨j, j1, j2, hf, ?_⟩
        rw [hL, j3]
        unfold mvS
        rw [if_pos hf]
      · rw [hL, j3] at l2
        unfold mvS at l2
        rw [if_neg hf, e9x] at l2
        omega
  obtain ⟨i1, i2⟩ := hok this
  exact ⟨i1, by unfold bestJ; omega⟩
/-- how many crates it holds -/
def heldS (cr : Nat) (nd pr : Nat → Int64) (sz : Int64) : Nat → Nat
  | 0 => 0
  | h + 1 => heldS cr nd pr sz h + bestJ cr nd pr sz h (heldS cr nd pr sz h) - 3
theorem heldS_le {cr : Nat} {nd pr : Nat → Int64} {sz : Int64} (hT : TK cr nd pr sz) : ∀ h, h ≤ 24 → heldS cr nd pr sz h ≤ cr := by
  intro h
  induction h with
  | zero => exact fun _ => Nat.zero_le _
  | succ h ih =>
    intro hh
    have := (bestJ_ok hT (show h < 24 by omega) (ih (by omega))).1.1
    show heldS cr nd pr sz h + bestJ cr nd pr sz h (heldS cr nd pr sz h) - 3 ≤ cr
    have := this.2.1
    omega
