theorem WM.mono {o : Nat} {W W1 : Mem} {dI dA dB dI' dA' dB' : Nat → Prop} (h : WM o W W1 dI dA dB) (i1 : ∀ f, dI f → dI' f) (i2 : ∀ j, dA j → dA' j) (i3 : ∀ j, dB j → dB' j) : WM o W W1 dI' dA' dB' := by
  obtain ⟨a1, a2, a3, a4, a5, a6, a7, a8, a9, a10, a11⟩ := h
  exact ⟨a1, a2, a3, a4, a5, a6, a7, a8, fun f z => a9 f (fun w => z (i1 f w)), fun f z => a10 f (fun w => z (i2 f w)), fun f z => a11 f (fun w => z (i3 f w))⟩
theorem FM.seq {M M1 M2 : Mem} {cI cJ cR dI dJ dR eI eJ eR : Nat → Nat → Prop} {cA cB cO dA dB dO eA eB eO : Nat → Prop} (h : FM M M1 cI cJ cR cA cB cO) (k : FM M1 M2 dI dJ dR dA dB dO) (i1 : ∀ f a, a < gH M → cI f a ∨ dI f a → eI f a) (i2 : ∀ f a, a < gH M → cJ f a ∨ dJ f a → eJ f a) (i3 : ∀ f a, a < gH M → cR f a ∨ dR f a → eR f a) (i4 : ∀ a, a < gH M → cA a ∨ dA a → eA a) (i5 : ∀ a, a < gH M → cB a ∨ dB a → eB a) (i6 : ∀ a, a < gH M → cO a ∨ dO a → eO a) : FM M M2 eI eJ eR eA eB eO := by
  refine ⟨Nat.le_trans h.1 k.1, k.2.1.trans h.2.1, fun a ha => ?_⟩
  obtain ⟨a1, a2, a3, a4, a5, a6, a7, a8⟩ := h.2.2 a ha
  obtain ⟨b1, b2, b3, b4, b5, b6, b7, b8⟩ := k.2.2 a (Nat.lt_of_lt_of_le ha h.1)
  exact ⟨b1.trans a1, b2.trans a2, fun f z => (b3 f (fun w => z (i1 f a ha (Or.inr w)))).trans (a3 f (fun w => z (i1 f a ha (Or.inl w)))), fun f z => (b4 f (fun w => z (i2 f a ha (Or.inr w)))).trans (a4 f (fun w => z (i2 f a ha (Or.inl w)))), fun f z => (b5 f (fun w => z (i3 f a ha (Or.inr w)))).trans (a5 f (fun w => z (i3 f a ha (Or.inl w)))), fun z => (b6 (fun w => z (i4 a ha (Or.inr w)))).trans (a6 (fun w => z (i4 a ha (Or.inl w)))), fun z => (b7 (fun w => z (i5 a ha (Or.inr w)))).trans (a7 (fun w => z (i5 a ha (Or.inl w)))), fun z => (b8 (fun w => z (i6 a ha (Or.inr w)))).trans (a8 (fun w => z (i6 a ha (Or.inl w))))⟩
theorem okC_congr {co co1 : Nat → Int32} : ∀ r j h, (∀ i, j ≤ i → i < j + r → co1 i = co i) → okC co r j h → okC co1 r j h := by
  intro r
  induction r with
  | zero => exact fun j h _ k => k
  | succ r ih =>
    intro j h e k
    have e0 := e j (Nat.le_refl _) (by omega)
    rcases k with ⟨k1, k2, k3⟩ | ⟨k1, k2, k3, k4⟩
    · exact Or.inl ⟨by rw [e0]; exact k1, k2, ih _ _ (fun i h1 h2 => e i (by omega) (by omega)) k3⟩
    · exact Or.inr ⟨by rw [e0]; exact k1, k2, k3, ih _ _ (fun i h1 h2 => e i (by omega) (by omega)) k4⟩
theorem PC_self (M : Mem) (x : Nat) : PC M x (gI M 1003 (x + 13)) (gI M 1004 (x + 13)) (gI M 1005 (x + 13)) (gA M (x + 15)) = M := by
  have e1 : gI (PC M x (gI M 1003 (x + 13)) (gI M 1004 (x + 13)) (gI M 1005 (x + 13)) (gA M (x + 15))) = gI M := by
    funext f y
    rw [gI_PC]
    by_cases h : y = x + 13
    · rw [if_pos h, h]
      by_cases h1 : f = 1003
      · rw [if_pos h1, h1]
      · rw [if_neg h1]
        by_cases h2 : f = 1004
        · rw [if_pos h2, h2]
        · rw [if_neg h2]
          by_cases h3 : f = 1005
          · rw [if_pos h3, h3]
          · rw [if_neg h3]
    · rw [if_neg h]
  have e2 : gA (PC M x (gI M 1003 (x + 13)) (gI M 1004 (x + 13)) (gI M 1005 (x + 13)) (gA M (x + 15))) = gA M := by
    funext b
    rw [gA_PC]
    by_cases h : b = x + 15
    · rw [if_pos h, h]
    · rw [if_neg h]
  have e3 : ∀ P : Mem, P = mk (gK P) (gN P) (gI P) (gJ P) (gR P) (gA P) (gB P) (gO P) (gH P) (gS P) (gE P) := fun _ => rfl
  rw [e3 (PC M x (gI M 1003 (x + 13)) (gI M 1004 (x + 13)) (gI M 1005 (x + 13)) (gA M (x + 15))), e1, e2]
  rfl
theorem PQ_self (M : Mem) (x : Nat) : PQ M x (gI M 1342 x) (gI M 1341 x) (gI M 1343 x) (gA M (x + 27)) = M := by
  have e1 : gI (PQ M x (gI M 1342 x) (gI M 1341 x) (gI M 1343 x) (gA M (x + 27))) = gI M := by
    funext f y
    rw [gI_PQ]
    by_cases h : y = x
    · rw [if_pos h, h]
      by_cases h1 : f = 1342
      · rw [if_pos h1, h1]
      · rw [if_neg h1]
        by_cases h2 : f = 1341
        · rw [if_pos h2, h2]
        · rw [if_neg h2]
          by_cases h3 : f = 1343
          · rw [if_pos h3, h3]
          · rw [if_neg h3]
    · rw [if_neg h]
  have e2 : gA (PQ M x (gI M 1342 x) (gI M 1341 x) (gI M 1343 x) (gA M (x + 27))) = gA M := by
    funext b
    rw [gA_PQ]
    by_cases h : b = x + 27
    · rw [if_pos h, h]
    · rw [if_neg h]
  have e3 : ∀ P : Mem, P = mk (gK P) (gN P) (gI P) (gJ P) (gR P) (gA P) (gB P) (gO P) (gH P) (gS P) (gE P) := fun _ => rfl
  rw [e3 (PQ M x (gI M 1342 x) (gI M 1341 x) (gI M 1343 x) (gA M (x + 27))), e1, e2]
  rfl
/-- the class begins a reading -/
theorem PC_beg (M : Mem) (x : Nat) : sI (sI (sI M 1004 (x + 13) 0) 1003 (x + 13) 0) 1005 (x + 13) (-1) = PC M x 0 0 (-1) (gA M (x + 15)) := by
  have e : sI (sI (sI (PC M x (gI M 1003 (x + 13)) (gI M 1004 (x + 13)) (gI M 1005 (x + 13)) (gA M (x + 15))) 1004 (x + 13) 0) 1003 (x + 13) 0) 1005 (x + 13) (-1) = PC M x 0 0 (-1) (gA M (x + 15)) := by rw [sPC_a, sPC_u, sPC_f]
  rw [PC_self] at e
  exact e
/-- the model begins a reading -/
theorem PQ_beg (M : Mem) (x : Nat) : sI (sI (sI M 1341 x 0) 1342 x 0) 1343 x 0 = PQ M x 0 0 0 (gA M (x + 27)) := by
  have e : sI (sI (sI (PQ M x (gI M 1342 x) (gI M 1341 x) (gI M 1343 x) (gA M (x + 27))) 1341 x 0) 1342 x 0) 1343 x 0 = PQ M x 0 0 0 (gA M (x + 27)) := by rw [sPQ_a, sPQ_n, sPQ_f]
  rw [PQ_self] at e
  exact e
theorem c_compile {x o T nr : Nat} {tb : Nat → Nat} {M W : Mem} (hc : CT x T tb M) (hm : MT o T nr tb W) : (∃ n1 κ1 γ1, F_X9_compile M (x + 13) = some (PC M x (Int32.ofNat n1) (Int32.ofNat T) (-1) κ1, -1) ∧ F_X12_g FD 0 (PQ W o 0 0 0 (gA W (o + 27))) o 0 = some (PQ W o (Int32.ofNat n1) (Int32.ofNat T) 0 γ1, ()) ∧ GOOD T nr 0 0 (gA M (x + 15)) (gA W (o + 27)) T n1 κ1 γ1) ∨ (∃ a1 u1 n1 ft κ1 γ1, F_X9_compile M (x + 13) = some (PC M x u1 (Int32.ofNat a1) (Int32.ofNat a1) κ1, Int32.ofNat a1) ∧ F_X12_g FD 0 (PQ W o 0 0 0 (gA W (o + 27))) o 0 = some (PQ W o n1 (Int32.ofNat a1) ft γ1, ()) ∧ a1 ≤ T ∧ (ft = 0 → a1 < T) ∧ ∀ i, i < 62 * nr → γ1 i = gA W (o + 27) i) := by
  have hT := hc.2.2.1
  have e0 : F_X9_compile M (x + 13) = cl (F_X9_g FD 0 (PC M x 0 0 (-1) (gA M (x + 15))) (x + 13) (0 : Int32)) fun M4 _ => if (gI M4 1002 (x + 13)) ≤ (gI M4 1004 (x + 13)) then F_X9_compile_p35 M4 (x + 13) else cl (F_X9_fail M4 (x + 13)) fun M6 _ => F_X9_compile_p35 M6 (x + 13) := by
    unfold F_X9_compile
    refine bnd_i (bnd_i (bnd_i ?_))
    rw [PC_beg]
  rw [e0]
  rcases parse_top hc hm (gA M (x + 15)) (gA W (o + 27)) with ⟨a1, n1, κ1, γ1, r1, r2, G⟩ | ⟨a1, n1, u1, κ1, γ1, r1, r2, r3, r4, r5, r6, r7⟩
  · have haT := G.1
    rw [r1, cl_some]
    dsimp only
    rw [PC_s, PC_a, hc.2.1]
    by_cases c : T ≤ a1
    · have : a1 = T := by omega
      subst this
      rw [if_pos ((ofN_le (by omega) (by omega)).mpr c)]
      refine Or.inl ⟨n1, κ1, γ1, ?_, r2, G⟩
      unfold F_X9_compile_p35
      rw [PC_f]
    · rw [if_neg (fun k => c ((ofN_le (by omega) (by omega)).mp k)), c_fail, cl_some]
      refine Or.inr ⟨a1, Int32.ofNat n1, Int32.ofNat n1, 0, κ1, γ1, ?_, r2, haT, fun _ => by omega, G.2.2.2.2.1⟩
      unfold F_X9_compile_p35
      rw [PC_f]
  · rw [r1, cl_some]
    dsimp only
    rw [PC_s, PC_a, hc.2.1]
    refine Or.inr ⟨a1, u1, Int32.ofNat n1, 1, κ1, γ1, ?_, r2, r4, fun k => absurd k (by decide), r7⟩
    by_cases c : T ≤ a1
    · rw [if_pos ((ofN_le (by omega) (by omega)).mpr c)]
      unfold F_X9_compile_p35
      rw [PC_f]
    · rw [if_neg (fun k => c ((ofN_le (by omega) (by omega)).mp k)), c_fail_f M _ _ (ofN_nn (n := a1) (by omega)), cl_some]
      unfold F_X9_compile_p35
      rw [PC_f]
/-- the model's bounds after a text was read -/
theorem mi_text {o nr : Nat} {W W1 : Mem} (hI : MI o W) (hW : WM o W W1 (fun f => f = 1328 ∨ f = 1329 ∨ 1341 ≤ f ∧ f ≤ 1343) (fun j => j = 24 ∨ j = 25 ∨ j = 26 ∨ j = 27) (fun _ => False)) (g_nr : gI W1 1329 o = Int32.ofNat (nrW W1 o) ∧ nrW W1 o ≤ 30) (g_ru : ∀ r, r < nrW W1 o → gA W1 (o + 26) r = Int32.ofNat (szW W1 o r) ∧ szW W1 o r ≤ 60 ∧ okC (gA W1 (o + 27)) (szW W1 o r) (62 * r) 0) : MI o W1 := by
  refine mi_rule (W := mk (gK W) (gN W) (fun f a => if f = 1328 ∨ 1341 ≤ f ∧ f ≤ 1343 then gI W1 f a else gI W f a) (gJ W) (gR W) (gA W) (gB W) (gO W) (gH W) (gS W) (gE W)) ?_ ?_ g_nr g_ru
  · have e : ∀ f, f = 1302 ∨ f = 1312 ∨ f = 1316 ∨ f = 1322 ∨ f = 1329 → gI (mk (gK W) (gN W) (fun f a => if f = 1328 ∨ 1341 ≤ f ∧ f ≤ 1343 then gI W1 f a else gI W f a) (gJ W) (gR W) (gA W) (gB W) (gO W) (gH W) (gS W) (gE W)) f o = gI W f o := fun f hf => if_neg (by omega)
    exact WM.mi (W := W) (dI := fun f => f = 1328 ∨ 1341 ≤ f ∧ f ≤ 1343) (dA := fun _ => False) (dB := fun _ => False) ⟨rfl, rfl, rfl, rfl, rfl, rfl, rfl, rfl, fun f z => if_neg z, fun _ _ => rfl, fun _ _ => rfl⟩ hI (by intro f z1 z; (try dsimp only at z); omega) (fun _ _ _ _ _ => id)
  · obtain ⟨a1, a2, a3, a4, a5, a6, a7, a8, a9, a10, a11⟩ := hW
    refine ⟨a1, a2, a3, a4, a5, a6, a7, a8, fun f z => ?_, a10, a11⟩
    show gI W1 f o = if f = 1328 ∨ 1341 ≤ f ∧ f ≤ 1343 then gI W1 f o else gI W f o
    by_cases c : f = 1328 ∨ 1341 ≤ f ∧ f ≤ 1343
    · rw [if_pos c]
    · rw [if_neg c]
      exact a9 f (by intro k; (try dsimp only at k); omega)
