/-- the class's memory in a reading: used, at, fault, the code -/
def PC (M : Mem) (x : Nat) (u a ft : Int32) (κ : Nat → Int32) : Mem := mk (gK M) (gN M) (fun f y => if y = x + 13 then (if f = 1003 then u else if f = 1004 then a else if f = 1005 then ft else gI M f y) else gI M f y) (gJ M) (gR M) (fun b => if b = x + 15 then κ else gA M b) (gB M) (gO M) (gH M) (gS M) (gE M)
theorem gK_PC (M : Mem) (x : Nat) (u a ft : Int32) (κ : Nat → Int32) : gK (PC M x u a ft κ) = gK M := rfl
theorem gN_PC (M : Mem) (x : Nat) (u a ft : Int32) (κ : Nat → Int32) : gN (PC M x u a ft κ) = gN M := rfl
theorem gR_PC (M : Mem) (x : Nat) (u a ft : Int32) (κ : Nat → Int32) : gR (PC M x u a ft κ) = gR M := rfl
theorem gI_PC (M : Mem) (x : Nat) (u a ft : Int32) (κ : Nat → Int32) (f y : Nat) : gI (PC M x u a ft κ) f y = if y = x + 13 then (if f = 1003 then u else if f = 1004 then a else if f = 1005 then ft else gI M f y) else gI M f y := rfl
theorem gA_PC (M : Mem) (x : Nat) (u a ft : Int32) (κ : Nat → Int32) (b : Nat) : gA (PC M x u a ft κ) b = if b = x + 15 then κ else gA M b := rfl
theorem PC_u (M : Mem) (x : Nat) (u a ft : Int32) (κ : Nat → Int32) : gI (PC M x u a ft κ) 1003 (x + 13) = u := by rw [gI_PC, if_pos rfl, if_pos rfl]
theorem PC_a (M : Mem) (x : Nat) (u a ft : Int32) (κ : Nat → Int32) : gI (PC M x u a ft κ) 1004 (x + 13) = a := by rw [gI_PC, if_pos rfl, if_neg (by omega), if_pos rfl]
theorem PC_f (M : Mem) (x : Nat) (u a ft : Int32) (κ : Nat → Int32) : gI (PC M x u a ft κ) 1005 (x + 13) = ft := by rw [gI_PC, if_pos rfl, if_neg (by omega), if_neg (by omega), if_pos rfl]
theorem PC_s (M : Mem) (x : Nat) (u a ft : Int32) (κ : Nat → Int32) : gI (PC M x u a ft κ) 1002 (x + 13) = gI M 1002 (x + 13) := by rw [gI_PC, if_pos rfl, if_neg (by omega), if_neg (by omega), if_neg (by omega)]
theorem PC_t (M : Mem) (x : Nat) (u a ft : Int32) (κ : Nat → Int32) : gA (PC M x u a ft κ) (x + 14) = gA M (x + 14) := by rw [gA_PC, if_neg (by omega)]
theorem PC_k (M : Mem) (x : Nat) (u a ft : Int32) (κ : Nat → Int32) : gA (PC M x u a ft κ) (x + 15) = κ := by rw [gA_PC, if_pos rfl]
theorem sPC_u (M : Mem) (x : Nat) (u a ft : Int32) (κ : Nat → Int32) (v : Int32) : sI (PC M x u a ft κ) 1003 (x + 13) v = PC M x v a ft κ := by
  refine congrArg (fun z => mk (gK M) (gN M) z (gJ M) (gR M) (gA (PC M x u a ft κ)) (gB M) (gO M) (gH M) (gS M) (gE M)) ?_
  funext f y
  simp only [up2, gI_PC]
  by_cases h1 : y = x + 13
  · by_cases h2 : f = 1003
    · simp [h1, h2]
    · simp [h1, h2]
  · simp [h1]
theorem sPC_a (M : Mem) (x : Nat) (u a ft : Int32) (κ : Nat → Int32) (v : Int32) : sI (PC M x u a ft κ) 1004 (x + 13) v = PC M x u v ft κ := by
  refine congrArg (fun z => mk (gK M) (gN M) z (gJ M) (gR M) (gA (PC M x u a ft κ)) (gB M) (gO M) (gH M) (gS M) (gE M)) ?_
  funext f y
  simp only [up2, gI_PC]
  by_cases h1 : y = x + 13
  · by_cases h2 : f = 1004
    · simp [h1, h2]
    · simp [h1, h2]
  · simp [h1]
theorem sPC_f (M : Mem) (x : Nat) (u a ft : Int32) (κ : Nat → Int32) (v : Int32) : sI (PC M x u a ft κ) 1005 (x + 13) v = PC M x u a v κ := by
  refine congrArg (fun z => mk (gK M) (gN M) z (gJ M) (gR M) (gA (PC M x u a ft κ)) (gB M) (gO M) (gH M) (gS M) (gE M)) ?_
  funext f y
  simp only [up2, gI_PC]
  by_cases h1 : y = x + 13
  · by_cases h2 : f = 1005
    · simp [h1, h2]
    · simp [h1, h2]
  · simp [h1]
theorem sPC_k (M : Mem) (x : Nat) (u a ft : Int32) (κ : Nat → Int32) (i : Nat) (v : Int32) : sA (PC M x u a ft κ) (x + 15) i v = PC M x u a ft (ud κ i v) := by
  refine congrArg (fun z => mk (gK M) (gN M) (gI (PC M x u a ft κ)) (gJ M) (gR M) z (gB M) (gO M) (gH M) (gS M) (gE M)) ?_
  funext b j
  simp only [up2, gA_PC]
  by_cases h1 : b = x + 15
  · simp [h1, ud]
  · simp [h1]
/-- the model's memory in a reading -/
def PQ (W : Mem) (o : Nat) (n a ft : Int32) (γ : Nat → Int32) : Mem := mk (gK W) (gN W) (fun f y => if y = o then (if f = 1342 then n else if f = 1341 then a else if f = 1343 then ft else gI W f y) else gI W f y) (gJ W) (gR W) (fun b => if b = o + 27 then γ else gA W b) (gB W) (gO W) (gH W) (gS W) (gE W)
theorem gK_PQ (M : Mem) (x : Nat) (u a ft : Int32) (κ : Nat → Int32) : gK (PQ M x u a ft κ) = gK M := rfl
theorem gN_PQ (M : Mem) (x : Nat) (u a ft : Int32) (κ : Nat → Int32) : gN (PQ M x u a ft κ) = gN M := rfl
theorem gR_PQ (M : Mem) (x : Nat) (u a ft : Int32) (κ : Nat → Int32) : gR (PQ M x u a ft κ) = gR M := rfl
theorem gI_PQ (M : Mem) (x : Nat) (u a ft : Int32) (κ : Nat → Int32) (f y : Nat) : gI (PQ M x u a ft κ) f y = if y = x then (if f = 1342 then u else if f = 1341 then a else if f = 1343 then ft else gI M f y) else gI M f y := rfl
theorem gA_PQ (M : Mem) (x : Nat) (u a ft : Int32) (κ : Nat → Int32) (b : Nat) : gA (PQ M x u a ft κ) b = if b = x + 27 then κ else gA M b := rfl
theorem PQ_n (M : Mem) (x : Nat) (u a ft : Int32) (κ : Nat → Int32) : gI (PQ M x u a ft κ) 1342 x = u := by rw [gI_PQ, if_pos rfl, if_pos rfl]
theorem PQ_a (M : Mem) (x : Nat) (u a ft : Int32) (κ : Nat → Int32) : gI (PQ M x u a ft κ) 1341 x = a := by rw [gI_PQ, if_pos rfl, if_neg (by omega), if_pos rfl]
theorem PQ_f (M : Mem) (x : Nat) (u a ft : Int32) (κ : Nat → Int32) : gI (PQ M x u a ft κ) 1343 x = ft := by rw [gI_PQ, if_pos rfl, if_neg (by omega), if_neg (by omega), if_pos rfl]
theorem PQ_o (M : Mem) (x : Nat) (u a ft : Int32) (κ : Nat → Int32) {f : Nat} (h1 : ¬ f = 1342) (h2 : ¬ f = 1341) (h3 : ¬ f = 1343) : gI (PQ M x u a ft κ) f x = gI M f x := by rw [gI_PQ, if_pos rfl, if_neg h1, if_neg h2, if_neg h3]
theorem PQ_r (M : Mem) (x : Nat) (u a ft : Int32) (κ : Nat → Int32) {b : Nat} (h : ¬ b = x + 27) : gA (PQ M x u a ft κ) b = gA M b := by rw [gA_PQ, if_neg h]
theorem PQ_k (M : Mem) (x : Nat) (u a ft : Int32) (κ : Nat → Int32) : gA (PQ M x u a ft κ) (x + 27) = κ := by rw [gA_PQ, if_pos rfl]
theorem sPQ_n (M : Mem) (x : Nat) (u a ft : Int32) (κ : Nat → Int32) (v : Int32) : sI (PQ M x u a ft κ) 1342 x v = PQ M x v a ft κ := by
  refine congrArg (fun z => mk (gK M) (gN M) z (gJ M) (gR M) (gA (PQ M x u a ft κ)) (gB M) (gO M) (gH M) (gS M) (gE M)) ?_
  funext f y
  simp only [up2, gI_PQ]
  by_cases h1 : y = x
  · by_cases h2 : f = 1342
    · simp [h1, h2]
    · simp [h1, h2]
  · simp [h1]
theorem sPQ_a (M : Mem) (x : Nat) (u a ft : Int32) (κ : Nat → Int32) (v : Int32) : sI (PQ M x u a ft κ) 1341 x v = PQ M x u v ft κ := by
  refine congrArg (fun z => mk (gK M) (gN M) z (gJ M) (gR M) (gA (PQ M x u a ft κ)) (gB M) (gO M) (gH M) (gS M) (gE M)) ?_
  funext f y
  simp only [up2, gI_PQ]
  by_cases h1 : y = x
  · by_cases h2 : f = 1341
    · simp [h1, h2]
    · simp [h1, h2]
  · simp [h1]
theorem sPQ_f (M : Mem) (x : Nat) (u a ft : Int32) (κ : Nat → Int32) (v : Int32) : sI (PQ M x u a ft κ) 1343 x v = PQ M x u a v κ := by
  refine congrArg (fun z => mk (gK M) (gN M) z (gJ M) (gR M) (gA (PQ M x u a ft κ)) (gB M) (gO M) (gH M) (gS M) (gE M)) ?_
  funext f y
  simp only [up2, gI_PQ]
  by_cases h1 : y = x
  · by_cases h2 : f = 1343
    · simp [h1, h2]
    · simp [h1, h2]
  · simp [h1]
theorem sPQ_k (M : Mem) (x : Nat) (u a ft : Int32) (κ : Nat → Int32) (i : Nat) (v : Int32) : sA (PQ M x u a ft κ) (x + 27) i v = PQ M x u a ft (ud κ i v) := by
  refine congrArg (fun z => mk (gK M) (gN M) (gI (PQ M x u a ft κ)) (gJ M) (gR M) z (gB M) (gO M) (gH M) (gS M) (gE M)) ?_
  funext b j
  simp only [up2, gA_PQ]
  by_cases h1 : b = x + 27
  · simp [h1, ud]
  · simp [h1]
/-- where a byte stands in a text -/
def idxR (l : List Int32) (v : Int32) : Nat → Nat → Int32
  | 0, _ => -1
  | r + 1, i => if l.getD i 0 = v then Int32.ofNat i else idxR l v r (i + 1)
theorem c_idx_loop (M : Mem) (s : Nat) (hs : slen.getD s 0 ≤ 100) (v : Int32) : ∀ (r i f : Nat), i + r = slen.getD s 0 → r < f → F_J1_indexOfChar_4cfef_p7 F_J1_indexOfChar_4cfef_p22 F_J1_indexOfChar_4cfef_p31 f M s (Int32.ofNat (slen.getD s 0)) v (Int32.ofNat i) = some (M, idxR (sbyt.getD s []) v r i) := by
  intro r
  induction r with
  | zero =>
    intro i f hi hf
    obtain ⟨f, rfl⟩ : ∃ z, f = z + 1 := ⟨f - 1, by omega⟩
    unfold F_J1_indexOfChar_4cfef_p7 F_J1_indexOfChar_4cfef_p31
    rw [if_pos ((ofN_le (by omega) (by omega)).mpr (by omega))]
    rfl
  | succ r ih =>
    intro i f hi hf
    obtain ⟨f, rfl⟩ : ∃ z, f = z + 1 := ⟨f - 1, by omega⟩
    have i1 : inb (Int32.ofNat i) (slen.getD s 0) := ofN_inb (by omega) (by omega)
    have i2 : ixn (Int32.ofNat i) = i := ofN_ix (by omega)
    have hrec := ih (i + 1) f (by omega) (by omega)
    conv => lhs; unfold F_J1_indexOfChar_4cfef_p7
    rw [if_neg (by rw [ofN_le (by omega) (by omega)]; omega), grd_pos i1, i2]
    unfold idxR
    by_cases c : (sbyt.getD s []).getD i 0 = v
    · rw [if_pos c, if_pos c]
      rfl
    · rw [if_neg c, if_neg c]
      refine bnd_i ?_
      rw [ofN_succ]
      exact hrec
/-- a text's place of a byte b -/
def idxS (s b : Nat) : Int32 := idxR (sbyt.getD s []) ((Int32.ofNat b).toInt8.toInt32) (slen.getD s 0) 0
theorem byte_u : ∀ b, b < 256 → ((Int32.ofNat b).toUInt32 % 65536).toInt32 = Int32.ofNat b := by decide +kernel
theorem slen_ok : ∀ s, s < 7 → 1 ≤ slen.getD s 0 ∧ slen.getD s 0 ≤ 9 := by decide
theorem c_indexOf (M : Mem) {s b : Nat} (hs : s < 7) (hb : b < 256) : F_J0_indexOf_0f7a4 M s (Int32.ofNat b) = some (M, idxS s b) := by
  obtain ⟨l1, l2⟩ := slen_ok s hs
  have z : (0 : Int32).toInt = 0 := by decide
  have z255 : (255 : Int32).toInt = 255 := by decide
  have n1 : ¬ Int32.ofNat b < 0 := fun k => by
    have := i32_lt.mp k
    rw [ofN_toInt (by omega), z] at this
    omega
  have n2 : ¬ (255 : Int32) < Int32.ofNat b := fun k => by
    have := i32_lt.mp k
    rw [ofN_toInt (by omega), z255] at this
    omega
  have eL : F_J0_length_8abf5 M s = some (M, Int32.ofNat (slen.getD s 0)) := by
    unfold F_J0_length_8abf5 F_J0_coder_7d493 F_J0_coder_7d493_p14
    rw [if_neg (show ¬ (1 : Int32) = 0 by decide), grd_pos (Or.inl rfl), cl_some]
    have : ∀ k, k ≤ 9 → Int32.ofNat k >>> ((0 : Int32) &&& 31) = Int32.ofNat k := by decide
    show some (M, Int32.ofNat (slen.getD s 0) >>> ((0 : Int32) &&& 31)) = _
    rw [this _ l2]
  have eC : F_J1_canEncode_9a6ad M (Int32.ofNat b) = some (M, 1) := by
    unfold F_J1_canEncode_9a6ad F_J1_canEncode_9a6ad_p16
    rw [if_neg n1, if_neg n2, grd_pos (Or.inr rfl)]
  have hl := c_idx_loop M s (by omega) ((Int32.ofNat b).toInt8.toInt32) (slen.getD s 0) 0 FU (by omega) (by unfold FU; omega)
  unfold F_J0_indexOf_0f7a4 F_J0_indexOf_7cf53 F_J0_isLatin1_aae02 F_J0_isLatin1_aae02_p18
  rw [if_neg (show ¬ (1 : Int32) = 0 by decide), if_pos (show (0 : Int32) = 0 from rfl), grd_pos (Or.inr rfl), cl_some]
  show cl (if (1 : Int32) = 0 then _ else _) _ = _
  rw [if_neg (show ¬ (1 : Int32) = 0 by decide), eL, cl_some]
  show cl (cl (F_J1_indexOf_4cfef M s (Int32.ofNat b) 0 (Int32.ofNat (slen.getD s 0))) _) _ = _
  have eI : F_J1_indexOf_4cfef M s (Int32.ofNat b) 0 (Int32.ofNat (slen.getD s 0)) = some (M, idxS s b) := by
    unfold F_J1_indexOf_4cfef
    rw [eC, cl_some]
    show (if (1 : Int32) = 0 then _ else _) = _
    rw [if_neg (show ¬ (1 : Int32) = 0 by decide)]
    refine bnd_i ?_
    rw [if_neg (show ¬ (0 : Int32) < 0 by decide)]
    refine bnd_i ?_
    rw [if_neg (show ¬ Int32.ofNat (slen.getD s 0) < Int32.ofNat (slen.getD s 0) from Int32.lt_irrefl), if_pos (show (0 : Int32) < Int32.ofNat (slen.getD s 0) from i32_lt.mpr (by rw [ofN_toInt (by omega), z]; omega))]
    unfold F_J1_indexOfChar_4cfef
    have hl2 : bnd ((Int32.ofNat b).toInt8.toInt32) (fun v1 => F_J1_indexOfChar_4cfef_p7 F_J1_indexOfChar_4cfef_p22 F_J1_indexOfChar_4cfef_p31 FU M s (Int32.ofNat (slen.getD s 0)) v1 (0 : Int32)) = some (M, idxS s b) := bnd_i hl
    rw [hl2, cl_some]
  rw [eI]
  rfl
theorem ix_0 : ∀ b, b < 256 → (idxS 0 b < 0 ↔ ¬ (b = 43 ∨ b = 45)) := by decide +kernel
theorem ix_1 : ∀ b, b < 256 → (idxS 1 b < 0 ↔ ¬ (b = 42 ∨ b = 47)) := by decide +kernel
theorem ix_3 : ∀ b, b < 256 → (idxS 3 b < 0 ↔ ¬ b = 40) := by decide +kernel
theorem ix_4 : ∀ b, b < 256 → (idxS 4 b < 0 ↔ ¬ (b = 60 ∨ b = 61 ∨ b = 62)) := by decide +kernel
theorem ix_5 : ∀ b, b < 256 → (idxS 5 b < 0 ↔ ¬ b = 41) := by decide +kernel
theorem ix_6 : idxS 6 43 = 0 ∧ idxS 6 45 = 1 ∧ idxS 6 42 = 2 ∧ idxS 6 47 = 3 ∧ idxS 6 60 = 4 ∧ idxS 6 61 = 5 ∧ idxS 6 62 = 6 := by decide +kernel
def ltrs : List Int32 := [104, 100, 112, 99, 110, 116, 114, 98, 102]
/-- the model's place of a letter -/
def ltI (v : Int32) : Nat → Nat → Nat
  | 0, i => i
  | r + 1, i => if ltrs.getD i 0 = v then i else ltI v r (i + 1)
theorem ix_2 : ∀ b, b < 256 → (idxS 2 b < 0 ∧ ltI (Int32.ofNat b) 9 0 = 9) ∨ (¬ idxS 2 b < 0 ∧ ltI (Int32.ofNat b) 9 0 < 9 ∧ idxS 2 b = Int32.ofNat (ltI (Int32.ofNat b) 9 0) ∧ ¬ (48 ≤ b ∧ b ≤ 57) ∧ ¬ b = 40) := by decide +kernel
theorem ix_2n : ltI (-1) 9 0 = 9 := by decide
theorem ix_d : ∀ b, b < 256 → (48 ≤ b ∧ b ≤ 57) → idxS 2 b < 0 := by decide +kernel
