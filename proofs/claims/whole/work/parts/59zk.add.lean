theorem nn_sm {β : Type} {a : Nat} {k : Nat → Option β} : nn (some a) k = k a := rfl
/-- memory after a place was found for one more -/
def AD (M : Mem) (l el n v : Nat) : Mem := sI (sO M el n (some v)) 2 l (Int32.ofNat (n + 1))
theorem c_add11 {M : Mem} {l el n v : Nat} (hk : gK M el = 23) (hn : n < gN M el) (h10 : n < 10000) (hv : 1 ≤ gK M v ∧ gK M v ≤ 14) : F_Jx4a65c_add_72be8_p11 M l v el (Int32.ofNat n) = some (AD M l el n v, ()) := by
  unfold F_Jx4a65c_add_72be8_p11
  rw [grd_pos hk, grd_pos ⟨ofN_inb (by omega) hn, hv.1, hv.2⟩, ofN_ix (by omega), show Int32.ofNat n + 1 = Int32.ofNat (n + 1) from ofN_succ]
  rfl
/-- memory with a new, longer row for the list l -/
def GW (M : Mem) (l c el n : Nat) : Mem := sR (cpO (nA M 23 c) (gH M) el n) 1 l (some (gH M))
theorem c_grow0 {M : Mem} {l : Nat} (h2 : gI M 2 l = 0) (he : gR M 1 l = some (gE M)) : F_Jx4a65c_grow_d5877 M l = some (sR (nA M 23 10) 1 l (some (gH M)), some (gH M)) := by
  unfold F_Jx4a65c_grow_d5877 F_Jx4a65c_grow_92f84
  have ez : alE M (gE M) = 0 := if_pos rfl
  have em : (if (10 : Int32) < 0 + 1 then (0 : Int32) + 1 else 10) = Int32.ofNat 10 := by decide
  have hk : gK (sR (nA M 23 10) 1 l (some (gH M))) (gH M) = 23 := if_pos rfl
  rw [he, h2]
  show cl (grd (gE M = gE M ∨ gK M (gE M) = 23) (if 0 < alE M (gE M) then _ else nn (some (gE M)) _)) _ = _
  rw [grd_pos (Or.inl rfl), ez, if_neg (by decide)]
  show cl (if (some (gE M) : Option Nat) = some (gE M) then _ else _) _ = _
  rw [if_pos rfl, em, grd_pos (by decide), ofN_ix (by omega)]
  show lr (some (gH M)) (gK (sR (nA M 23 10) 1 l (some (gH M)))) 23 _ = _
  rw [lr_some hk]
theorem half_n : ∀ n, n ≤ 60 → (Int32.ofNat n) >>> ((1 : Int32) &&& 31) = Int32.ofNat (n / 2) := by decide +kernel
theorem c_growN {M : Mem} {l el n : Nat} {f : Nat → Nat} (h2 : gI M 2 l = Int32.ofNat n) (he : gR M 1 l = some el) (hne : ¬ el = gE M) (hk : gK M el = 23) (hnn : gN M el = n) (hf : ∀ i, i < n → gO M el i = some (f i)) (hfk : ∀ i, i < n → 1 ≤ gK M (f i) ∧ gK M (f i) ≤ 14 ∧ f i < gH M) (h1 : 1 ≤ n) (h60 : n ≤ 60) (hel : el < gH M) : ∃ c, n < c ∧ c ≤ 2 * n + 10 ∧ F_Jx4a65c_grow_d5877 M l = some (GW M l c el n, some (gH M)) := by
  refine ⟨n + (if 1 < n / 2 then n / 2 else 1), by split <;> omega, by split <;> omega, ?_⟩
  generalize hc : n + (if 1 < n / 2 then n / 2 else 1) = c
  have hcn : n < c ∧ c ≤ 2 * n + 10 := by
    rw [← hc]
    split <;> omega
  unfold F_Jx4a65c_grow_d5877 F_Jx4a65c_grow_92f84
  have ez : alE M el = Int32.ofNat n := by
    unfold alE
    rw [if_neg hne, hnn]
  rw [he, h2, show Int32.ofNat n + 1 = Int32.ofNat (n + 1) from ofN_succ]
  show cl (grd (el = gE M ∨ gK M el = 23) (if 0 < alE M el then _ else nn (some el) _)) _ = _
  rw [grd_pos (Or.inr hk), ez, if_pos (show (0 : Int32) < Int32.ofNat n from (ofN_lt (n := 0) (by omega) (by omega)).mpr (by omega))]
  unfold F_Jx4a65c_grow_92f84_p20
  have eL : F_J8_newLength_cabcc M (Int32.ofNat n) (Int32.ofNat (n + 1) - Int32.ofNat n) (Int32.ofNat n >>> ((1 : Int32) &&& 31)) = some (M, Int32.ofNat c) := by
    unfold F_J8_newLength_cabcc
    rw [half_n n h60, ofN_subk (by omega) (by omega), show n + 1 - n = 1 by omega]
    have e1 : (if Int32.ofNat 1 < Int32.ofNat (n / 2) then Int32.ofNat (n / 2) else Int32.ofNat 1) = Int32.ofNat (if 1 < n / 2 then n / 2 else 1) := by
      by_cases z : 1 < n / 2
      · rw [if_pos ((ofN_lt (by omega) (by omega)).mpr z), if_pos z]
      · rw [if_neg (fun w => z ((ofN_lt (by omega) (by omega)).mp w)), if_neg z]
    rw [e1, ← Int32.ofNat_add, hc]
    refine bnd_i ?_
    rw [if_neg (show ¬ Int32.ofNat c ≤ (0 : Int32) from fun w => by
      have := (ofN_le (m := 0) (by omega) (by omega)).mp w
      omega), if_neg (show ¬ (2147483639 : Int32) < Int32.ofNat c from fun w => by
      have := (ofN_lt (n := 2147483639) (by omega) (by omega)).mp w
      omega)]
  rw [eL, cl_some]
  dsimp only
  rw [he]
  have eC : F_J7_copyOf_1904c M el (Int32.ofNat c) = some (cpO (nA M 23 c) (gH M) el n, some (gH M)) := by
    unfold F_J7_copyOf_1904c F_J7_copyOf_6403c F_J7_copyOf_6403c_p24
    have kel : gK (nA M 23 c) el = 23 := by
      show (if el = gH M then 23 else gK M el) = 23
      rw [if_neg (by omega), hk]
    have nel : gN (nA M 23 c) el = n := by
      show (if el = gH M then c else gN M el) = n
      rw [if_neg (by omega), hnn]
    have oel : ∀ i, i < n → gO (nA M 23 c) el i = some (f i) := by
      intro i hi
      show (if el = gH M then none else gO M el i) = _
      rw [if_neg (by omega), hf i hi]
    have ael : alE (nA M 23 c) el = Int32.ofNat n := by
      unfold alE
      rw [nel]
      exact if_neg hne
    rw [grd_pos hk, grd_pos ⟨by rw [ofN_toInt (by omega)]; omega, by rw [ofN_toInt (by omega)]; omega⟩, ofN_ix (by omega)]
    show cl (bnd (gH M) fun b1 => bnd (nA M 23 c) fun M2 => _) _ = _
    show cl (grd (el = gE M ∨ gK (nA M 23 c) el = 23) _) _ = _
    rw [grd_pos (Or.inr kel), grd_pos kel, ael, if_neg (fun w => by
      have := (ofN_lt (by omega) (by omega)).mp w
      omega), grd_pos ⟨⟨by rw [ofN_toInt (by omega)]; omega, by rw [ofN_toInt (by omega), nel]; omega, by
        rw [ofN_toInt (by omega), show gN (nA M 23 c) (gH M) = c from if_pos rfl]
        omega⟩, by
        rw [ofN_ix (by omega), List.all_eq_true]
        intro i hi
        have hi := List.mem_range.mp hi
        rw [oel i hi]
        obtain ⟨q1, q2, q3⟩ := hfk i hi
        have : gK (nA M 23 c) (f i) = gK M (f i) := if_neg (by omega)
        simp [this, q1, q2]⟩, ofN_ix (by omega)]
    have hk2 : gK (cpO (nA M 23 c) (gH M) el n) (gH M) = 23 := if_pos rfl
    show lr (some (gH M)) (gK (cpO (nA M 23 c) (gH M) el n)) 23 _ = _
    rw [lr_some hk2]
  rw [nn_sm]
  rw [eC, cl_some]
  have hk2 : gK (cpO (nA M 23 c) (gH M) el n) (gH M) = 23 := if_pos rfl
  show cl (lr (some (gH M)) (gK (cpO (nA M 23 c) (gH M) el n)) 23 _) _ = _
  rw [lr_some hk2]
  show lr (some (gH M)) (gK (GW M l c el n)) 23 _ = _
  rw [lr_some (show gK (GW M l c el n) (gH M) = 23 from hk2)]
  rfl
