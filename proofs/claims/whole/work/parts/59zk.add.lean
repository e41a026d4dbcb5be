/-- memory after a place was found for one more -/
def AD (M : Mem) (l el n v : Nat) : Mem := sI (sO M el n (some v)) 2 l (Int32.ofNat (n + 1))
theorem c_add11 {M : Mem} {l el n v : Nat} (hk : gK M el = 23) (hn : n < gN M el) (h10 : n < 10000) (hv : 1 ≤ gK M v ∧ gK M v ≤ 14) : F_Jx4a65c_add_72be8_p11 M l v el (Int32.ofNat n) = some (AD M l el n v, ()) := by
  unfold F_Jx4a65c_add_72be8_p11
  rw [grd_pos hk, grd_pos ⟨ofN_inb (by omega) hn, hv.1, hv.2⟩, ofN_ix (by omega), show Int32.ofNat n + 1 = Int32.ofNat (n + 1) from ofN_succ]
  rfl
/-- room for one more -/
theorem c_grow {M : Mem} {l n : Nat} {f : Nat → Nat} (hL : LiS M l n f) {el : Nat} (he : gR M 1 l = some el) (h0 : n = 0 → el = gE M) (hfull : 0 < n → gN M el = n ∧ ¬ el = gE M ∧ el < gH M) (hn : n ≤ 1000) (hE : gE M < gH M) : ∃ M1, F_Jx4a65c_grow_d5877 M l = some (M1, some (gH M)) ∧ gK M1 = up1 (gK M) (gH M) 23 ∧ (∃ c, n < c ∧ c ≤ 2 * n + 10 ∧ gN M1 = up1 (gN M) (gH M) c ∧ gS M1 = gS M + c) ∧ gI M1 = gI M ∧ gJ M1 = gJ M ∧ gR M1 = up2 (gR M) 1 l (some (gH M)) ∧ (∀ a, ¬ a = gH M → gA M1 a = gA M a ∧ gB M1 a = gB M a ∧ gO M1 a = gO M a) ∧ (∀ i, i < n → gO M1 (gH M) i = some (f i)) ∧ gH M1 = gH M + 1 ∧ gE M1 = gE M := by
  obtain ⟨k1, k2, k3, el', k4, k5⟩ := hL
  rw [he] at k4
  obtain rfl := Option.some.inj k4
  unfold F_Jx4a65c_grow_d5877
  rw [k2, show Int32.ofNat n + 1 = Int32.ofNat (n + 1) from ofN_succ]
  unfold F_Jx4a65c_grow_92f84
  rw [he]
  by_cases c : n = 0
  · have h0 := h0 c
    subst h0
    subst c
    show cl (grd _ _) _ = _ ∧ _
    sorry
  · sorry
