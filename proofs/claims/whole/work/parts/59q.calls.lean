theorem opr_of {ρ : Type} {x o : Nat} {M W M1 W1 : Mem} {rc rm : Option (Mem × ρ)} {r : ρ} {ha ua ba ma ea : Nat → Nat} {ra rb : Nat → Nat → Nat} {tg : Nat → Nat} {hr : Nat} (h1 : rc = some (M1, r)) (h2 : rm = some (W1, r)) (hR : REL x o M1 W1 ha ua ba ma ea ra rb tg hr) (k1 : gH M1 = gH M) (k2 : gS M1 = gS M) (k3 : gH W1 = gH W) (k4 : gS W1 = gS W) : OPR x o M W rc rm := ⟨M1, W1, r, h1, h2, ⟨ha, ua, ba, ma, ea, ra, rb, tg, hr, hR⟩, by omega, by omega, by omega, by omega, k3, k4⟩
theorem opr_map {ρ σ : Type} {x o : Nat} {M W : Mem} {rc rm : Option (Mem × ρ)} (φ : ρ → σ) {kc km : Mem → ρ → Option (Mem × σ)} (h : OPR x o M W rc rm) (h1 : ∀ N r, kc N r = some (N, φ r)) (h2 : ∀ N r, km N r = some (N, φ r)) : OPR x o M W (cl rc kc) (cl rm km) := by
  obtain ⟨M1, W1, r, e1, e2, rest⟩ := h
  exact ⟨M1, W1, φ r, by rw [e1, cl_some, h1], by rw [e2, cl_some, h2], rest⟩
/-- every refusal counts alike -/
theorem opr_refuse {x o : Nat} {M W : Mem} (h : Rel x o M W) {c : Int32} {k : Nat} (hk : c.toInt = -(k : Int)) (h1 : 1 ≤ k) (h7 : k < 7) : OPR x o M W (F_X11_refuse M x c) (F_X12_refuse W o c) := by
  obtain ⟨ha, ua, ba, ma, ea, ra, rb, tg, hr, hR⟩ := h
  have hC : CSh x M := hR.1.1.1
  have hS : MSh o W := hR.1.1.2.2.1.sh
  have hRf := hR.2.2.2.2.1
  have ec : (-c) = Int32.ofNat k := by
    apply Int32.toInt_inj.mp
    rw [ofN_toInt (by omega), Int32.toInt_neg, hk]
    have : (-(-(k : Int))).bmod (2 ^ 32) = k := by
      rw [Int.neg_neg]
      exact Int.bmod_eq_of_le (by omega) (by omega)
    simpa using this
  have c1 : ¬ 0 ≤ c := by
    rw [Int32.le_iff_toInt_le, hk]
    have : (0 : Int32).toInt = 0 := by decide
    omega
  have c2 : ¬ c ≤ -(Int32.ofNat 7) := by
    rw [Int32.le_iff_toInt_le, hk]
    have : (-(Int32.ofNat 7)).toInt = -7 := by decide
    omega
  have i1 : inb (Int32.ofNat k) 7 := ofN_inb (by omega) (by omega)
  have i2 : ixn (Int32.ofNat k) = k := ofN_ix (by omega)
  refine opr_of (M1 := sA M (x + 53) k (gA M (x + 53) k + 1)) (W1 := sA W (o + 1) k (gA W (o + 1) k + 1)) (r := c) ?_ ?_ (upd_refuse hR ⟨Nat.le_refl _, rfl, fun a _ => ⟨rfl, rfl, fun _ _ => rfl, fun _ _ => rfl, fun _ _ => rfl, fun z => gA_nf z, fun _ => rfl, fun _ => rfl⟩⟩ ⟨rfl, rfl, rfl, rfl, rfl, rfl, rfl, rfl, fun _ _ => rfl, fun j z => gA_nf (by omega), fun _ _ => rfl⟩ rfl rfl ?_) rfl rfl rfl rfl
  · unfold F_X11_refuse F_X11_refuse_p25
    simp only [c1, if_false, hC.r1208, lr_some hC.k53, hC.n53, c2, ec, grd_pos i1, i2]
    exact bnd_i rfl
  · unfold F_X12_refuse
    simp only [hS.r1300, lr_some hS.k1, hS.n1, ec, grd_pos i1, i2]
    exact bnd_i rfl
  · intro i hi
    rw [gA_sf, gA_sf]
    unfold ud
    by_cases c3 : i = k
    · rw [if_pos c3, if_pos c3, hRf k h7]
    · rw [if_neg c3, if_neg c3, hRf i hi]
theorem opr_refuseL {x o : Nat} {M W : Mem} (h : Rel x o M W) {c : Int32} {k : Nat} (hk : c.toInt = -(k : Int)) (h1 : 1 ≤ k) (h7 : k < 7) : OPR x o M W (F_X11_refuseLong M x c) (F_X12_refuseLong W o c) := by
  unfold F_X11_refuseLong F_X12_refuseLong
  generalize (4000000000000000000 : Int64) = z
  exact opr_map (fun r => z - r.toInt64) (opr_refuse h hk h1 h7) (fun _ _ => rfl) (fun _ _ => rfl)
theorem rf1 : ((-1 : Int32)).toInt = -((1 : Nat) : Int) := by decide
theorem rf2 : ((-2 : Int32)).toInt = -((2 : Nat) : Int) := by decide
theorem rf3 : ((-3 : Int32)).toInt = -((3 : Nat) : Int) := by decide
theorem rf4 : ((-4 : Int32)).toInt = -((4 : Nat) : Int) := by decide
theorem rf5 : ((-5 : Int32)).toInt = -((5 : Nat) : Int) := by decide
theorem rf6 : ((-6 : Int32)).toInt = -((6 : Nat) : Int) := by decide
theorem c_beyond (M : Mem) (a lo hi : Int32) : F_X11_beyond M a lo hi = some (M, if lo ≤ a then (if a ≤ hi then 0 else -6) else -4) := by
  unfold F_X11_beyond F_X11_beyond_p19
  by_cases h1 : lo ≤ a
  · rw [if_pos h1, if_pos h1]
    by_cases h2 : a ≤ hi
    · rw [if_pos h2, if_pos h2]
    · rw [if_neg h2, if_neg h2]
  · rw [if_neg h1, if_neg h1]
theorem op_share {x o : Nat} {M W : Mem} (h : Rel x o M W) (a : Int32) : OPR x o M W (F_X11_share M x a) (F_X12_share W o a) := by
  unfold F_X11_share F_X12_share
  rw [c_beyond, cl_some]
  by_cases c1 : (0 : Int32) ≤ a
  · by_cases c2 : a ≤ (999 : Int32)
    · simp only [c1, c2, if_true]
      obtain ⟨ha, ua, ba, ma, ea, ra, rb, tg, hr, hR⟩ := h
      have hC : CSh x M := hR.1.1.1
      have hB := hR.1.1.2.2.2.2.2.2.2.2
      have hI := hR.1.1.2.2.1
      refine opr_of (M1 := sI M 205 (x + 46) a) (W1 := sI W 1312 o a) (r := gI W 1312 o) ?_ (bnd_i (bnd_i rfl)) (upd_share hR ⟨Nat.le_refl _, rfl, fun a1 _ => ⟨rfl, rfl, fun f z => if_neg z, fun _ _ => rfl, fun _ _ => rfl, fun _ => rfl, fun _ => rfl, fun _ => rfl⟩⟩ ⟨rfl, rfl, rfl, rfl, rfl, rfl, rfl, rfl, fun f z => if_neg (fun k => z k.1), fun _ _ => rfl, fun _ _ => rfl⟩ rfl rfl ?_ ?_) rfl rfl rfl rfl
      · rw [hC.r1205, lr_some hC.k46]
        refine bnd_i ?_
        rw [lr_some hC.k46]
        refine bnd_i ?_
        rw [hB.1]
      · obtain ⟨-, i6⟩ := hI
        refine ⟨hR.1.1.2.2.1.sh.to rfl rfl rfl rfl, i6.1, i6.2.1, i6.2.2.1, i6.2.2.2.1, ?_, i6.2.2.2.2.2⟩
        rw [gI_sI, if_pos ⟨rfl, rfl⟩]
        have z1 := i32_le.mp c1
        have z2 := i32_le.mp c2
        have e1 : (0 : Int32).toInt = 0 := by decide
        have e2 : (999 : Int32).toInt = 999 := by decide
        exact ⟨by omega, by omega⟩
      · refine ⟨?_, fun b hb => ?_⟩
        · rw [gI_sI, if_pos ⟨rfl, rfl⟩, gI_sI, if_pos ⟨rfl, rfl⟩]
        · have := hB.2 b hb
          rw [gI_nf (by omega), gI_nf (by omega), gI_nf (by omega)]
          exact this
    · simp only [c1, c2, if_true, if_false]
      exact opr_map id (opr_refuse h rf6 (by omega) (by omega)) (fun _ _ => rfl) (fun _ _ => rfl)
  · simp only [c1, if_false]
    exact opr_map id (opr_refuse h rf4 (by omega) (by omega)) (fun _ _ => rfl) (fun _ _ => rfl)
