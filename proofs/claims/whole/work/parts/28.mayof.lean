/-- the letters of a bore in an hour -/
def nmS (M : Mem) (o hr : Nat) (h : Nat → Int64) (b : Nat) : Nat → Int64 := fun k =>
  if k = 0 then (Int32.ofNat (hr % 24)).toInt64 else if k = 1 then (Int32.ofNat (hr / 24)).toInt64 else if k = 2 then (gA M (o + 21) (hr % 24)).toInt64 else if k = 3 then (gA M (o + 18) (hr / 24 % 12)).toInt64 else if k = 4 then needAt (gA M (o + 14)) (gA M (o + 15)) (gA M (o + 16)) (gA M (o + 17)) (gA M (o + 18)) (nhW M o) hr else if k = 5 then warmS (gA M (o + 5)) (gA M (o + 6)) h b 0 / 1000 else if k = 6 then warmS (gA M (o + 5)) (gA M (o + 6)) h b (rgW M o b - 1) / 1000 else if k = 7 then (Int32.ofNat b).toInt64 else (gA M (o + 7) b).toInt64
/-- what a rule in force is worth to a bore -/
def mayS (M : Mem) (o hr : Nat) (h : Nat → Int64) (p : Int32) (b : Nat) : Int64 :=
  match bestS (gA M (o + 24)) (gA M (o + 25)) p (Int32.ofNat (hr / 24)) (nrW M o) with
  | none => 0
  | some r => cutS (wkS (gA M (o + 27)) (fun k => clampS (nmS M o hr h b k)) r (szW M o r)) 0 99999
theorem m_clamp_loop {o : Nat} {M : Mem} (hS : MSh o M) (h g t : Nat → Int64) (x4 : Int32) (kk : Mem → Nat → Int32 → Option (Mem × Int64)) : ∀ (r i f : Nat) (q : Nat → Nat → Int64), i + r = 9 → r < f →
    ∃ q1, F_X12_mayOf_p238 kk f (HM o M h g t q) o x4 (Int32.ofNat i) = kk (HM o M h g t q1) o x4 ∧ (∀ a, a ≠ o + 32 → q1 a = q a) ∧ ∀ j, q1 (o + 32) j = if i ≤ j ∧ j < 9 then clampS (q (o + 32) j) else q (o + 32) j := by
  intro r
  induction r with
  | zero =>
    intro i f q hi hf
    obtain ⟨f, rfl⟩ : ∃ z, f = z + 1 := ⟨f - 1, by omega⟩
    have : i = 9 := by omega
    subst this
    refine ⟨q, ?_, fun a _ => rfl, fun j => (if_neg (by omega)).symm⟩
    unfold F_X12_mayOf_p238
    rw [if_pos (show (9 : Int32) ≤ Int32.ofNat 9 from (ofN_le (n := 9) (by omega) (by omega)).mpr (Nat.le_refl _))]
  | succ r ih =>
    intro i f q hi hf
    obtain ⟨f, rfl⟩ : ∃ z, f = z + 1 := ⟨f - 1, by omega⟩
    have h1 : inb (Int32.ofNat i) 9 := ofN_inb (by omega) (by omega)
    have h2 : ixn (Int32.ofNat i) = i := ofN_ix (by omega)
    have hS1 := mshHM hS h g t q
    obtain ⟨q1, e1, e2, e3⟩ := ih (i + 1) f (up2 q (o + 32) i (clampS (q (o + 32) i))) (by omega) (by omega)
    refine ⟨q1, ?_, fun a ha => ?_, fun j => ?_⟩
    · rw [← e1]
      conv => lhs; unfold F_X12_mayOf_p238
      rw [if_neg (show ¬ (9 : Int32) ≤ Int32.ofNat i from fun k => absurd ((ofN_le (n := 9) (by omega) (by omega)).mp k) (by omega))]
      simp only [hS1.r1344, lr_some hS1.k32, hS1.n32, grd_pos h1, h2, m_clamp, cl_some, bnd, HM_32, sH32, ofN_succ]
    · rw [e2 a ha, up2_n _ ha]
    · rw [e3 j, up2_s]
      unfold ud
      by_cases hj : j = i
      · have a1 : ¬ (i + 1 ≤ j ∧ j < 9) := by omega
        have a2 : i ≤ j ∧ j < 9 := by omega
        rw [if_neg a1, if_pos hj, if_pos a2, hj]
      · simp only [if_neg hj]
        by_cases hc : i + 1 ≤ j ∧ j < 9
        · have a2 : i ≤ j ∧ j < 9 := by omega
          rw [if_pos hc, if_pos a2]
        · have a2 : ¬ (i ≤ j ∧ j < 9) := by omega
          rw [if_neg hc, if_neg a2]
theorem nmS_0 (M : Mem) (o hr : Nat) (h : Nat → Int64) (b : Nat) : nmS M o hr h b 0 = (Int32.ofNat (hr % 24)).toInt64 := rfl
theorem nmS_1 (M : Mem) (o hr : Nat) (h : Nat → Int64) (b : Nat) : nmS M o hr h b 1 = (Int32.ofNat (hr / 24)).toInt64 := rfl
theorem nmS_2 (M : Mem) (o hr : Nat) (h : Nat → Int64) (b : Nat) : nmS M o hr h b 2 = (gA M (o + 21) (hr % 24)).toInt64 := rfl
theorem nmS_3 (M : Mem) (o hr : Nat) (h : Nat → Int64) (b : Nat) : nmS M o hr h b 3 = (gA M (o + 18) (hr / 24 % 12)).toInt64 := rfl
theorem nmS_4 (M : Mem) (o hr : Nat) (h : Nat → Int64) (b : Nat) : nmS M o hr h b 4 = needAt (gA M (o + 14)) (gA M (o + 15)) (gA M (o + 16)) (gA M (o + 17)) (gA M (o + 18)) (nhW M o) hr := rfl
theorem nmS_5 (M : Mem) (o hr : Nat) (h : Nat → Int64) (b : Nat) : nmS M o hr h b 5 = warmS (gA M (o + 5)) (gA M (o + 6)) h b 0 / 1000 := rfl
theorem nmS_6 (M : Mem) (o hr : Nat) (h : Nat → Int64) (b : Nat) : nmS M o hr h b 6 = warmS (gA M (o + 5)) (gA M (o + 6)) h b (rgW M o b - 1) / 1000 := rfl
theorem nmS_7 (M : Mem) (o hr : Nat) (h : Nat → Int64) (b : Nat) : nmS M o hr h b 7 = (Int32.ofNat b).toInt64 := rfl
theorem nmS_8 (M : Mem) (o hr : Nat) (h : Nat → Int64) (b : Nat) : nmS M o hr h b 8 = (gA M (o + 7) b).toInt64 := rfl
theorem hm_need {o hr : Nat} {M : Mem} (hI : MI o M) (hhr : hr ≤ 20000) (h g t : Nat → Int64) (q : Nat → Nat → Int64) : F_X12_needOf (HM o M h g t q) o (Int32.ofNat hr) = some (HM o M h g t q, needAt (gA M (o + 14)) (gA M (o + 15)) (gA M (o + 16)) (gA M (o + 17)) (gA M (o + 18)) (nhW M o) hr) := by
  have e := m_needOf (mshHM hI.sh h g t q) hI.nh hI.nh20 (show hr < 2147483648 by omega)
  rw [e]
  simp only [gA_HM]
theorem hm_warm {o : Nat} {M : Mem} (hI : MI o M) (h g t : Nat → Int64) (q : Nat → Nat → Int64) {b k : Nat} (hb : b < nbW M o) (hk : k < 8) : F_X12_warmthOf (HM o M h g t q) o (Int32.ofNat b) (Int32.ofNat k) = some (HM o M h g t q, warmS (gA M (o + 5)) (gA M (o + 6)) h b k) := by
  have e := m_warmthOf (mshHM hI.sh h g t q) (Nat.lt_of_lt_of_le hb hI.nb8) hk (by rw [gA_HM]; exact hI.hold hb hk)
  rw [e]
  simp only [gA_HM, HM_11]
theorem hm_warm0 {o : Nat} {M : Mem} (hI : MI o M) (h g t : Nat → Int64) (q : Nat → Nat → Int64) {b : Nat} (hb : b < nbW M o) : F_X12_warmthOf (HM o M h g t q) o (Int32.ofNat b) (0 : Int32) = some (HM o M h g t q, warmS (gA M (o + 5)) (gA M (o + 6)) h b 0) := hm_warm (k := 0) hI h g t q hb (by omega)
theorem names_last {o hr : Nat} {M : Mem} (h : Nat → Int64) (q : Nat → Nat → Int64) (b k : Nat) (hk : k < 9) : up2 (up2 (up2 (up2 (up2 (up2 (up2 (up2 (up2 q (o + 32) 0 (nmS M o hr h b 0)) (o + 32) 1 (nmS M o hr h b 1)) (o + 32) 2 (nmS M o hr h b 2)) (o + 32) 3 (nmS M o hr h b 3)) (o + 32) 4 (nmS M o hr h b 4)) (o + 32) 5 (nmS M o hr h b 5)) (o + 32) 6 (nmS M o hr h b 6)) (o + 32) 7 (nmS M o hr h b 7)) (o + 32) 8 (nmS M o hr h b 8) (o + 32) k = nmS M o hr h b k := by
  generalize nmS M o hr h b = z
  simp only [up2_s]
  rcases (show k = 0 ∨ k = 1 ∨ k = 2 ∨ k = 3 ∨ k = 4 ∨ k = 5 ∨ k = 6 ∨ k = 7 ∨ k = 8 by omega) with rfl | rfl | rfl | rfl | rfl | rfl | rfl | rfl | rfl <;> simp [ud]
theorem rgm1 {o : Nat} {M : Mem} (hI : MI o M) {b : Nat} (hb : b < nbW M o) : Int32.ofNat (rgW M o b) - (1 : Int32) = Int32.ofNat (rgW M o b - 1) := by
  have := hI.rg8 hb
  have := hI.rg1 hb
  exact ofN_subk (k := 1) (by omega) (by omega)
theorem m_names {o hr : Nat} {M : Mem} (hI : MI o M) (hh : gI M 1301 o = Int32.ofNat hr) (hhr : hr ≤ 20000) (h g t : Nat → Int64) (q : Nat → Nat → Int64) {b : Nat} (hb : b < nbW M o) (x4 : Int32) (hx : 0 ≤ x4) :
    ∃ q1, F_X12_mayOf_p94 (HM o M h g t q) o (Int32.ofNat b) (Int32.ofNat (hr / 24)) x4 = F_X12_mayOf_p274 (HM o M h g t q1) o x4 ∧ (∀ a, a ≠ o + 32 → q1 a = q a) ∧ ∀ k, k < 9 → q1 (o + 32) k = clampS (nmS M o hr h b k) := by
  have hS := hI.sh
  have hb8 : b < 8 := Nat.lt_of_lt_of_le hb hI.nb8
  have hr8 := hI.rg8 hb
  have hr1 := hI.rg1 hb
  have i1 : inb (Int32.ofNat (hr % 24)) 24 := ofN_inb (by omega) (by omega)
  have i2 : ixn (Int32.ofNat (hr % 24)) = hr % 24 := ofN_ix (by omega)
  have i3 : inb (Int32.ofNat (hr / 24 % 12)) 12 := ofN_inb (by omega) (by omega)
  have i4 : ixn (Int32.ofNat (hr / 24 % 12)) = hr / 24 % 12 := ofN_ix (by omega)
  have i5 : inb (Int32.ofNat b) 8 := ofN_inb (by omega) hb8
  have i6 : ixn (Int32.ofNat b) = b := ofN_ix (by omega)
  have c0 : inb (0 : Int32) 9 := by decide
  have c1 : inb (1 : Int32) 9 := by decide
  have c2 : inb (2 : Int32) 9 := by decide
  have c3 : inb (3 : Int32) 9 := by decide
  have c4 : inb (4 : Int32) 9 := by decide
  have c5 : inb (5 : Int32) 9 := by decide
  have c6 : inb (6 : Int32) 9 := by decide
  have c7 : inb (7 : Int32) 9 := by decide
  have c8 : inb (8 : Int32) 9 := by decide
  have d0 : ixn (0 : Int32) = 0 := by decide
  have d1 : ixn (1 : Int32) = 1 := by decide
  have d2 : ixn (2 : Int32) = 2 := by decide
  have d3 : ixn (3 : Int32) = 3 := by decide
  have d4 : ixn (4 : Int32) = 4 := by decide
  have d5 : ixn (5 : Int32) = 5 := by decide
  have d6 : ixn (6 : Int32) = 6 := by decide
  have d7 : ixn (7 : Int32) = 7 := by decide
  have d8 : ixn (8 : Int32) = 8 := by decide
  have hl := rgm1 hI hb
  have hn0 := hm_need hI hhr h g t
  have hw0 := fun q1 => hm_warm0 hI h g t q1 hb
  have hw1 := fun q1 => hm_warm hI h g t q1 hb (show rgW M o b - 1 < 8 by omega)
  obtain ⟨q1, e1, e2, e3⟩ := m_clamp_loop hS h g t x4 F_X12_mayOf_p274 9 0 FU (up2 (up2 (up2 (up2 (up2 (up2 (up2 (up2 (up2 q (o + 32) 0 (nmS M o hr h b 0)) (o + 32) 1 (nmS M o hr h b 1)) (o + 32) 2 (nmS M o hr h b 2)) (o + 32) 3 (nmS M o hr h b 3)) (o + 32) 4 (nmS M o hr h b 4)) (o + 32) 5 (nmS M o hr h b 5)) (o + 32) 6 (nmS M o hr h b 6)) (o + 32) 7 (nmS M o hr h b 7)) (o + 32) 8 (nmS M o hr h b 8)) (by omega) (by unfold FU; omega)
  refine ⟨q1, ?_, fun a ha => ?_, fun k hk => ?_⟩
  · rw [← e1]
    unfold F_X12_mayOf_p94
    rw [if_pos hx]
    simp only [gR_HM, gK_HM, gN_HM, gA_HM, gI_HM, hS.r1344, hS.r1325, hS.r1321, hS.r1305, hS.r1308, lr_some hS.k32, lr_some hS.k21, lr_some hS.k18, lr_some hS.k4, lr_some hS.k7, hS.n32, hS.n21, hS.n18, hS.n4, hS.n7, hh, m24 (show hr < 2147483648 by omega), m12 (show hr / 24 < 2147483648 by omega), grd_pos i1, i2, grd_pos i3, i4, grd_pos i5, i6, grd_pos c0, grd_pos c1, grd_pos c2, grd_pos c3, grd_pos c4, grd_pos c5, grd_pos c6, grd_pos c7, grd_pos c8, d0, d1, d2, d3, d4, d5, d6, d7, d8, hI.rg hb, hl, hn0, hw0, hw1, cl_some, bnd, sH32, nmS_0, nmS_1, nmS_2, nmS_3, nmS_4, nmS_5, nmS_6, nmS_7, nmS_8]
    rfl
  · rw [e2 a ha]
    simp only [up2_n _ ha]
  · rw [e3 k, if_pos (by omega)]
    rw [names_last h q b k hk]
theorem m_mayOf {o hr : Nat} {M : Mem} (hI : MI o M) (hh : gI M 1301 o = Int32.ofNat hr) (hhr : hr ≤ 20000) (h g t : Nat → Int64) (q : Nat → Nat → Int64) {b : Nat} (hb : b < nbW M o) (p : Int32) :
    ∃ q1, F_X12_mayOf (HM o M h g t q) o (Int32.ofNat b) p = some (HM o M h g t q1, mayS M o hr h p b) ∧ ∀ a, a ≠ o + 32 → a ≠ o + 33 → q1 a = q a := by
  have hS := hI.sh
  have hd : Int32.ofNat hr / (24 : Int32) = Int32.ofNat (hr / 24) := d24 (by omega)
  have hl := m_best_loop (mshHM hS h g t q) hI.nr hI.nr30 F_X12_mayOf_p94 (Int32.ofNat b) p (Int32.ofNat (hr / 24)) (nrW M o) 0 FU (by omega) (by have := hI.nr30; unfold FU; omega)
  have e0 : F_X12_mayOf (HM o M h g t q) o (Int32.ofNat b) p = F_X12_mayOf_p94 (HM o M h g t q) o (Int32.ofNat b) (Int32.ofNat (hr / 24)) (enc (bestS (gA M (o + 24)) (gA M (o + 25)) p (Int32.ofNat (hr / 24)) (nrW M o))) := by
    unfold F_X12_mayOf
    simp only [bnd, gI_HM, hh, hd]
    exact hl
  rw [e0]
  unfold mayS
  cases hbs : bestS (gA M (o + 24)) (gA M (o + 25)) p (Int32.ofNat (hr / 24)) (nrW M o) with
  | none =>
    refine ⟨q, ?_, fun _ _ _ => rfl⟩
    unfold F_X12_mayOf_p94
    rw [if_neg (show ¬ (0 : Int32) ≤ enc none by decide)]
  | some r =>
    have hrl := bestS_lt hbs
    have hr30 := hI.nr30
    obtain ⟨z1, z2, z3⟩ := hI.ru hrl
    obtain ⟨q1, e1, e2, e3⟩ := m_names hI hh hhr h g t q hb (enc (some r)) (by
      show (0 : Int32) ≤ Int32.ofNat r
      rw [Int32.le_iff_toInt_le, ofN_toInt (by omega)]
      simp)
    rw [e1]
    obtain ⟨s, e4⟩ := m_worth (r := r) (sz := szW M o r) (mshHM hS h g t q1) (by omega) z2 z1 z3
    refine ⟨ud q1 (o + 33) s, ?_, fun a h1 h2 => (ud_n _ h2 _).trans (e2 a h1)⟩
    unfold F_X12_mayOf_p274
    have e4 : F_X12_worth (HM o M h g t q1) o (enc (some r)) = _ := e4
    rw [e4, wB_HM, HM_32]
    simp only [cl_some, m_cut]
    have e5 : wkS (gA (HM o M h g t q1) (o + 27)) (q1 (o + 32)) r (szW M o r) = wkS (gA M (o + 27)) (fun k => clampS (nmS M o hr h b k)) r (szW M o r) := by
      unfold wkS
      exact runC_ind e3 _ _ _ _ _ z3 (fun _ _ => rfl)
    rw [e5]
