theorem own_bt {ba mo wk : Nat → Int32} {t c : Int32} {i : Nat} (h1 : bt (ba i) 0 9999) (h2 : bt (mo i) 0 999) (hc : bt c (-100) 55) : 0 ≤ (ownN ba mo wk t c i).toInt ∧ (ownN ba mo wk t c i).toInt ≤ 64944 := by
  have k1 := h1.1
  have k2 := h1.2
  have k3 := h2.1
  have k4 := h2.2
  have hb : bt (if (0 : Int32) ≤ c then c else 0) 0 55 := by
    by_cases z2 : (0 : Int32) ≤ c
    · rw [if_pos z2]
      have z2 := i32_le.mp z2
      have z0 : (0 : Int32).toInt = 0 := by decide
      have := hc.2
      exact ⟨by omega, by omega⟩
    · rw [if_neg z2]
      decide
  unfold ownN
  generalize (if (0 : Int32) ≤ c then c else 0) = d at hb ⊢
  have k7 := hb.1
  have k8 := hb.2
  have m1 := Int.mul_nonneg k3 k7
  have m2 : (mo i).toInt * d.toInt ≤ 999 * 55 := Int.mul_le_mul k4 k8 k7 (by omega)
  have q1 : ((mo i).toInt64 * d.toInt64).toInt = (mo i).toInt * d.toInt := by rw [i64_mul (by rw [Int32.toInt_toInt64, Int32.toInt_toInt64]; omega) (by rw [Int32.toInt_toInt64, Int32.toInt_toInt64]; omega), Int32.toInt_toInt64, Int32.toInt_toInt64]
  have e1 : ((ba i).toInt64 + (mo i).toInt64 * d.toInt64).toInt = (ba i).toInt + (mo i).toInt * d.toInt := by rw [i64_add (by rw [q1, Int32.toInt_toInt64]; omega) (by rw [q1, Int32.toInt_toInt64]; omega), q1, Int32.toInt_toInt64]
  have e2 : (2 : Int64).toInt = 2 := by decide
  by_cases c1 : ((wk i >>> ((t - t / (24 : Int32) * (24 : Int32)) &&& 31)) &&& (1 : Int32)) = (1 : Int32)
  · rw [if_pos c1, e1]
    omega
  · rw [if_neg c1, i64_div (by rw [e2]; omega), e1, e2]
    obtain ⟨d1, d2, d3⟩ := tdiv_nn (x := (ba i).toInt + (mo i).toInt * d.toInt) (y := 2) (by omega) (by omega)
    omega
theorem needS_bt {ba mo wk jn : Nat → Int32} {t day c : Int32} (hc : bt c (-100) 55) : ∀ n : Nat, n ≤ 20 → (∀ i, i < n → bt (ba i) 0 9999 ∧ bt (mo i) 0 999) → 0 ≤ (needS ba mo wk jn t day c n).toInt ∧ (needS ba mo wk jn t day c n).toInt ≤ 64944 * n := by
  intro n
  induction n with
  | zero =>
    intro _ _
    show 0 ≤ (0 : Int64).toInt ∧ (0 : Int64).toInt ≤ _
    have : (0 : Int64).toInt = 0 := by decide
    omega
  | succ n ih =>
    intro hn hh
    obtain ⟨i1, i2⟩ := ih (by omega) (fun i hi => hh i (by omega))
    rw [needS_succ]
    obtain ⟨b1, b2⟩ := hh n (by omega)
    obtain ⟨o1, o2⟩ := own_bt (wk := wk) (t := t) b1 b2 hc
    by_cases c1 : jnd jn day n = true
    · rw [if_pos c1, i64_add (by omega) (by omega)]
      omega
    · rw [if_neg c1]
      omega
theorem need_bt {o : Nat} {M : Mem} (hI : MI o M) (hr : Nat) : 0 ≤ (needW M o hr).toInt ∧ (needW M o hr).toInt ≤ 2000000 := by
  have h20 := hI.nh20
  have hcd := hI.cd (i := hr / 24 % 12) (by omega)
  have c1 := hcd.1
  have c2 := hcd.2
  have ec : ((15 : Int32) - gA M (o + 18) (hr / 24 % 12)).toInt = 15 - (gA M (o + 18) (hr / 24 % 12)).toInt := by rw [i32_sub (by rw [t15]; omega) (by rw [t15]; omega), t15]
  obtain ⟨b1, b2⟩ := needS_bt (ba := gA M (o + 14)) (mo := gA M (o + 15)) (wk := gA M (o + 16)) (jn := gA M (o + 17)) (t := Int32.ofNat hr) (day := Int32.ofNat (hr / 24)) (c := (15 : Int32) - gA M (o + 18) (hr / 24 % 12)) ⟨by omega, by omega⟩ (nhW M o) h20 (fun i hi => hI.ho hi)
  unfold needW needAt
  omega
