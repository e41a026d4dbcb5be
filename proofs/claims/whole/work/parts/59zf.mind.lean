theorem HR.wm {x p o : Nat} {M W W1 : Mem} {ha ua ba : Nat → Nat} {ra : Nat → Nat → Nat} {dI dA dB : Nat → Prop} (h : HR x p o M W ha ua ba ra) (hW : WM o W W1 dI dA dB) (k1 : ∀ f, f = 1302 ∨ f = 1312 ∨ f = 1316 ∨ f = 1322 ∨ f = 1329 → ¬ dI f) (k2 : ∀ j, 2 ≤ j → j ≤ 27 → ¬ j = 23 → ¬ dA j) : HR x p o M W1 ha ua ba ra := by
  obtain ⟨a1, a2, a3, a4, a5, a6, a7, a8, a9⟩ := h
  refine ⟨a1, a2, hW.mi a3 k1 (fun j z1 z2 _ z4 => k2 j z1 z2 z4), a4.wm hW (k1 _ (by omega)) (fun j z1 z2 => k2 j (by omega) (by omega) (by omega)), a5.wm hW (fun j z => k2 j (by omega) (by omega) (by omega)), a6.wm hW (k1 _ (by omega)) (fun j z => k2 j (by omega) (by omega) (by omega)), a7.wm hW (k1 _ (by omega)) (fun j z1 z2 => k2 j (by omega) (by omega) (by omega)), a8.wm hW (k1 _ (by omega)) (fun j z1 z2 => k2 j (by omega) (by omega) (by omega)), a9.wm hW (k1 _ (by omega)) (k1 _ (by omega)) (fun j z1 z2 => k2 j (by omega) (by omega) (by omega))⟩
theorem MR.wm {x o hr : Nat} {M W W1 : Mem} {ha ua ba ma : Nat → Nat} {ra rb : Nat → Nat → Nat} {h g t : Nat → Int64} {dI dA dB : Nat → Prop} (k : MR x o M W ha ua ba ma ra rb hr h g t) (hW : WM o W W1 dI dA dB) (k1 : ∀ f, f = 1302 ∨ f = 1312 ∨ f = 1316 ∨ f = 1322 ∨ f = 1329 → ¬ dI f) (k2 : ∀ j, 2 ≤ j → j ≤ 27 → ¬ j = 23 → ¬ dA j) : MR x o M W1 ha ua ba ma ra rb hr h g t := by
  obtain ⟨a1, a2, a3, a4, a5⟩ := k
  exact ⟨a1.wm hW k1 k2, a2.wm hW (k1 _ (by omega)) (fun j z1 z2 => k2 j (by omega) (by omega) (by omega)), a3.wm hW (k1 _ (by omega)) (fun j z1 z2 => k2 j (by omega) (by omega) (by omega)), a4.wm hW (k1 _ (by omega)) (k2 4 (by omega) (by omega) (by omega)), a5.wm hW (k1 _ (by omega))⟩
/-- what was only thought changes nothing -/
theorem r_mind {x o : Nat} {M M1 W W1 : Mem} {ha ua ba ma ea : Nat → Nat} {ra rb : Nat → Nat → Nat} {tg : Nat → Nat} {hr : Nat} (hR : REL x o M W ha ua ba ma ea ra rb tg hr) (hF : FRM x (x + 49) (nbW W o) (rgW W o) ma rb M M1) (hB : BK o W W1) : REL x o M1 W1 ha ua ba ma ea ra rb tg hr := by
  obtain ⟨⟨w1, w2, w3, w4, w5, w6, w7, w8, w9, wa, wb⟩, b1, b2, b3, b4, b5⟩ := hB
  have hW : WM o W W1 (fun f => f = 1355) (fun j => j = 42) (fun j => 32 ≤ j) := by
    refine ⟨w1, w2, w3, w4, w5, w6, w7, w8, fun f z => ?_, fun j z => ?_, fun j z => ?_⟩
    · by_cases c : f = 1301
      · rw [c, b1]
      · exact w9 f o c z
    · by_cases c : j = 10
      · rw [c, b2]
      · exact wa _ (by omega) (by omega)
    · by_cases c1 : j = 11
      · rw [c1, b3]
      · by_cases c2 : j = 12
        · rw [c2, b4]
        · by_cases c3 : j = 13
          · rw [c3, b5]
          · exact wb _ (by omega) (by omega) (by omega) (by omega)
  have hMR := hR.1.frm hF
  obtain ⟨h1, h2, h3, h4, h5, h6, h7, h8, h9, hj, -, -, -, -, hb⟩ := hF
  refine upd_mind hR ⟨by omega, h8, fun a _ => ⟨by rw [h1], by rw [h2], fun f z => ?_, fun f z => ?_, fun _ _ => by rw [h3], fun _ => by rw [h4], fun z => hb a (by omega) (by omega) (by omega), fun _ => by rw [h5]⟩⟩ hW h1 h6 ?_
  · exact h9 f a (fun k => z (Or.inr (Or.inl ⟨by omega, by omega, k.2⟩))) (fun k => z (Or.inr (Or.inr k))) (fun k => z (Or.inl k))
  · rw [hj f (by omega) (by omega) (by omega) (by omega) (by omega)]
  · rw [b3, b4, b5]
    exact hMR.wm hW (by intro f z1 z2; omega) (by intro j z1 z2 z3 z4; omega)
theorem opr_mind {ρ : Type} {x o : Nat} {M M1 W W1 : Mem} {rc rm : Option (Mem × ρ)} {r : ρ} {ha ua ba ma ea : Nat → Nat} {ra rb : Nat → Nat → Nat} {tg : Nat → Nat} {hr : Nat} (hR : REL x o M W ha ua ba ma ea ra rb tg hr) (hF : FRM x (x + 49) (nbW W o) (rgW W o) ma rb M M1) (hB : BK o W W1) (h1 : rc = some (M1, r)) (h2 : rm = some (W1, r)) : OPR x o M W rc rm := opr_of h1 h2 (r_mind hR hF hB) hF.2.2.2.2.2.1 hF.2.2.2.2.2.2.1 hB.1.2.2.2.2.2.1 hB.1.2.2.2.2.2.2.1
theorem wS_lt {o : Nat} {W : Mem} (hI : MI o W) (h : Nat → Int64) {b : Nat} (hb : b < nbW W o) : (wS W o h b 0).toInt < 4000000000000000000 := by
  have h1 := hI.rg1 hb
  obtain ⟨g1, g2⟩ := hI.hd hb (k := 0) (by omega)
  unfold hdI at g1 g2
  have hx : (h (8 * b + 0)).toInt < 9223372036854775808 := Int64.toInt_lt _
  unfold wS warmS
  rw [i64_div (by omega)]
  generalize (h (8 * b + 0)).toInt = u at hx ⊢
  generalize (holdS (gA W (o + 5)) (gA W (o + 6)) b 0).toInt64.toInt = v at g1 g2 ⊢
  by_cases c : 0 ≤ u
  · obtain ⟨d1, d2, d3⟩ := tdiv_nn (x := u) (y := v) c (by omega)
    have m := Int.mul_le_mul_of_nonneg_right g1 d1
    have e : u.tdiv v * v = v * u.tdiv v := Int.mul_comm _ _
    omega
  · have := tdiv_np (x := u) (y := v) (by omega) (by omega)
    omega
