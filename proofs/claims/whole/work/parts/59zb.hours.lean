theorem HBd.wm {o hr : Nat} {W W1 : Mem} {dI dA dB : Nat → Prop} {f : Nat → Int64} (k : HBd W o hr f) (h : WM o W W1 dI dA dB) (k1 : ¬ dI 1302) (k2 : ∀ j, 4 ≤ j → j ≤ 6 → ¬ dA j) : HBd W1 o hr f := by
  unfold HBd hdI at *
  rw [h.nb k1, h.rg (k2 4 (by omega) (by omega)), h.a (k2 5 (by omega) (by omega)), h.a (k2 6 (by omega) (by omega))]
  exact k
/-- an hour passes in both alike -/
theorem r_hour {x o : Nat} {M W : Mem} {ha ua ba ma ea : Nat → Nat} {ra rb : Nat → Nat → Nat} {tg : Nat → Nat} {hr : Nat} (hR : REL x o M W ha ua ba ma ea ra rb tg hr) (h8 : hr + 1 ≤ 8000) : ∃ M1 W1, F_X1_pass M (x + 46) = some (M1, ()) ∧ F_X12_goes W o = some (W1, ()) ∧ REL x o M1 W1 ha ua ba ma ea ra rb tg (hr + 1) ∧ gH M1 = gH M ∧ gS M1 = gS M ∧ gH W1 = gH W ∧ gS W1 = gS W := by
  obtain ⟨⟨hHR, hDR, hBm, hDJ, hDB⟩, ⟨⟨e1, e1'⟩, e2, e3, e4, e5, e6, e7, e8, e9⟩, -⟩ := id hR
  have hI := hR.mi
  obtain ⟨M1, p1, p2, p3, p4, p5, p6⟩ := c_pass1 hHR hDR (by omega) e2
  obtain ⟨W1, q1, q2, q3, q4, q5, q6⟩ := m_goes1 hI (hr := hr) (W := W) ⟨e1, rfl, rfl, rfl⟩ (by omega)
  obtain ⟨w1, w2, w3, w4, w5, w6, w7, w8, -⟩ := id q3
  obtain ⟨d1, d2, d3, d4⟩ := q2
  have hW : WM o W W1 (fun f => f = 1301) (fun _ => False) (fun j => j = 11 ∨ j = 12 ∨ j = 13 ∨ 32 ≤ j) := ⟨w1, w2, w3, w4, w5, w6, w7, w8, fun f z => q5 f o z, fun j _ => by rw [q4], fun j z => q6 _ (by omega) (by omega) (by omega) (by omega)⟩
  have hF0 := p4
  obtain ⟨f1, f2, f3, f4, f5, f6, f7, f8, -, -, -, -, -, -, f9⟩ := p4
  have hF : FM M M1 (fun f a => f = 206 ∧ a = x + 46) (fun f _ => f = 502 ∨ f = 503 ∨ f = 504 ∨ f = 110) (fun _ _ => False) (fun _ => False) (fun a => a = x + 11 ∨ a = x + 12 ∨ a = x + 48) (fun _ => False) := ⟨by omega, f8, fun a _ => ⟨by rw [f1], by rw [f2], fun f z => p5 f a z, fun f z => by rw [p6 f (by omega) (by omega) (by omega) (by omega)], fun _ _ => by rw [f3], fun _ => by rw [f4], fun z => f9 a (by omega) (by omega) (by omega), fun _ => by rw [f5]⟩⟩
  obtain ⟨a1, a2, a3, a4, a5, a6, a7, a8, a9⟩ := p2
  refine ⟨M1, W1, p1, q1, upd_hour hR hF hW f1 f6 ⟨⟨a1, a2, hW.mi hI (by intros; omega) (by intros; intro z; exact z), a4.wm hW (by omega) (by intros; intro z; exact z), a5.wm hW (by intros; intro z; exact z), a6.wm hW (by omega) (by intros; intro z; exact z), a7.wm hW (by omega) (by intros; intro z; exact z), a8.wm hW (by omega) (by intros; intro z; exact z), a9.wm hW (by omega) (by omega) (by intros; intro z; exact z)⟩, ?_, (hF0.bos hBm).wm hW (by omega) (by intros; intro z; exact z), hDJ.wm hW (by omega) (fun z => z), hDB.wm hW (by omega)⟩ ⟨d1, h8⟩ ?_ ?_ (fun b hb1 hb2 => ?_), f6, f7, w6, w7⟩
  · rw [d2, d3, d4]
    exact p3.wm hW (by omega) (by intros; intro z; exact z)
  · unfold E2
    rw [d2]
    exact (hourS_bt hI (by omega) e2 _ _).wm hW (by omega) (by intros; intro z; exact z)
  · unfold E3 at *
    rw [d4]
    obtain ⟨g1, g2, g3⟩ := hour5 hI hr (gB W (o + 11)) (gB W (o + 12)) (gB W (o + 13))
    rw [g1, i64_add (by omega) (by omega)]
    omega
  · have hn : nbW W1 o = nbW W o := hW.nb (by omega)
    rw [hn] at hb1
    rw [q4, d3, (hourS_hi hI hr _ _ _).2.1 b hb1]
    exact e9 b hb1 hb2
theorem c_hours_loop {x o : Nat} {n : Nat} : ∀ d k fu hr M W ha ua ba ma ea ra rb tg, REL x o M W ha ua ba ma ea ra rb tg hr → k + d = n → n ≤ 8000 → hr + d ≤ 8000 → ∃ M1 W1, F_X11_hours_p29 F_X11_hours_p47 (fu + d + 1) M x (Int32.ofNat n) (Int32.ofNat k) = some (M1, Int32.ofNat (hr + d)) ∧ F_X12_hours_p33 F_X12_hours_p48 (fu + d + 1) W o (Int32.ofNat n) (Int32.ofNat k) = some (W1, Int32.ofNat (hr + d)) ∧ REL x o M1 W1 ha ua ba ma ea ra rb tg (hr + d) ∧ gH M1 = gH M ∧ gS M1 = gS M ∧ gH W1 = gH W ∧ gS W1 = gS W := by
  intro d
  induction d with
  | zero =>
    intro k fu hr M W ha ua ba ma ea ra rb tg hR hk _ _
    have : k = n := by omega
    subst this
    refine ⟨M, W, ?_, ?_, hR, rfl, rfl, rfl, rfl⟩
    · unfold F_X11_hours_p29 F_X11_hours_p47
      rw [if_pos (Int32.le_refl _), hR.csh.r1205, lr_some hR.csh.k46, hR.dr.1]
      rfl
    · unfold F_X12_hours_p33 F_X12_hours_p48
      rw [if_pos (Int32.le_refl _), hR.2.1.1.1]
      rfl
  | succ d ih =>
    intro k fu hr M W ha ua ba ma ea ra rb tg hR hk hn hh
    obtain ⟨M1, W1, p1, p2, p3, p4, p5, p6, p7⟩ := r_hour hR (by omega)
    obtain ⟨M2, W2, q1, q2, q3, q4, q5, q6, q7⟩ := ih (k + 1) fu (hr + 1) M1 W1 ha ua ba ma ea ra rb tg p3 (by omega) hn (by omega)
    have c1 : ¬ Int32.ofNat n ≤ Int32.ofNat k := fun z => by
      have := (ofN_le (by omega) (by omega)).mp z
      omega
    rw [show hr + 1 + d = hr + (d + 1) by omega] at q1 q2 q3
    refine ⟨M2, W2, ?_, ?_, q3, by omega, by omega, by omega, by omega⟩
    · unfold F_X11_hours_p29
      rw [if_neg c1, hR.csh.r1205, lr_some hR.csh.k46, p1, cl_some, show Int32.ofNat k + 1 = Int32.ofNat (k + 1) from ofN_succ]
      exact bnd_i q1
    · unfold F_X12_hours_p33
      rw [if_neg c1, p2, cl_some, show Int32.ofNat k + 1 = Int32.ofNat (k + 1) from ofN_succ]
      exact bnd_i q2
theorem op_hours {x o : Nat} {M W : Mem} (h : Rel x o M W) (a : Int32) : OPR x o M W (F_X11_hours M x a) (F_X12_hours W o a) := by
  obtain ⟨ha, ua, ba, ma, ea, ra, rb, tg, hr, hR⟩ := id h
  have hC := hR.csh
  have h8 := hR.2.1.1.2
  have z1 : (1 : Int32).toInt = 1 := by decide
  unfold F_X11_hours F_X12_hours
  rw [hC.r1205, lr_some hC.k46, hR.dr.1, hR.2.1.1.1, show (8000 : Int32) - Int32.ofNat hr = Int32.ofNat (8000 - hr) from ofN_subk (show 8000 < 2147483648 by omega) h8, c_beyond, cl_some]
  dsimp only
  by_cases c1 : (1 : Int32) ≤ a
  · rw [if_pos c1, if_pos c1]
    by_cases c2 : a ≤ Int32.ofNat (8000 - hr)
    · rw [if_pos c2, if_pos rfl, if_pos c2]
      have c1 := i32_le.mp c1
      have c2 := i32_le.mp c2
      rw [ofN_toInt (by omega)] at c2
      obtain ⟨n, hn, rfl⟩ := isB_of (n := 8001) (b := a) ⟨by omega, by omega⟩
      rw [ofN_toInt (by omega)] at c2
      obtain ⟨M1, W1, q1, q2, q3, q4, q5, q6, q7⟩ := c_hours_loop (n := n) n 0 (FU - (n + 1)) hr M W ha ua ba ma ea ra rb tg hR (by omega) (by omega) (by omega)
      rw [show FU - (n + 1) + n + 1 = FU by unfold FU; omega] at q1 q2
      exact opr_of q1 q2 q3 q4 q5 q6 q7
    · rw [if_neg c2, if_neg neg6_nz, if_neg c2]
      exact opr_map id (opr_refuse h rf6 (by omega) (by omega)) (fun _ _ => rfl) (fun _ _ => rfl)
  · rw [if_neg c1, if_neg neg4_nz, if_neg c1]
    exact opr_map id (opr_refuse h rf4 (by omega) (by omega)) (fun _ _ => rfl) (fun _ _ => rfl)
