/-- what adding to the list l may change -/
def FA (M M1 : Mem) (tg : Nat → Nat) (l : Nat) : Prop := FM M M1 (fun f a => (f = 0 ∨ f = 2) ∧ a = l) (fun _ _ => False) (fun f a => f = 1 ∧ a = l) (fun _ => False) (fun _ => False) (fun a => tg a = l ∧ gK M a = 23)
/-- one more in a list -/
theorem c_add {M : Mem} {tg : Nat → Nat} {l n v : Nat} {f : Nat → Nat} (hK : KH M) (hE : gE M < gH M) (hL : LiS M l n f) (hT : TG M tg l n) (hn : n ≤ 30) (hfk : ∀ i, i < n → 1 ≤ gK M (f i) ∧ gK M (f i) ≤ 14) (hv : 1 ≤ gK M v ∧ gK M v ≤ 14) : ∃ M1, F_Jx4a65c_add_9ea2d M l v = some (M1, 1) ∧ LiS M1 l (n + 1) (fun i => if i = n then v else f i) ∧ KH M1 ∧ TG M1 (up1 tg (gH M) l) l (n + 1) ∧ FA M M1 tg l ∧ gH M ≤ gH M1 ∧ gH M1 ≤ gH M + 1 ∧ gS M ≤ gS M1 ∧ gS M1 ≤ gS M + 80 := by
  obtain ⟨k1, k2, k3, el, k4, k5⟩ := id hL
  obtain ⟨el', t1, t2, t3⟩ := id hT
  rw [k4] at t1
  obtain rfl := Option.some.inj t1
  have hlH : l < gH M := FM.lt hK k1 (by omega)
  have hvH : v < gH M := hK.1 v (by omega)
  have hv0 : ¬ v = gH M := by omega
  -- the first step
  generalize hM0 : sI M 0 l (gI M 0 l + 1) = M0
  have z2 : gI M0 2 l = Int32.ofNat n := by
    rw [← hM0, gI_nf (by omega)]
    exact k2
  have zR : gR M0 = gR M := by rw [← hM0]; rfl
  have zK : gK M0 = gK M := by rw [← hM0]; rfl
  have zN : gN M0 = gN M := by rw [← hM0]; rfl
  have zO : gO M0 = gO M := by rw [← hM0]; rfl
  have zA : gA M0 = gA M := by rw [← hM0]; rfl
  have zB : gB M0 = gB M := by rw [← hM0]; rfl
  have zJ : gJ M0 = gJ M := by rw [← hM0]; rfl
  have zH : gH M0 = gH M := by rw [← hM0]; rfl
  have zS : gS M0 = gS M := by rw [← hM0]; rfl
  have zE : gE M0 = gE M := by rw [← hM0]; rfl
  have zI : ∀ f a, ¬ ((f = 0 ∨ f = 2) ∧ a = l) → gI M0 f a = gI M f a := by
    intro f a z
    rw [← hM0, gI_sI, if_neg (fun k => z ⟨Or.inl k.1, k.2⟩)]
  have top : ∀ r, cl (F_Jx4a65c_add_72be8 M0 l v el (Int32.ofNat n)) (fun M3 _ => grd ((1 : Int32) = 0 ∨ (1 : Int32) = 1) (some (M3, (1 : Int32)))) = r → F_Jx4a65c_add_9ea2d M l v = r := by
    intro r hr
    unfold F_Jx4a65c_add_9ea2d
    rw [hM0]
    show nn (gR M0 1 l) _ = _
    rw [zR, k4, nn_sm, z2]
    exact hr
  have gone : (grd ((1 : Int32) = 0 ∨ (1 : Int32) = 1) (some (M, (1 : Int32)))) = some (M, (1 : Int32)) := grd_pos (Or.inr rfl)
  by_cases c0 : n = 0 ∨ gN M el = n
  · -- a new row
    have hgrow : ∃ c, n < c ∧ c ≤ 2 * n + 10 ∧ F_Jx4a65c_grow_d5877 M0 l = some (GW M0 l c el n, some (gH M)) := by
      by_cases c1 : n = 0
      · subst c1
        have e := c_grow0 (M := M0) (l := l) z2 (by rw [zR, zE, k4, t3 rfl])
        refine ⟨10, by omega, by omega, ?_⟩
        rw [e, zH]
        have eo : gO (sR (nA M0 23 10) 1 l (some (gH M))) = gO (GW M0 l 10 el 0) := by
          funext a i
          show gO (nA M0 23 10) a i = (if a = gH M0 ∧ i < 0 then gO (nA M0 23 10) el i else gO (nA M0 23 10) a i)
          rw [if_neg (fun k => by omega)]
        rw [show sR (nA M0 23 10) 1 l (some (gH M)) = GW M0 l 10 el 0 from (congrArg (fun q => mk (gK (GW M0 l 10 el 0)) (gN (GW M0 l 10 el 0)) (gI M0) (gJ M0) (up2 (gR M0) 1 l (some (gH M))) (gA (GW M0 l 10 el 0)) (gB (GW M0 l 10 el 0)) q (gH M0 + 1) (gS M0 + 10) (gE M0)) eo : _ = mk (gK (GW M0 l 10 el 0)) (gN (GW M0 l 10 el 0)) (gI M0) (gJ M0) (up2 (gR M0) 1 l (some (gH M))) (gA (GW M0 l 10 el 0)) (gB (GW M0 l 10 el 0)) (gO (GW M0 l 10 el 0)) (gH M0 + 1) (gS M0 + 10) (gE M0)).trans (by rw [← zH]; rfl)]
      · obtain ⟨j1, j2, j3, j4⟩ := k5 (by omega)
        have hne : ¬ el = gE M := fun k => by
          rw [k, hK.2] at j1
          omega
        obtain ⟨c, g1, g2, g3⟩ := c_growN (M := M0) (l := l) (el := el) (n := n) (f := f) z2 (by rw [zR, k4]) (by rw [zE]; exact hne) (by rw [zK]; exact j1) (by rw [zN]; omega) (fun i hi => by rw [zO]; exact j4 i hi) (fun i hi => by
          rw [zK, zH]
          exact ⟨(hfk i hi).1, (hfk i hi).2, hK.1 _ (by have := (hfk i hi).1; omega)⟩) (by omega) (by omega) (by rw [zH]; exact FM.lt hK j1 (by omega))
        rw [zH] at g3
        exact ⟨c, g1, g2, g3⟩
    obtain ⟨c, g1, g2, g3⟩ := hgrow
    have kH : gK (GW M0 l c el n) (gH M) = 23 := by
      show up1 (gK M0) (gH M0) 23 (gH M) = 23
      rw [zH]
      exact if_pos rfl
    have nH : gN (GW M0 l c el n) (gH M) = c := by
      show up1 (gN M0) (gH M0) c (gH M) = c
      rw [zH]
      exact if_pos rfl
    have kO : ∀ a, ¬ a = gH M → gK (GW M0 l c el n) a = gK M a := by
      intro a ha
      show up1 (gK M0) (gH M0) 23 a = _
      rw [zH, zK]
      exact if_neg ha
    have e11 := c_add11 (M := GW M0 l c el n) (l := l) (el := gH M) (n := n) (v := v) kH (by rw [nH]; omega) (by omega) (by rw [kO v hv0]; exact hv)
    refine ⟨AD (GW M0 l c el n) l (gH M) n v, top _ ?_, ?_, ?_, ?_, ?_, ?_, ?_, ?_, ?_⟩
    · -- the run
      unfold F_Jx4a65c_add_72be8
      have ea : Int32.ofNat n = alE M0 el := by
        unfold alE
        rw [zE, zN]
        rcases c0 with c | c
        · rw [if_pos (t3 c), c]
          rfl
        · by_cases c1 : el = gE M
          · have : n = 0 := by
              rcases Nat.eq_zero_or_pos n with z | z
              · exact z
              · have j1 := (k5 z).1
                rw [c1, hK.2] at j1
                omega
            rw [if_pos c1, this]
            rfl
          · rw [if_neg c1, c]
      have eg : el = gE M0 ∨ gK M0 el = 23 := by
        rw [zE, zK]
        rcases Nat.eq_zero_or_pos n with z | z
        · exact Or.inl (t3 z)
        · exact Or.inr (k5 z).1
      rw [grd_pos eg, if_pos ea, g3, cl_some]
      dsimp only
      rw [lr_some kH, e11, cl_some]
      exact grd_pos (Or.inr rfl)
    · refine ⟨?_, ?_, by omega, gH M, ?_, fun _ => ⟨kH, by show n + 1 ≤ gN (GW M0 l c el n) (gH M); rw [nH]; omega, by show gN (GW M0 l c el n) (gH M) ≤ _; rw [nH]; omega, fun i hi => ?_⟩⟩
      · show gK (GW M0 l c el n) l = 1
        rw [kO l (by omega), k1]
      · show gI (sI _ 2 l _) 2 l = _
        rw [gI_sI, if_pos ⟨rfl, rfl⟩]
      · show up2 (gR M0) 1 l (some (gH M0)) 1 l = _
        rw [up2_at, if_pos ⟨rfl, rfl⟩, zH]
      · show up2 (gO (GW M0 l c el n)) (gH M) n (some v) (gH M) i = _
        rw [up2_at]
        show _ = some (if i = n then v else f i)
        by_cases ci : i = n
        · rw [if_pos ⟨rfl, ci⟩, if_pos ci]
        · rw [if_neg (fun k => ci k.2), if_neg ci]
          show (if gH M = gH M0 ∧ i < n then gO (nA M0 23 c) el i else _) = _
          rw [zH, if_pos ⟨rfl, by omega⟩]
          have j := k5 (by omega)
          show (if el = gH M0 then none else gO M0 el i) = _
          have hel := FM.lt hK j.1 (by omega)
          rw [zH, if_neg (by omega), zO, j.2.2.2 i (by omega)]
    · refine ⟨fun a ha => ?_, ?_⟩
      · show a < gH M0 + 1
        rw [zH]
        have ha : ¬ gK (GW M0 l c el n) a = 0 := ha
        by_cases ca : a = gH M
        · omega
        · rw [kO a ca] at ha
          have := hK.1 a ha
          omega
      · show gK (GW M0 l c el n) (gE M0) = 0
        rw [zE, kO _ (by omega)]
        exact hK.2
    · refine ⟨gH M, ?_, fun _ => if_pos rfl, fun z => by omega⟩
      show up2 (gR M0) 1 l (some (gH M0)) 1 l = _
      rw [up2_at, if_pos ⟨rfl, rfl⟩, zH]
    · refine ⟨?_, zE, fun a ha => ⟨kO a (by omega), ?_, fun f z => ?_, fun f _ => ?_, fun f z => ?_, fun _ => ?_, fun _ => ?_, fun z => ?_⟩⟩
      · show gH M ≤ gH M0 + 1
        omega
      · show up1 (gN M0) (gH M0) c a = _
        rw [zH, zN]
        exact if_neg (by omega)
      · show gI (sI _ 2 l _) f a = _
        rw [gI_sI, if_neg (fun k => z ⟨Or.inr k.1, k.2⟩)]
        exact zI f a z
      · show gJ M0 f a = _
        rw [zJ]
      · show up2 (gR M0) 1 l (some (gH M0)) f a = _
        rw [up2_at, if_neg z, zR]
      · show upr (gA M0) (gH M0) 0 a = _
        rw [zH, zA]
        funext i
        exact if_neg (by omega)
      · show upr (gB M0) (gH M0) 0 a = _
        rw [zH, zB]
        funext i
        exact if_neg (by omega)
      · funext i
        show up2 (gO (GW M0 l c el n)) (gH M) n (some v) a i = _
        rw [up2_at, if_neg (fun k => by omega)]
        show (if a = gH M0 ∧ i < n then _ else (if a = gH M0 then none else gO M0 a i)) = _
        rw [zH, if_neg (fun k => by omega), if_neg (by omega), zO]
    · show gH M ≤ gH M0 + 1
      omega
    · show gH M0 + 1 ≤ gH M + 1
      omega
    · show gS M ≤ gS M0 + c
      omega
    · show gS M0 + c ≤ _
      omega
  · -- room is there
    have hn0 : 0 < n := by
      rcases Nat.eq_zero_or_pos n with z | z
      · exact absurd (Or.inl z) c0
      · exact z
    obtain ⟨j1, j2, j3, j4⟩ := k5 hn0
    have hcap : n < gN M el := by
      rcases Nat.lt_or_ge n (gN M el) with z | z
      · exact z
      · exact absurd (Or.inr (by omega)) c0
    have hne : ¬ el = gE M := fun k => by
      rw [k, hK.2] at j1
      omega
    have hel := FM.lt hK j1 (by omega)
    have e11 := c_add11 (M := M0) (l := l) (el := el) (n := n) (v := v) (by rw [zK]; exact j1) (by rw [zN]; exact hcap) (by omega) (by rw [zK]; exact hv)
    refine ⟨AD M0 l el n v, top _ ?_, ?_, ?_, ?_, ?_, ?_, ?_, ?_, ?_⟩
    · unfold F_Jx4a65c_add_72be8
      have ea : ¬ Int32.ofNat n = alE M0 el := by
        unfold alE
        rw [zE, zN, if_neg hne]
        intro k
        have := (ofN_eq (by omega) (by omega)).mp k
        omega
      rw [grd_pos (Or.inr (by rw [zK]; exact j1)), if_neg ea, e11, cl_some]
      exact grd_pos (Or.inr rfl)
    · refine ⟨?_, ?_, by omega, el, ?_, fun _ => ⟨?_, ?_, ?_, fun i hi => ?_⟩⟩
      · show gK M0 l = 1
        rw [zK, k1]
      · show gI (sI _ 2 l _) 2 l = _
        rw [gI_sI, if_pos ⟨rfl, rfl⟩]
      · show gR M0 1 l = _
        rw [zR, k4]
      · show gK M0 el = 23
        rw [zK, j1]
      · show n + 1 ≤ gN M0 el
        rw [zN]
        omega
      · show gN M0 el ≤ _
        rw [zN]
        exact j3
      · show up2 (gO M0) el n (some v) el i = _
        rw [up2_at]
        show _ = some (if i = n then v else f i)
        by_cases ci : i = n
        · rw [if_pos ⟨rfl, ci⟩, if_pos ci]
        · rw [if_neg (fun k => ci k.2), if_neg ci, zO, j4 i (by omega)]
    · refine ⟨fun a ha => ?_, ?_⟩
      · show a < gH M0
        rw [zH]
        have ha : ¬ gK M0 a = 0 := ha
        rw [zK] at ha
        exact hK.1 a ha
      · show gK M0 (gE M0) = 0
        rw [zE, zK]
        exact hK.2
    · refine ⟨el, ?_, fun _ => ?_, fun z => by omega⟩
      · show gR M0 1 l = _
        rw [zR, k4]
      · show (if el = gH M then l else tg el) = l
        rw [if_neg (by omega)]
        exact t2 hn0
    · refine ⟨?_, zE, fun a ha => ⟨?_, ?_, fun f z => ?_, fun f _ => ?_, fun f z => ?_, fun _ => ?_, fun _ => ?_, fun z => ?_⟩⟩
      · show gH M ≤ gH M0
        omega
      · show gK M0 a = _
        rw [zK]
      · show gN M0 a = _
        rw [zN]
      · show gI (sI _ 2 l _) f a = _
        rw [gI_sI, if_neg (fun k => z ⟨Or.inr k.1, k.2⟩)]
        exact zI f a z
      · show gJ M0 f a = _
        rw [zJ]
      · show gR M0 f a = _
        rw [zR]
      · show gA M0 a = _
        rw [zA]
      · show gB M0 a = _
        rw [zB]
      · funext i
        show up2 (gO M0) el n (some v) a i = _
        rw [up2_at, if_neg (fun k => z (by rw [k.1]; exact ⟨t2 hn0, j1⟩)), zO]
    · show gH M ≤ gH M0
      omega
    · show gH M0 ≤ gH M + 1
      omega
    · show gS M ≤ gS M0
      omega
    · show gS M0 ≤ _
      omega
theorem FM.pre {M M1 M2 : Mem} {cI cJ cR cI' cJ' cR' : Nat → Nat → Prop} {cA cB cO cA' cB' cO' : Nat → Prop} (h : FM M M1 (fun _ _ => False) (fun _ _ => False) (fun _ _ => False) (fun _ => False) (fun _ => False) (fun _ => False)) (k : FM M1 M2 cI cJ cR cA cB cO) (i1 : ∀ f a, cI f a → cI' f a) (i2 : ∀ f a, cJ f a → cJ' f a) (i3 : ∀ f a, cR f a → cR' f a) (i4 : ∀ a, cA a → cA' a) (i5 : ∀ a, cB a → cB' a) (i6 : ∀ a, a < gH M → cO a → cO' a) : FM M M2 cI' cJ' cR' cA' cB' cO' := by
  refine ⟨Nat.le_trans h.1 k.1, k.2.1.trans h.2.1, fun a ha => ?_⟩
  obtain ⟨a1, a2, a3, a4, a5, a6, a7, a8⟩ := h.2.2 a ha
  obtain ⟨b1, b2, b3, b4, b5, b6, b7, b8⟩ := k.2.2 a (Nat.lt_of_lt_of_le ha h.1)
  exact ⟨b1.trans a1, b2.trans a2, fun f z => (b3 f (fun w => z (i1 _ _ w))).trans (a3 f id), fun f z => (b4 f (fun w => z (i2 _ _ w))).trans (a4 f id), fun f z => (b5 f (fun w => z (i3 _ _ w))).trans (a5 f id), fun z => (b6 (fun w => z (i4 _ w))).trans (a6 id), fun z => (b7 (fun w => z (i5 _ w))).trans (a7 id), fun z => (b8 (fun w => z (i6 _ ha w))).trans (a8 id)⟩
theorem FM.tg2 {M M1 : Mem} {cI cJ cR : Nat → Nat → Prop} {cA cB cO : Nat → Prop} (h : FM M M1 cI cJ cR cA cB cO) (hK : KH M) {tg tg1 : Nat → Nat} {l n : Nat} {f : Nat → Nat} (hL : LiS M l n f) (hT : TG M tg l n) (h2 : ¬ cR 1 l) (ht : ∀ a, a < gH M → tg1 a = tg a) : TG M1 tg1 l n := by
  obtain ⟨el, t1, t2, t3⟩ := hT
  obtain ⟨k1, -, -, el2, k4, k5⟩ := hL
  obtain ⟨-, -, -, -, hr, -⟩ := h.2.2 l (FM.lt hK k1 (by omega))
  rw [t1] at k4
  obtain rfl := Option.some.inj k4
  refine ⟨el, by rw [hr 1 h2]; exact t1, fun hn => ?_, fun hn => ?_⟩
  · rw [ht el (FM.lt hK (k5 hn).1 (by omega))]
    exact t2 hn
  · rw [h.2.1]
    exact t3 hn
