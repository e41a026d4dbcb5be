/-- all that an hour of the ground object p rests on -/
def HR (x p o : Nat) (M W : Mem) (ha ua ba : Nat → Nat) (ra : Nat → Nat → Nat) : Prop := CSh x M ∧ GrS x p M ∧ MI o W ∧ HoR x M o W ha ∧ ToR x M o W ∧ TaR x M o W ∧ RuR x M o W ua ∧ BoS p M o W ba ra ∧ BoH p M o W ba
/-- the numbers of the ground object p -/
def DR (p o : Nat) (M W : Mem) (ba : Nat → Nat) (ra : Nat → Nat → Nat) (hr : Nat) (h g t : Nat → Int64) : Prop := gI M 206 p = Int32.ofNat hr ∧ AG (nbW W o) (rgW W o) ra (gJ M 502) h ∧ AW W o ra (gJ M 503) h ∧ AG (nbW W o) (rgW W o) ra (gJ M 504) (fun _ => 0) ∧ AGG (nbW W o) ba (gJ M 110) g ∧ gB M (p + 2) = t
/-- what may change where the ground object p works -/
def FRM (x p nb : Nat) (rg ba : Nat → Nat) (ra : Nat → Nat → Nat) (M M1 : Mem) : Prop :=
  gK M1 = gK M ∧ gN M1 = gN M ∧ gR M1 = gR M ∧ gA M1 = gA M ∧ gO M1 = gO M ∧ gH M1 = gH M ∧ gS M1 = gS M ∧ gE M1 = gE M ∧
  (∀ f a, ¬ ((f = 205 ∨ f = 206) ∧ a = p) → ¬ ((f = 107 ∨ f = 108 ∨ f = 109) ∧ ∃ b, b < nb ∧ a = ba b) → ¬ f = 1210 → gI M1 f a = gI M f a) ∧
  (∀ f, ¬ f = 502 → ¬ f = 503 → ¬ f = 504 → ¬ f = 110 → ¬ f = 1209 → gJ M1 f = gJ M f) ∧
  FR nb rg ra (gJ M 502) (gJ M1 502) ∧ FR nb rg ra (gJ M 503) (gJ M1 503) ∧ FR nb rg ra (gJ M 504) (gJ M1 504) ∧ FRG nb ba (gJ M 110) (gJ M1 110) ∧
  (∀ a, ¬ a = x + 11 → ¬ a = x + 12 → ¬ a = p + 2 → gB M1 a = gB M a)
theorem FRM.refl {x p nb : Nat} {rg ba : Nat → Nat} {ra : Nat → Nat → Nat} (M : Mem) : FRM x p nb rg ba ra M M := ⟨rfl, rfl, rfl, rfl, rfl, rfl, rfl, rfl, fun _ _ _ _ _ => rfl, fun _ _ _ _ _ _ => rfl, FR.refl _, FR.refl _, FR.refl _, FRG.refl _, fun _ _ _ _ => rfl⟩
theorem FRM.trans {x p nb : Nat} {rg ba : Nat → Nat} {ra : Nat → Nat → Nat} {M M1 M2 : Mem} (h : FRM x p nb rg ba ra M M1) (k : FRM x p nb rg ba ra M1 M2) : FRM x p nb rg ba ra M M2 := by
  obtain ⟨h1, h2, h3, h4, h5, h6, h7, h8, h9, ha, hb, hc, hd, he, hf⟩ := h
  obtain ⟨k1, k2, k3, k4, k5, k6, k7, k8, k9, ka, kb, kc, kd, ke, kf⟩ := k
  exact ⟨k1.trans h1, k2.trans h2, k3.trans h3, k4.trans h4, k5.trans h5, k6.trans h6, k7.trans h7, k8.trans h8, fun f a z1 z2 z3 => (k9 f a z1 z2 z3).trans (h9 f a z1 z2 z3), fun f z1 z2 z3 z4 z5 => (ka f z1 z2 z3 z4 z5).trans (ha f z1 z2 z3 z4 z5), hb.trans kb, hc.trans kc, hd.trans kd, he.trans ke, fun a z1 z2 z3 => (kf a z1 z2 z3).trans (hf a z1 z2 z3)⟩
theorem gI_nf {M : Mem} {f a : Nat} {v : Int32} {f1 : Nat} (h : ¬ f1 = f) : gI (sI M f a v) f1 = gI M f1 := by
  funext a1
  rw [gI_sI, if_neg (fun k => h k.1)]
theorem gI_sf {M : Mem} {f a : Nat} {v : Int32} : gI (sI M f a v) f = ud (gI M f) a v := by
  funext a1
  rw [gI_sI]
  unfold ud
  by_cases c : a1 = a
  · rw [if_pos ⟨rfl, c⟩, if_pos c]
  · rw [if_neg (fun k => c k.2), if_neg c]
theorem gJ_nf {M : Mem} {f a : Nat} {v : Int64} {f1 : Nat} (h : ¬ f1 = f) : gJ (sJ M f a v) f1 = gJ M f1 := by
  funext a1
  rw [gJ_sJ, if_neg (fun k => h k.1)]
theorem gJ_sf {M : Mem} {f a : Nat} {v : Int64} : gJ (sJ M f a v) f = ud (gJ M f) a v := by
  funext a1
  rw [gJ_sJ]
  unfold ud
  by_cases c : a1 = a
  · rw [if_pos ⟨rfl, c⟩, if_pos c]
  · rw [if_neg (fun k => c k.2), if_neg c]
theorem gA_nf {M : Mem} {f a : Nat} {v : Int32} {f1 : Nat} (h : ¬ f1 = f) : gA (sA M f a v) f1 = gA M f1 := by
  funext a1
  rw [gA_sA, if_neg (fun k => h k.1)]
theorem gA_sf {M : Mem} {f a : Nat} {v : Int32} : gA (sA M f a v) f = ud (gA M f) a v := by
  funext a1
  rw [gA_sA]
  unfold ud
  by_cases c : a1 = a
  · rw [if_pos ⟨rfl, c⟩, if_pos c]
  · rw [if_neg (fun k => c k.2), if_neg c]
theorem gB_nf {M : Mem} {f a : Nat} {v : Int64} {f1 : Nat} (h : ¬ f1 = f) : gB (sB M f a v) f1 = gB M f1 := by
  funext a1
  rw [gB_sB, if_neg (fun k => h k.1)]
theorem gB_sf {M : Mem} {f a : Nat} {v : Int64} : gB (sB M f a v) f = ud (gB M f) a v := by
  funext a1
  rw [gB_sB]
  unfold ud
  by_cases c : a1 = a
  · rw [if_pos ⟨rfl, c⟩, if_pos c]
  · rw [if_neg (fun k => c k.2), if_neg c]
theorem gO_nf {M : Mem} {f a : Nat} {v : Option Nat} {f1 : Nat} (h : ¬ f1 = f) : gO (sO M f a v) f1 = gO M f1 := by
  funext a1
  rw [gO_sO, if_neg (fun k => h k.1)]
theorem gO_sf {M : Mem} {f a : Nat} {v : Option Nat} : gO (sO M f a v) f = ud (gO M f) a v := by
  funext a1
  rw [gO_sO]
  unfold ud
  by_cases c : a1 = a
  · rw [if_pos ⟨rfl, c⟩, if_pos c]
  · rw [if_neg (fun k => c k.2), if_neg c]
theorem gR_nf {M : Mem} {f a : Nat} {v : Option Nat} {f1 : Nat} (h : ¬ f1 = f) : gR (sR M f a v) f1 = gR M f1 := by
  funext a1
  rw [gR_sR, if_neg (fun k => h k.1)]
theorem gR_sf {M : Mem} {f a : Nat} {v : Option Nat} : gR (sR M f a v) f = ud (gR M f) a v := by
  funext a1
  rw [gR_sR]
  unfold ud
  by_cases c : a1 = a
  · rw [if_pos ⟨rfl, c⟩, if_pos c]
  · rw [if_neg (fun k => c k.2), if_neg c]
/-- a list is as it was where nothing of lists changed -/
theorem LiS.to {M M1 : Mem} {l n : Nat} {f : Nat → Nat} (h : LiS M l n f) (hK : gK M1 = gK M) (hN : gN M1 = gN M) (hR : gR M1 = gR M) (hO : gO M1 = gO M) (hi : gI M1 2 l = gI M 2 l) : LiS M1 l n f := by
  unfold LiS at h ⊢
  rw [hK, hN, hR, hO, hi]
  exact h
theorem FRM.bos {x p o : Nat} {M M1 W : Mem} {ba : Nat → Nat} {ra : Nat → Nat → Nat} {p1 nb : Nat} {rg ba1 : Nat → Nat} {ra1 : Nat → Nat → Nat} (hF : FRM x p1 nb rg ba1 ra1 M M1) (h : BoS p M o W ba ra) : BoS p M1 o W ba ra := by
  obtain ⟨h1, h2, h3, h4, h5, h6, h7, h8, h9, ha, -⟩ := hF
  have hi : ∀ f a, ¬ f = 205 → ¬ f = 206 → ¬ f = 107 → ¬ f = 108 → ¬ f = 109 → ¬ f = 1210 → gI M1 f a = gI M f a := fun f a z1 z2 z3 z4 z5 z6 => h9 f a (fun k => by omega) (fun k => by omega) z6
  obtain ⟨b1, b2, b3, b4⟩ := h
  refine ⟨b1.to h1 h2 h3 h5 (hi _ _ (by omega) (by omega) (by omega) (by omega) (by omega) (by omega)), b2, b3, fun b hb => ?_⟩
  obtain ⟨c1, c2, c3, c4, c5, c6, c7, ⟨l, c8, c9⟩, c10⟩ := b4 b hb
  rw [h1, h3, hi 100 _ (by omega) (by omega) (by omega) (by omega) (by omega) (by omega), hi 101 _ (by omega) (by omega) (by omega) (by omega) (by omega) (by omega), hi 102 _ (by omega) (by omega) (by omega) (by omega) (by omega) (by omega), hi 103 _ (by omega) (by omega) (by omega) (by omega) (by omega) (by omega), ha 500 (by omega) (by omega) (by omega) (by omega) (by omega), ha 501 (by omega) (by omega) (by omega) (by omega) (by omega)]
  exact ⟨c1, c2, c3, c4, c5, c6, c7, ⟨l, c8, c9.to h1 h2 h3 h5 (hi _ _ (by omega) (by omega) (by omega) (by omega) (by omega) (by omega))⟩, c10⟩
theorem FRM.csh {x p o : Nat} {M M1 : Mem} {nb : Nat} {rg ba : Nat → Nat} {ra : Nat → Nat → Nat} (hF : FRM x p nb rg ba ra M M1) (h : CSh x M) : CSh x M1 := by
  obtain ⟨h1, h2, h3, h4, h5, h6, h7, h8, -⟩ := hF
  unfold CSh at h ⊢
  rw [h1, h2, h3, h5, h6, h8]
  exact h
theorem FRM.grs {x p p1 : Nat} {M M1 : Mem} {nb : Nat} {rg ba : Nat → Nat} {ra : Nat → Nat → Nat} (hF : FRM x p1 nb rg ba ra M M1) (h : GrS x p M) : GrS x p M1 := by
  obtain ⟨h1, h2, h3, h4, h5, h6, h7, h8, -⟩ := hF
  unfold GrS at h ⊢
  rw [h1, h2, h3]
  exact h
theorem FRM.hor {x p o : Nat} {M M1 W : Mem} {nb : Nat} {rg ba ha : Nat → Nat} {ra : Nat → Nat → Nat} (hF : FRM x p nb rg ba ra M M1) (h : HoR x M o W ha) : HoR x M1 o W ha := by
  obtain ⟨h1, h2, h3, h4, h5, h6, h7, h8, h9, -⟩ := hF
  have hi : ∀ f a, ¬ f = 205 → ¬ f = 206 → ¬ f = 107 → ¬ f = 108 → ¬ f = 109 → ¬ f = 1210 → gI M1 f a = gI M f a := fun f a z1 z2 z3 z4 z5 z6 => h9 f a (fun k => by omega) (fun k => by omega) z6
  refine ⟨h.1.to h1 h2 h3 h5 (hi _ _ (by omega) (by omega) (by omega) (by omega) (by omega) (by omega)), fun i hi0 => ?_⟩
  rw [h1, hi 300 _ (by omega) (by omega) (by omega) (by omega) (by omega) (by omega), hi 301 _ (by omega) (by omega) (by omega) (by omega) (by omega) (by omega), hi 302 _ (by omega) (by omega) (by omega) (by omega) (by omega) (by omega), hi 303 _ (by omega) (by omega) (by omega) (by omega) (by omega) (by omega), hi 304 _ (by omega) (by omega) (by omega) (by omega) (by omega) (by omega)]
  exact h.2 i hi0
theorem FRM.tor {x p o : Nat} {M M1 W : Mem} {nb : Nat} {rg ba : Nat → Nat} {ra : Nat → Nat → Nat} (hF : FRM x p nb rg ba ra M M1) (h : ToR x M o W) : ToR x M1 o W := by
  obtain ⟨h1, h2, h3, h4, -⟩ := hF
  unfold ToR at h ⊢
  rw [h4]
  exact h
theorem FRM.tar {x p o : Nat} {M M1 W : Mem} {nb : Nat} {rg ba : Nat → Nat} {ra : Nat → Nat → Nat} (hF : FRM x p nb rg ba ra M M1) (h : TaR x M o W) : TaR x M1 o W := by
  obtain ⟨h1, h2, h3, h4, h5, h6, h7, h8, h9, -⟩ := hF
  unfold TaR at h ⊢
  rw [h4, h9 802 _ (fun k => by omega) (fun k => by omega) (by omega)]
  exact h
theorem FRM.rur {x p o : Nat} {M M1 W : Mem} {nb : Nat} {rg ba ua : Nat → Nat} {ra : Nat → Nat → Nat} (hF : FRM x p nb rg ba ra M M1) (h : RuR x M o W ua) : RuR x M1 o W ua := by
  obtain ⟨h1, h2, h3, h4, h5, h6, h7, h8, h9, -⟩ := hF
  have hi : ∀ f a, ¬ f = 205 → ¬ f = 206 → ¬ f = 107 → ¬ f = 108 → ¬ f = 109 → ¬ f = 1210 → gI M1 f a = gI M f a := fun f a z1 z2 z3 z4 z5 z6 => h9 f a (fun k => by omega) (fun k => by omega) z6
  refine ⟨h.1.to h1 h2 h3 h5 (hi _ _ (by omega) (by omega) (by omega) (by omega) (by omega) (by omega)), fun i hi0 => ?_⟩
  rw [h1, h2, h3, h4, hi 600 _ (by omega) (by omega) (by omega) (by omega) (by omega) (by omega), hi 601 _ (by omega) (by omega) (by omega) (by omega) (by omega) (by omega), hi 603 _ (by omega) (by omega) (by omega) (by omega) (by omega) (by omega)]
  exact h.2 i hi0
/-- an hour, from memory to memory -/
theorem c_pass1 {x p o hr : Nat} {M W : Mem} {ha ua ba : Nat → Nat} {ra : Nat → Nat → Nat} {h g t : Nat → Int64} (hR : HR x p o M W ha ua ba ra) (hD : DR p o M W ba ra hr h g t) (hhr : hr ≤ 20000) (hB : HBd W o hr h) :
    ∃ M1, F_X1_pass M p = some (M1, ()) ∧ HR x p o M1 W ha ua ba ra ∧ DR p o M1 W ba ra (hr + 1) (hourS W o hr h g t).1 (hourS W o hr h g t).2.1 (hourS W o hr h g t).2.2 ∧ FRM x p (nbW W o) (rgW W o) ba ra M M1 ∧ (∀ f a, ¬ (f = 206 ∧ a = p) → gI M1 f a = gI M f a) ∧ ∀ f, ¬ f = 502 → ¬ f = 503 → ¬ f = 504 → ¬ f = 110 → gJ M1 f = gJ M f := by
  obtain ⟨hC, hG, hI, hHo, hT, hTa, hRu, hBo, hH⟩ := hR
  obtain ⟨d1, d2, d3, d4, d5, d6⟩ := hD
  have hp : x + 46 ≤ p := hG.2.2.2.2.2.2.2.2.2
  obtain ⟨φ5, φ6, φ7, φ8, l1, s1, e1, e2, e3, e4, e5, f5, f6, f7, f8⟩ := c_pass (t := t) (l := gB M (x + 11)) (s := gB M (x + 12)) hC hG hI hHo hT hTa hRu hBo hH d1 hhr (fun b hb => nok_of hI hhr hB hb) d2 d3 d4 d5
  rw [← d6, PM_self, d6] at e1
  have hi : ∀ f a, ¬ (f = 206 ∧ a = p) → gI (sI (PM M x p φ5 φ6 φ7 φ8 (hourS W o hr h g t).2.2 l1 s1) 206 p (Int32.ofNat (hr + 1))) f a = gI M f a := by
    intro f a z
    rw [gI_sI, if_neg z]
    rfl
  have hj : ∀ f, ¬ f = 502 → ¬ f = 503 → ¬ f = 504 → ¬ f = 110 → gJ (sI (PM M x p φ5 φ6 φ7 φ8 (hourS W o hr h g t).2.2 l1 s1) 206 p (Int32.ofNat (hr + 1))) f = gJ M f := by
    intro f z1 z2 z3 z4
    rw [gJ_sI, gJ_PM, if_neg z1, if_neg z2, if_neg z3, if_neg z4]
  have hF : FRM x p (nbW W o) (rgW W o) ba ra M (sI (PM M x p φ5 φ6 φ7 φ8 (hourS W o hr h g t).2.2 l1 s1) 206 p (Int32.ofNat (hr + 1))) := by
    refine ⟨rfl, rfl, rfl, rfl, rfl, rfl, rfl, rfl, fun f a z1 _ _ => hi f a (fun k => z1 ⟨Or.inr k.1, k.2⟩), fun f z1 z2 z3 z4 _ => hj f z1 z2 z3 z4, f5, f6, f7, f8, fun a z1 z2 z3 => ?_⟩
    rw [gB_sI, gB_PM, if_neg z1, if_neg z2, if_neg z3]
  refine ⟨_, e1, ⟨hF.csh (o := o) hC, hF.grs hG, hI, hF.hor hHo, hF.tor hT, hF.tar hTa, hF.rur hRu, hF.bos hBo, ?_⟩, ⟨?_, e2, e3, e4, e5, ?_⟩, hF, hi, hj⟩
  · refine ⟨(hi 205 p (fun k => by omega)).trans hH.1, fun b hb => ?_⟩
    rw [hi 107 _ (fun k => by omega), hi 108 _ (fun k => by omega), hi 109 _ (fun k => by omega)]
    exact hH.2 b hb
  · rw [gI_sI, if_pos ⟨rfl, rfl⟩]
  · rw [gB_sI, PM_t _ _ _ _ _ _ _ _ _ _ hp]
