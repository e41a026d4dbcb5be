/-- a frame of the model's memory -/
def WM (o : Nat) (W W1 : Mem) (dI dA dB : Nat → Prop) : Prop := gK W1 = gK W ∧ gN W1 = gN W ∧ gR W1 = gR W ∧ gJ W1 = gJ W ∧ gO W1 = gO W ∧ gH W1 = gH W ∧ gS W1 = gS W ∧ gE W1 = gE W ∧ (∀ f, ¬ dI f → gI W1 f o = gI W f o) ∧ (∀ j, ¬ dA j → gA W1 (o + j) = gA W (o + j)) ∧ (∀ j, ¬ dB j → gB W1 (o + j) = gB W (o + j))
/-- the model's extras -/
def E2 (o : Nat) (W : Mem) (hr : Nat) : Prop := HBd W o hr (gB W (o + 11))
def E3 (o : Nat) (W : Mem) (hr : Nat) : Prop := 0 ≤ (gB W (o + 13) 5).toInt ∧ (gB W (o + 13) 5).toInt ≤ 2000000 * hr
def E4 (o : Nat) (W : Mem) : Prop := ∃ tp, gI W 1328 o = Int32.ofNat tp ∧ tp ≤ 60 ∧ ∀ i, i < tp → ∃ b, b < 256 ∧ gA W (o + 23) i = Int32.ofNat b
def E5 (o : Nat) (W : Mem) : Prop := ∀ k, k < 9 → gA W (o + 31) k = ltrs.getD k 0
def E6 (o : Nat) (W : Mem) : Prop := (∃ cr, gI W 1334 o = Int32.ofNat cr ∧ cr ≤ 9) ∧ bt (gI W 1335 o) 1 9999
def E7 (o : Nat) (W : Mem) : Prop := gI W 1336 o = Int32.ofNat (ndW W o) ∧ ndW W o ≤ 20 ∧ ∀ i, i < ndW W o → bt (gA W (o + 29) i) 0 8000
def E8 (o : Nat) (W : Mem) : Prop := ∀ i, nhW W o ≤ i → i < 20 → gA W (o + 17) i < 0
def E9 (o : Nat) (W : Mem) : Prop := ∀ b, nbW W o ≤ b → b < 8 → gA W (o + 8) b = 0 ∧ gA W (o + 9) b = 0 ∧ gB W (o + 12) b = 0
def EXW (o : Nat) (W : Mem) (hr : Nat) : Prop := (gI W 1301 o = Int32.ofNat hr ∧ hr ≤ 8000) ∧ E2 o W hr ∧ E3 o W hr ∧ E4 o W ∧ E5 o W ∧ E6 o W ∧ E7 o W ∧ E8 o W ∧ E9 o W
/-- addresses kept apart -/
def SPc (x o : Nat) (M W : Mem) (ba ma tg : Nat → Nat) : Prop := KH M ∧ TG M tg (x + 2) (nhW W o) ∧ TG M tg (x + 10) (nrW W o) ∧ TG M tg (x + 47) (nbW W o) ∧ TG M tg (x + 50) (nbW W o) ∧ TG M tg (x + 52) (ndW W o) ∧ (∀ b, b < nbW W o → ∀ l, gR M 104 (ba b) = some l → x + 54 ≤ l ∧ gK M l = 1 ∧ TG M tg l (rgW W o b)) ∧ (∀ b, b < nbW W o → ∀ l, gR M 104 (ma b) = some l → x + 54 ≤ l ∧ gK M l = 1 ∧ TG M tg l (rgW W o b))
def HIN (o : Nat) (W : Mem) (ha : Nat → Nat) : Prop := ∀ i j, i < nhW W o → j < nhW W o → ha i = ha j → i = j
/-- class and model stand alike -/
def REL (x o : Nat) (M W : Mem) (ha ua ba ma ea : Nat → Nat) (ra rb : Nat → Nat → Nat) (tg : Nat → Nat) (hr : Nat) : Prop := MR x o M W ha ua ba ma ra rb hr (gB W (o + 11)) (gB W (o + 12)) (gB W (o + 13)) ∧ EXW o W hr ∧ TpR x o M W ∧ TkR x o M W ∧ RfR x o M W ∧ ReR x o M W ea ∧ SPc x o M W ba ma tg ∧ HIN o W ha
def Rel (x o : Nat) (M W : Mem) : Prop := ∃ ha ua ba ma ea ra rb tg hr, REL x o M W ha ua ba ma ea ra rb tg hr
section WMM
variable {o : Nat} {W W1 : Mem} {dI dA dB : Nat → Prop}
theorem WM.msh (h : WM o W W1 dI dA dB) (k : MSh o W) : MSh o W1 := k.to h.1 h.2.1 h.2.2.1 h.2.2.2.2.2.1
theorem WM.i (h : WM o W W1 dI dA dB) {f : Nat} (k : ¬ dI f) : gI W1 f o = gI W f o := h.2.2.2.2.2.2.2.2.1 f k
theorem WM.a (h : WM o W W1 dI dA dB) {j : Nat} (k : ¬ dA j) : gA W1 (o + j) = gA W (o + j) := h.2.2.2.2.2.2.2.2.2.1 j k
theorem WM.b (h : WM o W W1 dI dA dB) {j : Nat} (k : ¬ dB j) : gB W1 (o + j) = gB W (o + j) := h.2.2.2.2.2.2.2.2.2.2 j k
theorem WM.nb (h : WM o W W1 dI dA dB) (k : ¬ dI 1302) : nbW W1 o = nbW W o := by
  unfold nbW
  rw [h.i k]
theorem WM.rg (h : WM o W W1 dI dA dB) (k : ¬ dA 4) : rgW W1 o = rgW W o := by
  funext b
  unfold rgW
  rw [h.a k]
theorem WM.mi (h : WM o W W1 dI dA dB) (hI : MI o W) (k1 : ∀ f, f = 1302 ∨ f = 1312 ∨ f = 1316 ∨ f = 1322 ∨ f = 1329 → ¬ dI f) (k2 : ∀ j, 2 ≤ j → j ≤ 27 → ¬ j = 17 → ¬ j = 23 → ¬ dA j) : MI o W1 := by
  have a2 := h.a (k2 2 (by omega) (by omega) (by omega) (by omega))
  have a3 := h.a (k2 3 (by omega) (by omega) (by omega) (by omega))
  have a4 := h.a (k2 4 (by omega) (by omega) (by omega) (by omega))
  have a5 := h.a (k2 5 (by omega) (by omega) (by omega) (by omega))
  have a6 := h.a (k2 6 (by omega) (by omega) (by omega) (by omega))
  have a7 := h.a (k2 7 (by omega) (by omega) (by omega) (by omega))
  have a8 := h.a (k2 8 (by omega) (by omega) (by omega) (by omega))
  have a9 := h.a (k2 9 (by omega) (by omega) (by omega) (by omega))
  have a10 := h.a (k2 10 (by omega) (by omega) (by omega) (by omega))
  have a14 := h.a (k2 14 (by omega) (by omega) (by omega) (by omega))
  have a15 := h.a (k2 15 (by omega) (by omega) (by omega) (by omega))
  have a18 := h.a (k2 18 (by omega) (by omega) (by omega) (by omega))
  have a19 := h.a (k2 19 (by omega) (by omega) (by omega) (by omega))
  have a20 := h.a (k2 20 (by omega) (by omega) (by omega) (by omega))
  have a21 := h.a (k2 21 (by omega) (by omega) (by omega) (by omega))
  have a22 := h.a (k2 22 (by omega) (by omega) (by omega) (by omega))
  have a26 := h.a (k2 26 (by omega) (by omega) (by omega) (by omega))
  have a27 := h.a (k2 27 (by omega) (by omega) (by omega) (by omega))
  have h1 := h.i (k1 1302 (by omega))
  have h2 := h.i (k1 1312 (by omega))
  have h3 := h.i (k1 1316 (by omega))
  have h4 := h.i (k1 1322 (by omega))
  have h5 := h.i (k1 1329 (by omega))
  have hS := h.msh hI.sh
  obtain ⟨-, i6⟩ := hI
  refine ⟨hS, ?_⟩
  simp only [nbW, rgW, nhW, npW, nrW, szW, h1, h2, h3, h4, h5, a2, a3, a4, a5, a6, a7, a8, a9, a10, a14, a15, a18, a19, a20, a21, a22, a26, a27] at i6 ⊢
  exact i6
theorem HoR.wm {x : Nat} {M : Mem} {ha : Nat → Nat} (k : HoR x M o W ha) (h : WM o W W1 dI dA dB) (k1 : ¬ dI 1316) (k2 : ∀ j, 14 ≤ j → j ≤ 17 → ¬ dA j) : HoR x M o W1 ha := by
  unfold HoR nhW at *
  rw [h.i k1, h.a (k2 14 (by omega) (by omega)), h.a (k2 15 (by omega) (by omega)), h.a (k2 16 (by omega) (by omega)), h.a (k2 17 (by omega) (by omega))]
  exact k
theorem ToR.wm {x : Nat} {M : Mem} (k : ToR x M o W) (h : WM o W W1 dI dA dB) (k2 : ∀ j, j = 18 ∨ j = 21 ∨ j = 22 → ¬ dA j) : ToR x M o W1 := by
  unfold ToR at *
  rw [h.a (k2 18 (by omega)), h.a (k2 21 (by omega)), h.a (k2 22 (by omega))]
  exact k
theorem TaR.wm {x : Nat} {M : Mem} (k : TaR x M o W) (h : WM o W W1 dI dA dB) (k1 : ¬ dI 1322) (k2 : ∀ j, j = 19 ∨ j = 20 → ¬ dA j) : TaR x M o W1 := by
  unfold TaR at *
  rw [h.i k1, h.a (k2 19 (by omega)), h.a (k2 20 (by omega))]
  exact k
theorem RuR.wm {x : Nat} {M : Mem} {ua : Nat → Nat} (k : RuR x M o W ua) (h : WM o W W1 dI dA dB) (k1 : ¬ dI 1329) (k2 : ∀ j, 24 ≤ j → j ≤ 27 → ¬ dA j) : RuR x M o W1 ua := by
  unfold RuR nrW szW at *
  rw [h.i k1, h.a (k2 24 (by omega) (by omega)), h.a (k2 25 (by omega) (by omega)), h.a (k2 26 (by omega) (by omega)), h.a (k2 27 (by omega) (by omega))]
  exact k
theorem BoS.wm {p : Nat} {M : Mem} {ba : Nat → Nat} {ra : Nat → Nat → Nat} (k : BoS p M o W ba ra) (h : WM o W W1 dI dA dB) (k1 : ¬ dI 1302) (k2 : ∀ j, 2 ≤ j → j ≤ 7 → ¬ dA j) : BoS p M o W1 ba ra := by
  unfold BoS at *
  rw [h.nb k1, h.rg (k2 4 (by omega) (by omega)), h.a (k2 2 (by omega) (by omega)), h.a (k2 3 (by omega) (by omega)), h.a (k2 5 (by omega) (by omega)), h.a (k2 6 (by omega) (by omega)), h.a (k2 7 (by omega) (by omega))]
  exact k
theorem BoH.wm {p : Nat} {M : Mem} {ba : Nat → Nat} (k : BoH p M o W ba) (h : WM o W W1 dI dA dB) (k1 : ¬ dI 1302) (k3 : ¬ dI 1312) (k2 : ∀ j, 8 ≤ j → j ≤ 10 → ¬ dA j) : BoH p M o W1 ba := by
  unfold BoH at *
  rw [h.nb k1, h.i k3, h.a (k2 8 (by omega) (by omega)), h.a (k2 9 (by omega) (by omega)), h.a (k2 10 (by omega) (by omega))]
  exact k
theorem DR.wm {p hr : Nat} {M : Mem} {ba : Nat → Nat} {ra : Nat → Nat → Nat} {f g t : Nat → Int64} (k : DR p o M W ba ra hr f g t) (h : WM o W W1 dI dA dB) (k1 : ¬ dI 1302) (k2 : ∀ j, 4 ≤ j → j ≤ 6 → ¬ dA j) : DR p o M W1 ba ra hr f g t := by
  unfold DR AW wS at *
  rw [h.nb k1, h.rg (k2 4 (by omega) (by omega)), h.a (k2 5 (by omega) (by omega)), h.a (k2 6 (by omega) (by omega))]
  exact k
theorem DJ.wm {ra rb : Nat → Nat → Nat} (k : DJ W o ra rb) (h : WM o W W1 dI dA dB) (k1 : ¬ dI 1302) (k2 : ¬ dA 4) : DJ W1 o ra rb := by
  unfold DJ at *
  rw [h.nb k1, h.rg k2]
  exact k
theorem DJB.wm {ba ma : Nat → Nat} (k : DJB W o ba ma) (h : WM o W W1 dI dA dB) (k1 : ¬ dI 1302) : DJB W1 o ba ma := by
  unfold DJB at *
  rw [h.nb k1]
  exact k
theorem TpR.wm {x : Nat} {M : Mem} (k : TpR x o M W) (h : WM o W W1 dI dA dB) (k1 : ¬ dI 1328) (k2 : ¬ dA 23) : TpR x o M W1 := by
  unfold TpR at *
  rw [h.i k1, h.a k2]
  exact k
theorem TkR.wm {x : Nat} {M : Mem} (k : TkR x o M W) (h : WM o W W1 dI dA dB) (k1 : ∀ f, f = 1334 ∨ f = 1335 → ¬ dI f) : TkR x o M W1 := by
  unfold TkR at *
  rw [h.i (k1 1334 (by omega)), h.i (k1 1335 (by omega))]
  exact k
theorem RfR.wm {x : Nat} {M : Mem} (k : RfR x o M W) (h : WM o W W1 dI dA dB) (k2 : ¬ dA 1) : RfR x o M W1 := by
  unfold RfR at *
  rw [h.a k2]
  exact k
theorem ReR.wm {x : Nat} {M : Mem} {ea : Nat → Nat} (k : ReR x o M W ea) (h : WM o W W1 dI dA dB) (k1 : ¬ dI 1336) (k2 : ∀ j, j = 28 ∨ j = 29 → ¬ dA j) (k3 : ¬ dB 30) : ReR x o M W1 ea := by
  unfold ReR ndW at *
  rw [h.i k1, h.a (k2 28 (by omega)), h.a (k2 29 (by omega)), h.b k3]
  exact k
theorem HIN.wm {ha : Nat → Nat} (k : HIN o W ha) (h : WM o W W1 dI dA dB) (k1 : ¬ dI 1316) : HIN o W1 ha := by
  unfold HIN nhW at *
  rw [h.i k1]
  exact k
theorem SPc.wm {x : Nat} {M : Mem} {ba ma tg : Nat → Nat} (k : SPc x o M W ba ma tg) (h : WM o W W1 dI dA dB) (k1 : ∀ f, f = 1302 ∨ f = 1316 ∨ f = 1329 ∨ f = 1336 → ¬ dI f) (k2 : ¬ dA 4) : SPc x o M W1 ba ma tg := by
  unfold SPc at *
  rw [h.nb (k1 1302 (by omega)), h.rg k2]
  unfold nhW nrW ndW at *
  rw [h.i (k1 1316 (by omega)), h.i (k1 1329 (by omega)), h.i (k1 1336 (by omega))]
  exact k
theorem E2.wm {hr : Nat} (k : E2 o W hr) (h : WM o W W1 dI dA dB) (k1 : ¬ dI 1302) (k2 : ∀ j, 4 ≤ j → j ≤ 6 → ¬ dA j) (k3 : ¬ dB 11) : E2 o W1 hr := by
  unfold E2 HBd hdI at *
  rw [h.nb k1, h.rg (k2 4 (by omega) (by omega)), h.a (k2 5 (by omega) (by omega)), h.a (k2 6 (by omega) (by omega)), h.b k3]
  exact k
theorem E3.wm {hr : Nat} (k : E3 o W hr) (h : WM o W W1 dI dA dB) (k3 : ¬ dB 13) : E3 o W1 hr := by
  unfold E3 at *
  rw [h.b k3]
  exact k
theorem E4.wm (k : E4 o W) (h : WM o W W1 dI dA dB) (k1 : ¬ dI 1328) (k2 : ¬ dA 23) : E4 o W1 := by
  unfold E4 at *
  rw [h.i k1, h.a k2]
  exact k
theorem E5.wm (k : E5 o W) (h : WM o W W1 dI dA dB) (k2 : ¬ dA 31) : E5 o W1 := by
  unfold E5 at *
  rw [h.a k2]
  exact k
theorem E6.wm (k : E6 o W) (h : WM o W W1 dI dA dB) (k1 : ∀ f, f = 1334 ∨ f = 1335 → ¬ dI f) : E6 o W1 := by
  unfold E6 at *
  rw [h.i (k1 1334 (by omega)), h.i (k1 1335 (by omega))]
  exact k
theorem E7.wm (k : E7 o W) (h : WM o W W1 dI dA dB) (k1 : ¬ dI 1336) (k2 : ¬ dA 29) : E7 o W1 := by
  unfold E7 ndW at *
  rw [h.i k1, h.a k2]
  exact k
theorem E8.wm (k : E8 o W) (h : WM o W W1 dI dA dB) (k1 : ¬ dI 1316) (k2 : ¬ dA 17) : E8 o W1 := by
  unfold E8 nhW at *
  rw [h.i k1, h.a k2]
  exact k
theorem E9.wm (k : E9 o W) (h : WM o W W1 dI dA dB) (k1 : ¬ dI 1302) (k2 : ∀ j, j = 8 ∨ j = 9 → ¬ dA j) (k3 : ¬ dB 12) : E9 o W1 := by
  unfold E9 at *
  rw [h.nb k1, h.a (k2 8 (by omega)), h.a (k2 9 (by omega)), h.b k3]
  exact k
end WMM
/-- the class's and the model's answer, and what stands behind -/
def OPR {ρ : Type} (x o : Nat) (M W : Mem) (rc rm : Option (Mem × ρ)) : Prop := ∃ M1 W1 r, rc = some (M1, r) ∧ rm = some (W1, r) ∧ Rel x o M1 W1 ∧ gH M ≤ gH M1 ∧ gH M1 ≤ gH M + 1000 ∧ gS M ≤ gS M1 ∧ gS M1 ≤ gS M + 10000 ∧ gH W1 = gH W ∧ gS W1 = gS W
theorem opr_same {ρ : Type} {x o : Nat} {M W : Mem} {rc rm : Option (Mem × ρ)} {r : ρ} (hR : Rel x o M W) (h1 : rc = some (M, r)) (h2 : rm = some (W, r)) : OPR x o M W rc rm := ⟨M, W, r, h1, h2, hR, Nat.le_refl _, Nat.le_add_right _ _, Nat.le_refl _, Nat.le_add_right _ _, rfl, rfl⟩
theorem SPc.fm {x o : Nat} {M M1 W : Mem} {ba ma tg : Nat → Nat} {ra rb : Nat → Nat → Nat} {cI cJ cR : Nat → Nat → Prop} {cA cB cO : Nat → Prop} (h : FM M M1 cI cJ cR cA cB cO) (hC : CSh x M) (hB : BoS (x + 46) M o W ba ra) (hB2 : BoS (x + 49) M o W ma rb) (hK : SPc x o M W ba ma tg) (hK1 : KH M1) (h2 : ∀ f a, f = 1 ∨ f = 104 → ¬ cR f a) : SPc x o M1 W ba ma tg := by
  obtain ⟨k0, k1, k2, k3, k4, k5, k6, k7⟩ := hK
  have e104 : ∀ a c, gK M a = c → ¬ c = 0 → gR M1 104 a = gR M 104 a := fun a c k1 k2 => (h.2.2 a (FM.lt k0 k1 k2)).2.2.2.2.1 104 (h2 _ _ (by omega))
  refine ⟨hK1, h.tg k0 hC.k2 (by omega) k1 (h2 _ _ (by omega)) (fun _ z => z), h.tg k0 hC.k10 (by omega) k2 (h2 _ _ (by omega)) (fun _ z => z), h.tg k0 hC.k47 (by omega) k3 (h2 _ _ (by omega)) (fun _ z => z), h.tg k0 hC.k50 (by omega) k4 (h2 _ _ (by omega)) (fun _ z => z), h.tg k0 hC.k52 (by omega) k5 (h2 _ _ (by omega)) (fun _ z => z), fun b hb l hl => ?_, fun b hb l hl => ?_⟩
  · rw [e104 _ _ (hB.2.2.2 b hb).1 (by omega)] at hl
    obtain ⟨q1, q2, q3⟩ := k6 b hb l hl
    exact ⟨q1, h.k k0 q2 (by omega), h.tg k0 q2 (by omega) q3 (h2 _ _ (by omega)) (fun _ z => z)⟩
  · rw [e104 _ _ (hB2.2.2.2 b hb).1 (by omega)] at hl
    obtain ⟨q1, q2, q3⟩ := k7 b hb l hl
    exact ⟨q1, h.k k0 q2 (by omega), h.tg k0 q2 (by omega) q3 (h2 _ _ (by omega)) (fun _ z => z)⟩
