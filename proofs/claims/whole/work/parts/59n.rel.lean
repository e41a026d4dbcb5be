/-- a frame of the class's memory: what may change among the addresses that were -/
def FM (M M1 : Mem) (cI cJ cR : Nat → Nat → Prop) (cA cB cO : Nat → Prop) : Prop := gH M ≤ gH M1 ∧ gE M1 = gE M ∧ ∀ a, a < gH M → gK M1 a = gK M a ∧ gN M1 a = gN M a ∧ (∀ f, ¬ cI f a → gI M1 f a = gI M f a) ∧ (∀ f, ¬ cJ f a → gJ M1 f a = gJ M f a) ∧ (∀ f, ¬ cR f a → gR M1 f a = gR M f a) ∧ (¬ cA a → gA M1 a = gA M a) ∧ (¬ cB a → gB M1 a = gB M a) ∧ (¬ cO a → gO M1 a = gO M a)
/-- kinds lie below the heap's end -/
def KH (M : Mem) : Prop := (∀ a, ¬ gK M a = 0 → a < gH M) ∧ gK M (gE M) = 0
/-- the tag of a list's row -/
def TG (M : Mem) (tg : Nat → Nat) (l n : Nat) : Prop := ∃ el, gR M 1 l = some el ∧ (0 < n → tg el = l) ∧ (n = 0 → el = gE M)
section FRM
variable {M M1 : Mem} {cI cJ cR : Nat → Nat → Prop} {cA cB cO : Nat → Prop}
theorem FM.k (h : FM M M1 cI cJ cR cA cB cO) (hK : KH M) {a c : Nat} (ha : gK M a = c) (hc : ¬ c = 0) : gK M1 a = c := by
  have := (h.2.2 a (hK.1 a (by rw [ha]; exact hc))).1
  rw [this, ha]
theorem FM.lt (hK : KH M) {a c : Nat} (ha : gK M a = c) (hc : ¬ c = 0) : a < gH M := hK.1 a (by rw [ha]; exact hc)
theorem FM.lis (h : FM M M1 cI cJ cR cA cB cO) (hK : KH M) {tg : Nat → Nat} {l n : Nat} {f : Nat → Nat} (hL : LiS M l n f) (hT : TG M tg l n) (h1 : ¬ cI 2 l) (h2 : ¬ cR 1 l) (h3 : ∀ a, tg a = l → ¬ cO a) : LiS M1 l n f := by
  obtain ⟨k1, k2, k3, el, k4, k5⟩ := hL
  have hl := FM.lt hK k1 (by omega)
  obtain ⟨-, -, hi, -, hr, -⟩ := h.2.2 l hl
  refine ⟨h.k hK k1 (by omega), by rw [hi 2 h1]; exact k2, k3, el, by rw [hr 1 h2]; exact k4, fun hn => ?_⟩
  obtain ⟨e1, e2, e3, e4⟩ := k5 hn
  have hel := FM.lt hK e1 (by omega)
  obtain ⟨-, en, -, -, -, -, -, eo⟩ := h.2.2 el hel
  obtain ⟨el2, t1, t2, -⟩ := hT
  have : el2 = el := by
    rw [k4] at t1
    exact (Option.some.inj t1).symm
  subst this
  rw [en, eo (h3 _ (t2 hn))]
  exact ⟨h.k hK e1 (by omega), e2, e3, e4⟩
theorem FM.tg (h : FM M M1 cI cJ cR cA cB cO) (hK : KH M) {tg tg1 : Nat → Nat} {l n : Nat} {c : Nat} (hl : gK M l = c) (hc : ¬ c = 0) (hT : TG M tg l n) (h2 : ¬ cR 1 l) (ht : ∀ a, tg a = l → tg1 a = l) : TG M1 tg1 l n := by
  obtain ⟨el, t1, t2, t3⟩ := hT
  obtain ⟨-, -, -, -, hr, -⟩ := h.2.2 l (FM.lt hK hl hc)
  refine ⟨el, by rw [hr 1 h2]; exact t1, fun hn => ht _ (t2 hn), fun hn => ?_⟩
  rw [h.2.1]
  exact t3 hn
theorem FM.csh {x : Nat} (h : FM M M1 cI cJ cR cA cB cO) (hK : KH M) (hC : CSh x M) (h1 : ∀ f a, 200 ≤ f → a < x + 54 → ¬ cR f a) (h2 : ¬ cO (x + 20)) : CSh x M1 := by
  obtain ⟨c1, c2, c3, c4, c5, c6⟩ := hC
  have hlt : ∀ a, a < x + 54 → a < gH M := fun a ha => by omega
  refine ⟨fun t ht => ?_, fun t ht => ?_, fun t ht => ?_, fun i hi => ?_, by have := h.1; omega, by rw [h.2.1]; exact c6⟩
  · have hb : 200 ≤ t.1 ∧ t.2.1 < 54 := by
      revert t
      decide
    rw [(h.2.2 _ (hlt _ (by omega))).2.2.2.2.1 _ (h1 _ _ hb.1 (by omega))]
    exact c1 t ht
  · have hb : t.1 < 54 := by
      revert t
      decide
    rw [(h.2.2 _ (hlt _ (by omega))).1]
    exact c2 t ht
  · have hb : t.1 < 54 := by
      revert t
      decide
    rw [(h.2.2 _ (hlt _ (by omega))).1, (h.2.2 _ (hlt _ (by omega))).2.1]
    exact c3 t ht
  · rw [(h.2.2 _ (hlt (x + 20) (by omega))).2.2.2.2.2.2.2 h2, (h.2.2 _ (hlt (x + (21 + i)) (by omega))).1, (h.2.2 _ (hlt (x + (21 + i)) (by omega))).2.1]
    exact c4 i hi
theorem FM.hor {x o : Nat} {W : Mem} {ha tg : Nat → Nat} (h : FM M M1 cI cJ cR cA cB cO) (hK : KH M) (hH : HoR x M o W ha) (hT : TG M tg (x + 2) (nhW W o)) (h1 : ∀ f a, (f = 2 ∧ a = x + 2) ∨ f = 300 ∨ f = 301 ∨ f = 302 ∨ f = 303 ∨ f = 304 → ¬ cI f a) (h2 : ¬ cR 1 (x + 2)) (h3 : ∀ a, tg a = x + 2 → ¬ cO a) : HoR x M1 o W ha := by
  refine ⟨h.lis hK hH.1 hT (h1 _ _ (by omega)) h2 h3, fun i hi => ?_⟩
  obtain ⟨k1, k2⟩ := hH.2 i hi
  obtain ⟨-, -, e, -⟩ := h.2.2 (ha i) (FM.lt hK k1 (by omega))
  rw [e 300 (h1 _ _ (by omega)), e 301 (h1 _ _ (by omega)), e 302 (h1 _ _ (by omega)), e 303 (h1 _ _ (by omega)), e 304 (h1 _ _ (by omega))]
  exact ⟨h.k hK k1 (by omega), k2⟩
theorem FM.tor {x o : Nat} {W : Mem} (h : FM M M1 cI cJ cR cA cB cO) (hC : CSh x M) (hT : ToR x M o W) (h1 : ∀ a, a = x + 3 ∨ a = x + 4 ∨ a = x + 5 → ¬ cA a) : ToR x M1 o W := by
  have ht := hC.top
  unfold ToR at *
  rw [(h.2.2 (x + 3) (by omega)).2.2.2.2.2.1 (h1 _ (by omega)), (h.2.2 (x + 4) (by omega)).2.2.2.2.2.1 (h1 _ (by omega)), (h.2.2 (x + 5) (by omega)).2.2.2.2.2.1 (h1 _ (by omega))]
  exact hT
theorem FM.tar {x o : Nat} {W : Mem} (h : FM M M1 cI cJ cR cA cB cO) (hC : CSh x M) (hT : TaR x M o W) (h0 : ¬ cI 802 (x + 6)) (h1 : ∀ a, a = x + 7 ∨ a = x + 8 → ¬ cA a) : TaR x M1 o W := by
  have ht := hC.top
  unfold TaR at *
  rw [(h.2.2 (x + 6) (by omega)).2.2.1 802 h0, (h.2.2 (x + 7) (by omega)).2.2.2.2.2.1 (h1 _ (by omega)), (h.2.2 (x + 8) (by omega)).2.2.2.2.2.1 (h1 _ (by omega))]
  exact hT
theorem FM.rur {x o : Nat} {W : Mem} {ua tg : Nat → Nat} (h : FM M M1 cI cJ cR cA cB cO) (hK : KH M) (hR : RuR x M o W ua) (hT : TG M tg (x + 10) (nrW W o)) (h1 : ∀ f a, (f = 2 ∧ a = x + 10) ∨ f = 600 ∨ f = 601 ∨ f = 603 → ¬ cI f a) (h2 : ∀ f a, (f = 1 ∧ a = x + 10) ∨ f = 602 → ¬ cR f a) (h3 : ∀ a, tg a = x + 10 → ¬ cO a) (h4 : ∀ a, x + 54 ≤ a → ¬ cA a) : RuR x M1 o W ua := by
  refine ⟨h.lis hK hR.1 hT (h1 _ _ (by omega)) (h2 _ _ (by omega)) h3, fun i hi => ?_⟩
  obtain ⟨k1, k2, k3, k4, k5, k6, k7, k8, k9⟩ := hR.2 i hi
  obtain ⟨-, -, e, -, er, -⟩ := h.2.2 (ua i) (FM.lt hK k1 (by omega))
  obtain ⟨-, en, -, -, -, ea, -⟩ := h.2.2 (ua i + 1) (FM.lt hK k5 (by omega))
  rw [e 600 (h1 _ _ (by omega)), e 601 (h1 _ _ (by omega)), e 603 (h1 _ _ (by omega)), er 602 (h2 _ _ (by omega)), en, ea (h4 _ (by omega))]
  exact ⟨h.k hK k1 (by omega), k2, k3, k4, h.k hK k5 (by omega), k6, k7, k8, k9⟩
theorem FM.bos {p o : Nat} {W : Mem} {ba tg : Nat → Nat} {ra : Nat → Nat → Nat} (h : FM M M1 cI cJ cR cA cB cO) (hK : KH M) (hI : MI o W) (hB : BoS p M o W ba ra) (hT : TG M tg (p + 1) (nbW W o)) (hT2 : ∀ b, b < nbW W o → ∀ l, gR M 104 (ba b) = some l → TG M tg l (rgW W o b)) (h1 : ∀ f a, (f = 2 ∧ (a = p + 1 ∨ ∃ b, b < nbW W o ∧ gR M 104 (ba b) = some a)) ∨ f = 100 ∨ f = 101 ∨ f = 102 ∨ f = 103 → ¬ cI f a) (h2 : ∀ f a, (f = 1 ∧ (a = p + 1 ∨ ∃ b, b < nbW W o ∧ gR M 104 (ba b) = some a)) ∨ f = 104 ∨ f = 105 ∨ f = 106 → ¬ cR f a) (h3 : ∀ a, (tg a = p + 1 ∨ ∃ b, b < nbW W o ∧ gR M 104 (ba b) = some (tg a)) → ¬ cO a) (h4 : ∀ f a, f = 500 ∨ f = 501 → ¬ cJ f a) : BoS p M1 o W ba ra := by
  obtain ⟨b1, b2, b3, b4⟩ := hB
  refine ⟨h.lis hK b1 hT (h1 _ _ (Or.inl ⟨rfl, Or.inl rfl⟩)) (h2 _ _ (Or.inl ⟨rfl, Or.inl rfl⟩)) (fun a ha => h3 a (Or.inl ha)), b2, b3, fun b hb => ?_⟩
  obtain ⟨c1, c2, c3, c4, c5, c6, c7, ⟨l, c8, c9⟩, c10⟩ := b4 b hb
  obtain ⟨-, -, e, -, er, -⟩ := h.2.2 (ba b) (FM.lt hK c1 (by omega))
  rw [e 100 (h1 _ _ (by omega)), e 101 (h1 _ _ (by omega)), e 102 (h1 _ _ (by omega)), e 103 (h1 _ _ (by omega)), er 104 (h2 _ _ (by omega)), er 105 (h2 _ _ (by omega)), er 106 (h2 _ _ (by omega))]
  refine ⟨h.k hK c1 (by omega), c2, c3, c4, c5, c6, c7, ⟨l, c8, h.lis hK c9 (hT2 b hb l c8) (h1 _ _ (Or.inl ⟨rfl, Or.inr ⟨b, hb, c8⟩⟩)) (h2 _ _ (Or.inl ⟨rfl, Or.inr ⟨b, hb, c8⟩⟩)) (fun a ha => h3 a (Or.inr ⟨b, hb, by rw [ha]; exact c8⟩))⟩, fun k hk => ?_⟩
  obtain ⟨r1, r2, r3⟩ := c10 k hk
  obtain ⟨-, -, -, ej, -⟩ := h.2.2 (ra b k) (FM.lt hK r1 (by omega))
  rw [ej 500 (h4 _ _ (by omega)), ej 501 (h4 _ _ (by omega))]
  exact ⟨h.k hK r1 (by omega), r2, r3⟩
theorem FM.boh {x p o : Nat} {W : Mem} {ba : Nat → Nat} {ra : Nat → Nat → Nat} (h : FM M M1 cI cJ cR cA cB cO) (hK : KH M) (hG : GrS x p M) (hB : BoS p M o W ba ra) (hH : BoH p M o W ba) (h1 : ∀ f a, (f = 205 ∧ a = p) ∨ f = 107 ∨ f = 108 ∨ f = 109 → ¬ cI f a) : BoH p M1 o W ba := by
  obtain ⟨-, -, e0, -⟩ := h.2.2 p (FM.lt hK hG.1 (by omega))
  refine ⟨by rw [e0 205 (h1 _ _ (by omega))]; exact hH.1, fun b hb => ?_⟩
  obtain ⟨c1, -⟩ := hB.2.2.2 b hb
  obtain ⟨-, -, e, -⟩ := h.2.2 (ba b) (FM.lt hK c1 (by omega))
  rw [e 107 (h1 _ _ (by omega)), e 108 (h1 _ _ (by omega)), e 109 (h1 _ _ (by omega))]
  exact hH.2 b hb
theorem FM.dr {x p o hr : Nat} {W : Mem} {ba : Nat → Nat} {ra : Nat → Nat → Nat} {f g t : Nat → Int64} (h : FM M M1 cI cJ cR cA cB cO) (hK : KH M) (hG : GrS x p M) (hB : BoS p M o W ba ra) (hD : DR p o M W ba ra hr f g t) (h1 : ¬ cI 206 p) (h2 : ∀ f a, f = 502 ∨ f = 503 ∨ f = 504 ∨ f = 110 → ¬ cJ f a) (h3 : ¬ cB (p + 2)) : DR p o M1 W ba ra hr f g t := by
  obtain ⟨d1, d2, d3, d4, d5, d6⟩ := hD
  obtain ⟨-, -, e0, -⟩ := h.2.2 p (FM.lt hK hG.1 (by omega))
  obtain ⟨-, -, -, -, -, -, eb, -⟩ := h.2.2 (p + 2) (FM.lt hK hG.2.2.2.2.2.2.2.1 (by omega))
  have er : ∀ b k, b < nbW W o → k < rgW W o b → ∀ f, ¬ cJ f (ra b k) → gJ M1 f (ra b k) = gJ M f (ra b k) := fun b k hb hk => (h.2.2 _ (FM.lt hK ((hB.2.2.2 b hb).2.2.2.2.2.2.2.2 k hk).1 (by omega))).2.2.2.1
  refine ⟨by rw [e0 206 h1]; exact d1, fun b k hb hk => ?_, fun b k hb hk => ?_, fun b k hb hk => ?_, fun b hb => ?_, by rw [eb h3]; exact d6⟩
  · rw [er b k hb hk 502 (h2 _ _ (by omega))]
    exact d2 b k hb hk
  · rw [er b k hb hk 503 (h2 _ _ (by omega))]
    exact d3 b k hb hk
  · rw [er b k hb hk 504 (h2 _ _ (by omega))]
    exact d4 b k hb hk
  · rw [(h.2.2 _ (FM.lt hK (hB.2.2.2 b hb).1 (by omega))).2.2.2.1 110 (h2 _ _ (by omega))]
    exact d5 b hb
/-- the tape -/
def TpR (x o : Nat) (M W : Mem) : Prop := gI M 1002 (x + 13) = gI W 1328 o ∧ ∀ i, i < 60 → gA M (x + 14) i = gA W (o + 23) i
/-- the tank -/
def TkR (x o : Nat) (M W : Mem) : Prop := gI M 900 (x + 16) = gI W 1334 o ∧ gI M 901 (x + 16) = gI W 1335 o ∧ ∀ c, c < 10 → gB M (x + 45) c = 0
/-- the refusals -/
def RfR (x o : Nat) (M W : Mem) : Prop := ∀ i, i < 7 → gA M (x + 53) i = gA W (o + 1) i
def ndW (W : Mem) (o : Nat) : Nat := ixn (gI W 1336 o)
/-- the readings -/
def ReR (x o : Nat) (M W : Mem) (ea : Nat → Nat) : Prop := LiS M (x + 52) (ndW W o) ea ∧ ∀ i, i < ndW W o → gK M (ea i) = 5 ∧ gI M 400 (ea i) = gA W (o + 28) i ∧ gI M 401 (ea i) = gA W (o + 29) i ∧ gJ M 402 (ea i) = gB W (o + 30) i
theorem FM.tpr {x o : Nat} {W : Mem} (h : FM M M1 cI cJ cR cA cB cO) (hC : CSh x M) (hT : TpR x o M W) (h0 : ¬ cI 1002 (x + 13)) (h1 : ¬ cA (x + 14)) : TpR x o M1 W := by
  have ht := hC.top
  unfold TpR at *
  rw [(h.2.2 (x + 13) (by omega)).2.2.1 1002 h0, (h.2.2 (x + 14) (by omega)).2.2.2.2.2.1 h1]
  exact hT
theorem FM.tkr {x o : Nat} {W : Mem} (h : FM M M1 cI cJ cR cA cB cO) (hC : CSh x M) (hT : TkR x o M W) (h0 : ∀ f, f = 900 ∨ f = 901 → ¬ cI f (x + 16)) (h1 : ¬ cB (x + 45)) : TkR x o M1 W := by
  have ht := hC.top
  unfold TkR at *
  rw [(h.2.2 (x + 16) (by omega)).2.2.1 900 (h0 _ (by omega)), (h.2.2 (x + 16) (by omega)).2.2.1 901 (h0 _ (by omega)), (h.2.2 (x + 45) (by omega)).2.2.2.2.2.2.1 h1]
  exact hT
theorem FM.rfr {x o : Nat} {W : Mem} (h : FM M M1 cI cJ cR cA cB cO) (hC : CSh x M) (hT : RfR x o M W) (h1 : ¬ cA (x + 53)) : RfR x o M1 W := by
  have ht := hC.top
  unfold RfR at *
  rw [(h.2.2 (x + 53) (by omega)).2.2.2.2.2.1 h1]
  exact hT
theorem FM.rer {x o : Nat} {W : Mem} {ea tg : Nat → Nat} (h : FM M M1 cI cJ cR cA cB cO) (hK : KH M) (hR : ReR x o M W ea) (hT : TG M tg (x + 52) (ndW W o)) (h1 : ∀ f a, (f = 2 ∧ a = x + 52) ∨ f = 400 ∨ f = 401 → ¬ cI f a) (h2 : ¬ cR 1 (x + 52)) (h3 : ∀ a, tg a = x + 52 → ¬ cO a) (h4 : ∀ a, ¬ cJ 402 a) : ReR x o M1 W ea := by
  refine ⟨h.lis hK hR.1 hT (h1 _ _ (by omega)) h2 h3, fun i hi => ?_⟩
  obtain ⟨k1, k2, k3, k4⟩ := hR.2 i hi
  obtain ⟨-, -, e, ej, -⟩ := h.2.2 (ea i) (FM.lt hK k1 (by omega))
  rw [e 400 (h1 _ _ (by omega)), e 401 (h1 _ _ (by omega)), ej 402 (h4 _)]
  exact ⟨h.k hK k1 (by omega), k2, k3, k4⟩
end FRM
