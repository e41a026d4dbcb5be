theorem i64_le {x y : Int64} : x ≤ y ↔ x.toInt ≤ y.toInt := Int64.le_iff_toInt_le
theorem i64_lt {x y : Int64} : x < y ↔ x.toInt < y.toInt := Int64.lt_iff_toInt_lt
theorem i64_nle {x y : Int64} (h : ¬ x ≤ y) : y.toInt < x.toInt := Int.not_le.mp (fun k => h (i64_le.mpr k))
theorem i64_nlt {x y : Int64} (h : ¬ x < y) : y.toInt ≤ x.toInt := Int.not_lt.mp (fun k => h (i64_lt.mpr k))
theorem i32_nle {x y : Int32} (h : ¬ x ≤ y) : y.toInt < x.toInt := Int.not_le.mp (fun k => h (i32_le.mpr k))
theorem i32_nlt {x y : Int32} (h : ¬ x < y) : y.toInt ≤ x.toInt := Int.not_lt.mp (fun k => h (i32_lt.mpr k))
/-- what a list puts at place i, in all -/
def dl : List (Nat × Int64) → Nat → Int64
  | [], _ => 0
  | p :: l, i => (if i = p.1 then p.2 else 0) + dl l i
theorem app_dl : ∀ (l : List (Nat × Int64)) (f : Nat → Int64), app f l = fun i => f i + dl l i := by
  intro l
  induction l with
  | nil =>
    intro f
    funext i
    show f i = f i + 0
    rw [Int64.add_zero]
  | cons p l ih =>
    intro f
    show app (ad f p.1 p.2) l = _
    rw [ih]
    funext i
    show ud f p.1 (f p.1 + p.2) i + dl l i = f i + ((if i = p.1 then p.2 else 0) + dl l i)
    unfold ud
    by_cases h : i = p.1
    · rw [if_pos h, if_pos h, h, Int64.add_assoc]
    · rw [if_neg h, if_neg h, Int64.zero_add]
theorem dl_append : ∀ (l1 l2 : List (Nat × Int64)) (i : Nat), dl (l1 ++ l2) i = dl l1 i + dl l2 i := by
  intro l1
  induction l1 with
  | nil =>
    intro l2 i
    show dl l2 i = 0 + dl l2 i
    rw [Int64.zero_add]
  | cons p l ih =>
    intro l2 i
    show (if i = p.1 then p.2 else 0) + dl (l ++ l2) i = (if i = p.1 then p.2 else 0) + dl l i + dl l2 i
    rw [ih, Int64.add_assoc]
theorem a4 (a b c d : Int64) : (a + b) + (c + d) = (a + c) + (b + d) := by
  rw [Int64.add_assoc, Int64.add_assoc, ← Int64.add_assoc b c d, Int64.add_comm b c, Int64.add_assoc c b d]
theorem dl_cat2 (f g : Nat → List (Nat × Int64)) : ∀ (r b i : Nat), dl (catR (fun b => f b ++ g b) r b) i = dl (catR f r b) i + dl (catR g r b) i := by
  intro r
  induction r with
  | zero =>
    intro b i
    show (0 : Int64) = 0 + 0
    rw [Int64.add_zero]
  | succ r ih =>
    intro b i
    rw [catR_succ, catR_succ, catR_succ, dl_append, dl_append, dl_append, dl_append, ih, a4]
theorem app_comm (f : Nat → Int64) (l1 l2 : List (Nat × Int64)) : app (app f l1) l2 = app (app f l2) l1 := by
  rw [app_dl l1, app_dl l2, app_dl l2, app_dl l1]
  funext i
  show f i + dl l1 i + dl l2 i = f i + dl l2 i + dl l1 i
  rw [Int64.add_assoc, Int64.add_comm (dl l1 i), Int64.add_assoc]
theorem app_cat2 (x : Nat → Int64) (f g : Nat → List (Nat × Int64)) (r b : Nat) : app x (catR f r b ++ catR g r b) = app x (catR (fun b => f b ++ g b) r b) := by
  rw [app_dl, app_dl]
  funext i
  show x i + dl _ i = x i + dl _ i
  rw [dl_append, dl_cat2]
theorem app_ad (f : Nat → Int64) (l : List (Nat × Int64)) (i : Nat) (v : Int64) : app (ad f i v) l = ad (app f l) i v := app_comm f [(i, v)] l
theorem ud_self (f : Nat → Int64) (i : Nat) : ud f i (f i) = f := by
  funext j
  unfold ud
  by_cases h : j = i
  · rw [if_pos h, h]
  · rw [if_neg h]
theorem ad_zero (f : Nat → Int64) (i : Nat) : ad f i 0 = f := by
  unfold ad
  rw [Int64.add_zero, ud_self]
theorem ad_ad (f : Nat → Int64) (i : Nat) (u v : Int64) : ad (ad f i u) i v = ad f i (u + v) := by
  funext j
  unfold ad ud
  by_cases h : j = i
  · rw [if_pos h, if_pos h, if_pos rfl, Int64.add_assoc]
  · rw [if_neg h, if_neg h, if_neg h]
/-- sums of v from k on -/
def sumR (v : Nat → Int64) : Nat → Nat → Int64 → Int64
  | 0, _, a => a
  | r + 1, k, a => sumR v r (k + 1) (a + v k)
theorem sumR_wash (v : Nat → Int64) (t : Nat → Int64) : ∀ (r k : Nat) (a : Int64), ad t 8 (sumR v r k a) = app (ad t 8 a) (washT v r k) := by
  intro r
  induction r with
  | zero => intro k a; rfl
  | succ r ih =>
    intro k a
    show ad t 8 (sumR v r (k + 1) (a + v k)) = app (ad (ad t 8 a) 8 (v k)) (washT v r (k + 1))
    rw [ih, ad_ad]
/-- φ at the rings' addresses is h at their places -/
def AG (nb : Nat) (rg : Nat → Nat) (ra : Nat → Nat → Nat) (φ h : Nat → Int64) : Prop := ∀ b k, b < nb → k < rg b → φ (ra b k) = h (8 * b + k)
def INJ (nb : Nat) (rg : Nat → Nat) (ra : Nat → Nat → Nat) : Prop := ∀ b k b' k', b < nb → k < rg b → b' < nb → k' < rg b' → ra b k = ra b' k' → b = b' ∧ k = k'
/-- elsewhere nothing changed -/
def FR (nb : Nat) (rg : Nat → Nat) (ra : Nat → Nat → Nat) (φ φ' : Nat → Int64) : Prop := ∀ a, (∀ b k, b < nb → k < rg b → ¬ a = ra b k) → φ' a = φ a
theorem FR.refl {nb : Nat} {rg : Nat → Nat} {ra : Nat → Nat → Nat} (φ : Nat → Int64) : FR nb rg ra φ φ := fun _ _ => rfl
theorem FR.trans {nb : Nat} {rg : Nat → Nat} {ra : Nat → Nat → Nat} {φ1 φ2 φ3 : Nat → Int64} (h1 : FR nb rg ra φ1 φ2) (h2 : FR nb rg ra φ2 φ3) : FR nb rg ra φ1 φ3 := fun a ha => (h2 a ha).trans (h1 a ha)
theorem FR.ud {nb : Nat} {rg : Nat → Nat} {ra : Nat → Nat → Nat} (φ : Nat → Int64) {b k : Nat} (hb : b < nb) (hk : k < rg b) (v : Int64) : FR nb rg ra φ (ud φ (ra b k) v) := fun a ha => if_neg (ha b k hb hk)
theorem AG.ud {nb : Nat} {rg : Nat → Nat} {ra : Nat → Nat → Nat} {φ h : Nat → Int64} (hI : INJ nb rg ra) (h8 : ∀ b, b < nb → rg b ≤ 8) (hA : AG nb rg ra φ h) {b k : Nat} (hb : b < nb) (hk : k < rg b) (v : Int64) : AG nb rg ra (ud φ (ra b k) v) (ud h (8 * b + k) v) := by
  intro b' k' hb' hk'
  have e1 := h8 b hb
  have e2 := h8 b' hb'
  by_cases e : b' = b ∧ k' = k
  · obtain ⟨rfl, rfl⟩ := e
    rw [ud_s, ud_s]
  · rw [ud_n _ (fun z => e (hI _ _ _ _ hb' hk' hb hk z)), ud_n _ (show ¬ 8 * b' + k' = 8 * b + k by omega)]
    exact hA b' k' hb' hk'
/-- warmth at the rings' addresses -/
def AW (W : Mem) (o : Nat) (ra : Nat → Nat → Nat) (φ h : Nat → Int64) : Prop := ∀ b k, b < nbW W o → k < rgW W o b → φ (ra b k) = wS W o h b k
/-- the bores of the ground object p -/
def BoS (p : Nat) (M : Mem) (o : Nat) (W : Mem) (ba : Nat → Nat) (ra : Nat → Nat → Nat) : Prop :=
  LiS M (p + 1) (nbW W o) ba ∧ INJ (nbW W o) (rgW W o) ra ∧ (∀ b b', b < nbW W o → b' < nbW W o → ba b = ba b' → b = b') ∧
  ∀ b, b < nbW W o → gK M (ba b) = 2 ∧ gI M 100 (ba b) = Int32.ofNat b ∧ gI M 101 (ba b) = gA W (o + 2) b ∧ gI M 102 (ba b) = gA W (o + 3) b ∧ gI M 103 (ba b) = gA W (o + 7) b ∧ gR M 105 (ba b) = some (ra b 0) ∧ gR M 106 (ba b) = some (ra b (rgW W o b - 1)) ∧ (∃ l, gR M 104 (ba b) = some l ∧ LiS M l (rgW W o b) (ra b)) ∧
    ∀ k, k < rgW W o b → gK M (ra b k) = 6 ∧ gJ M 500 (ra b k) = (holdS (gA W (o + 5)) (gA W (o + 6)) b k).toInt64 ∧ gJ M 501 (ra b k) = firstS (gA W (o + 5)) (gA W (o + 6)) (gA W (o + 7)) b k
/-- what is told of the bores of the ground object p -/
def BoH (p : Nat) (M : Mem) (o : Nat) (W : Mem) (ba : Nat → Nat) : Prop := gI M 205 p = gI W 1312 o ∧ ∀ b, b < nbW W o → gI M 107 (ba b) = gA W (o + 8) b ∧ gI M 108 (ba b) = gA W (o + 9) b ∧ gI M 109 (ba b) = gA W (o + 10) b
def GrS (x p : Nat) (M : Mem) : Prop := gK M p = 3 ∧ gR M 200 p = some (x + 1) ∧ gR M 201 p = some (x + 6) ∧ gR M 202 p = some (x + 9) ∧ gR M 203 p = some (p + 1) ∧ gR M 204 p = some (p + 2) ∧ gK M (p + 1) = 1 ∧ gK M (p + 2) = 21 ∧ gN M (p + 2) = 9 ∧ x + 46 ≤ p
theorem CSh.g46 {x : Nat} {M : Mem} (h : CSh x M) : GrS x (x + 46) M := ⟨h.k46, h.r200_46, h.r201_46, h.r202_46, h.r203_46, h.r204_46, h.k47, h.k48, h.n48, Nat.le_refl _⟩
theorem CSh.g49 {x : Nat} {M : Mem} (h : CSh x M) : GrS x (x + 49) M := ⟨h.k49, h.r200_49, h.r201_49, h.r202_49, h.r203_49, h.r204_49, h.k50, h.k51, h.n51, by omega⟩
theorem lisPM {M : Mem} {l n : Nat} {f : Nat → Nat} (h : LiS M l n f) (x p : Nat) (φ2 φ3 φ4 φg : Nat → Int64) (t u s : Nat → Int64) : LiS (PM M x p φ2 φ3 φ4 φg t u s) l n f := h
