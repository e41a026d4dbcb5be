theorem c_least_loop {x : Nat} {M : Mem} (hC : CSh x M) {cr : Nat} {nd pr : Nat → Int64} {sz : Int64} {β : Nat → Nat → Int64} {h c : Nat} {nx : Nat → Int64} (h900 : gI M 900 (x + 16) = Int32.ofNat cr) (hsz : (gI M 901 (x + 16)).toInt64 = sz) (hT : TK cr nd pr sz) (hh : h < 24) (hc : c ≤ cr) (hn : β (x + 18) h = nd h) (hp : β (x + 19) h = pr h) (hnx : ∀ c', c' ≤ cr → β (x + (21 + (h + 1))) c' = nx c') : ∀ (r j f : Nat) (a : Int64), j + r = 7 → r < f → F_X8_leastFrom_p8 F_X8_leastFrom_p33 f (ZB M β) (x + 16) (Int32.ofNat h) (Int32.ofNat c) a (dI j) = some (ZB M β, minR (cvS cr nd pr sz h nx c) r j a) := by
  intro r
  induction r with
  | zero =>
    intro j f a hj hf
    obtain ⟨f, rfl⟩ : ∃ z, f = z + 1 := ⟨f - 1, by omega⟩
    have : j = 7 := by omega
    subst this
    unfold F_X8_leastFrom_p8 F_X8_leastFrom_p33
    rw [if_pos dI_7]
    rfl
  | succ r ih =>
    intro j f a hj hf
    obtain ⟨f, rfl⟩ : ∃ z, f = z + 1 := ⟨f - 1, by omega⟩
    have hrec := ih (j + 1) f (mn (cvS cr nd pr sz h nx c j) a) (by omega) (by omega)
    conv => lhs; unfold F_X8_leastFrom_p8
    rw [if_neg (dI_lt (show j ≤ 6 by omega)), c_costOf hC h900 hsz hT hh hc (by omega) hn hp hnx, cl_some]
    simp only [bnd, dI_s]
    exact hrec
theorem c_leastFrom {x : Nat} {M : Mem} (hC : CSh x M) {cr : Nat} {nd pr : Nat → Int64} {sz : Int64} {β : Nat → Nat → Int64} {h c : Nat} (h900 : gI M 900 (x + 16) = Int32.ofNat cr) (hsz : (gI M 901 (x + 16)).toInt64 = sz) (hT : TK cr nd pr sz) (hh : h < 24) (hc : c ≤ cr) (hn : β (x + 18) h = nd h) (hp : β (x + 19) h = pr h) (hnx : ∀ c', c' ≤ cr → β (x + (21 + (h + 1))) c' = tkL cr nd pr sz (23 - h) c') : F_X8_leastFrom (ZB M β) (x + 16) (Int32.ofNat h) (Int32.ofNat c) = some (ZB M β, tkL cr nd pr sz (24 - h) c) := by
  have e := c_least_loop hC h900 hsz hT hh hc hn hp hnx 7 0 FU 4000000000000000000 (by omega) (by unfold FU; omega)
  have e2 := least_eq hT (r := 23 - h) (by omega) hc
  rw [show 23 - (23 - h) = h by omega, show 23 - h + 1 = 24 - h by omega] at e2
  rw [e2, dI_0] at e
  exact e
theorem c_first_loop {x : Nat} {M : Mem} (hC : CSh x M) {cr : Nat} {nd pr : Nat → Int64} {sz : Int64} {β : Nat → Nat → Int64} {h c : Nat} (h900 : gI M 900 (x + 16) = Int32.ofNat cr) (hsz : (gI M 901 (x + 16)).toInt64 = sz) (hT : TK cr nd pr sz) (hh : h < 24) (hc : c ≤ cr) (hn : β (x + 18) h = nd h) (hp : β (x + 19) h = pr h) (hnx : ∀ c', c' ≤ cr → β (x + (21 + (h + 1))) c' = tkL cr nd pr sz (23 - h) c') : ∀ (r j f : Nat), j + r = 7 → r < f → (∃ k, j ≤ k ∧ k < 7 ∧ isBest cr nd pr sz h c k) → F_X8_firstBest_p11 F_X8_firstBest_p30 F_X8_firstBest_p39 f (ZB M β) (x + 16) (Int32.ofNat h) (Int32.ofNat c) (tkL cr nd pr sz (24 - h) c) (dI j) = some (ZB M β, dI (fstP (fun j => isBest cr nd pr sz h c j) r j)) := by
  intro r
  induction r with
  | zero =>
    intro j f hj hf hex
    obtain ⟨k, h1, h2, -⟩ := hex
    omega
  | succ r ih =>
    intro j f hj hf hex
    obtain ⟨f, rfl⟩ : ∃ z, f = z + 1 := ⟨f - 1, by omega⟩
    conv => lhs; unfold F_X8_firstBest_p11
    rw [if_neg (dI_lt (show j ≤ 6 by omega)), c_costOf hC h900 hsz hT hh hc (by omega) hn hp hnx, cl_some]
    unfold fstP
    by_cases b : isBest cr nd pr sz h c j
    · have e : cvS cr nd pr sz h (tkL cr nd pr sz (23 - h)) c j = tkL cr nd pr sz (24 - h) c := by
        unfold cvS
        rw [if_pos b.1]
        exact b.2
      rw [if_pos b, if_pos ((lg_cmp_eq _ _).mpr e)]
      rfl
    · have e : ¬ cvS cr nd pr sz h (tkL cr nd pr sz (23 - h)) c j = tkL cr nd pr sz (24 - h) c := by
        unfold cvS
        by_cases hf : fea cr nd sz h c j
        · rw [if_pos hf]
          exact fun k => b ⟨hf, k⟩
        · rw [if_neg hf]
          intro k
          obtain ⟨l1, l2⟩ := tkL_bt hT (24 - h) (by omega) c hc
          rw [← k, e4x] at l2
          omega
      rw [if_neg b, if_neg (fun k => e ((lg_cmp_eq _ _).mp k))]
      simp only [bnd, dI_s]
      obtain ⟨k, h1, h2, h3⟩ := hex
      exact ih (j + 1) f (by omega) (by omega) ⟨k, by have : ¬ k = j := fun z => b (z ▸ h3); omega, h2, h3⟩
theorem c_firstBest {x : Nat} {M : Mem} (hC : CSh x M) {cr : Nat} {nd pr : Nat → Int64} {sz : Int64} {β : Nat → Nat → Int64} {h c : Nat} (h900 : gI M 900 (x + 16) = Int32.ofNat cr) (hsz : (gI M 901 (x + 16)).toInt64 = sz) (hT : TK cr nd pr sz) (hh : h < 24) (hc : c ≤ cr) (hn : β (x + 18) h = nd h) (hp : β (x + 19) h = pr h) (hnx : ∀ c', c' ≤ cr → β (x + (21 + (h + 1))) c' = tkL cr nd pr sz (23 - h) c') : F_X8_firstBest (ZB M β) (x + 16) (Int32.ofNat h) (Int32.ofNat c) = some (ZB M β, dI (bestJ cr nd pr sz h c)) := by
  obtain ⟨b1, b2⟩ := bestJ_ok hT hh hc
  have e := c_first_loop hC h900 hsz hT hh hc hn hp hnx 7 0 FU (by omega) (by unfold FU; omega) ⟨_, Nat.zero_le _, b2, b1⟩
  unfold F_X8_firstBest
  rw [c_leastFrom hC h900 hsz hT hh hc hn hp hnx, cl_some]
  rw [dI_0] at e
  exact e
/-- needs and prices of the day -/
def ndS (W : Mem) (o hr h : Nat) : Int64 := needW W o (hr + h)
def prS (W : Mem) (o hr h : Nat) : Int64 := (gA W (o + 21) ((hr + h) % 24)).toInt64
theorem up2_at {α : Type} (f : Nat → Nat → α) (a i : Nat) (v : α) (b j : Nat) : up2 f a i v b j = if b = a ∧ j = i then v else f b j := rfl
theorem c_plan_needs {x o hr : Nat} {M W : Mem} (hC : CSh x M) (hI : MI o W) {ha : Nat → Nat} (hHo : HoR x M o W ha) (hTo : ToR x M o W) (hhr : hr ≤ 20000) (kk : Mem → Nat → Option (Mem × Unit)) : ∀ (r i f : Nat) (β : Nat → Nat → Int64), i + r = 24 → r < f → (∀ j, j < i → β (x + 18) j = ndS W o hr j ∧ β (x + 19) j = prS W o hr j) →
    ∃ β1, F_X8_plan_p2 kk f (ZB M β) (x + 16) (x + 1) (Int32.ofNat hr) (Int32.ofNat i) = kk (ZB M β1) (x + 16) ∧ (∀ j, j < 24 → β1 (x + 18) j = ndS W o hr j ∧ β1 (x + 19) j = prS W o hr j) ∧ ∀ a, ¬ a = x + 18 → ¬ a = x + 19 → β1 a = β a := by
  intro r
  induction r with
  | zero =>
    intro i f β hi hf hb
    obtain ⟨f, rfl⟩ : ∃ z, f = z + 1 := ⟨f - 1, by omega⟩
    have : i = 24 := by omega
    subst this
    refine ⟨β, ?_, hb, fun _ _ _ => rfl⟩
    unfold F_X8_plan_p2
    rw [if_pos (show (24 : Int32) ≤ Int32.ofNat 24 by decide)]
  | succ r ih =>
    intro i f β hi hf hb
    obtain ⟨f, rfl⟩ : ∃ z, f = z + 1 := ⟨f - 1, by omega⟩
    have hlt : ¬ (24 : Int32) ≤ Int32.ofNat i := by
      rw [show (24 : Int32) = Int32.ofNat 24 from rfl, ofN_le (by omega) (by omega)]
      omega
    have i1 : inb (Int32.ofNat i) 24 := ofN_inb (by omega) (by omega)
    have i2 : ixn (Int32.ofNat i) = i := ofN_ix (by omega)
    have e0 : Int32.ofNat hr + Int32.ofNat i = Int32.ofNat (hr + i) := (Int32.ofNat_add hr i).symm
    have e1 : ∀ β, F_X10_needOf (ZB M β) (x + 1) (Int32.ofNat (hr + i)) = some (ZB M β, ndS W o hr i) := fun β => c_needOf (M := ZB M β) hC hI hHo hTo (by omega)
    have e2 : ∀ β, F_X11_inRound (ZB M β) (x + 4) (Int32.ofNat (hr + i)) = some (ZB M β, gA W (o + 21) ((hr + i) % 24)) := by
      intro β
      rw [← hTo.2.1 ((hr + i) % 24) (by omega)]
      exact c_inRound (M := ZB M β) hC.n4 (by omega) (by omega) (by omega)
    obtain ⟨β1, p1, p2, p3⟩ := ih (i + 1) f (up2 (up2 β (x + 18) i (ndS W o hr i)) (x + 19) i (gA W (o + 21) ((hr + i) % 24)).toInt64) (by omega) (by omega) (by
      intro j hj
      rw [up2_at, up2_at, up2_at, up2_at, if_neg (by omega)]
      by_cases c : j = i
      · subst c
        rw [if_pos ⟨rfl, rfl⟩, if_pos ⟨rfl, rfl⟩]
        exact ⟨rfl, rfl⟩
      · rw [if_neg (fun k => c k.2), if_neg (fun k => c k.2), if_neg (by omega)]
        exact hb j (by omega))
    refine ⟨β1, ?_, p2, fun a z1 z2 => ?_⟩
    · rw [← p1]
      conv => lhs; unfold F_X8_plan_p2
      simp only [if_neg hlt, gR_ZB, gK_ZB, gN_ZB, hC.r903, lr_some hC.k18, hC.n18, e0, e1, cl_some, grd_pos i1, i2, bnd, sB_ZB, hC.r904, lr_some hC.k19, hC.n19, hC.r1102, lr_some hC.k4, e2, ofN_succ]
    · rw [p3 a z1 z2]
      funext j
      rw [up2_at, if_neg (fun k => z2 k.1), up2_at, if_neg (fun k => z1 k.1)]
theorem c_plan_row {x : Nat} {M : Mem} (hC : CSh x M) {cr : Nat} {nd pr : Nat → Int64} {sz : Int64} (h900 : gI M 900 (x + 16) = Int32.ofNat cr) (hsz : (gI M 901 (x + 16)).toInt64 = sz) (hT : TK cr nd pr sz) {h : Nat} (hh : h < 24) (kk : Mem → Nat → Int32 → Option (Mem × Unit)) : ∀ (r c f : Nat) (β : Nat → Nat → Int64), c + r = cr + 1 → r < f → β (x + 18) h = nd h → β (x + 19) h = pr h → (∀ c', c' ≤ cr → β (x + (21 + (h + 1))) c' = tkL cr nd pr sz (23 - h) c') → (∀ c', c' < c → β (x + (21 + h)) c' = tkL cr nd pr sz (24 - h) c') →
    ∃ β1, F_X8_plan_p54 kk f (ZB M β) (x + 16) (Int32.ofNat h) (Int32.ofNat c) = kk (ZB M β1) (x + 16) (Int32.ofNat h) ∧ (∀ c', c' ≤ cr → β1 (x + (21 + h)) c' = tkL cr nd pr sz (24 - h) c') ∧ ∀ a, ¬ a = x + (21 + h) → β1 a = β a := by
  have hcr := hT.1
  intro r
  induction r with
  | zero =>
    intro c f β hc hf _ _ _ hd
    obtain ⟨f, rfl⟩ : ∃ z, f = z + 1 := ⟨f - 1, by omega⟩
    refine ⟨β, ?_, fun c' hc' => hd c' (by omega), fun _ _ => rfl⟩
    unfold F_X8_plan_p54
    rw [gI_ZB, h900, if_pos ((ofN_lt (by omega) (by omega)).mpr (by omega))]
  | succ r ih =>
    intro c f β hc hf hn hp hnx hd
    obtain ⟨f, rfl⟩ : ∃ z, f = z + 1 := ⟨f - 1, by omega⟩
    have i1 : inb (Int32.ofNat h) 25 := ofN_inb (by omega) (by omega)
    have i2 : ixn (Int32.ofNat h) = h := ofN_ix (by omega)
    have i3 : inb (Int32.ofNat c) 10 := ofN_inb (by omega) (by omega)
    have i4 : ixn (Int32.ofNat c) = c := ofN_ix (by omega)
    obtain ⟨r1, r2, r3⟩ := hC.cr (i := h) (by omega)
    have el := c_leastFrom hC h900 hsz hT hh (show c ≤ cr by omega) hn hp hnx
    obtain ⟨β1, p1, p2, p3⟩ := ih (c + 1) f (up2 β (x + (21 + h)) c (tkL cr nd pr sz (24 - h) c)) (by omega) (by omega) (by rw [up2_at, if_neg (by omega)]; exact hn) (by rw [up2_at, if_neg (by omega)]; exact hp) (fun c' hc' => by rw [up2_at, if_neg (by omega)]; exact hnx c' hc') (fun c' hc' => by
      rw [up2_at]
      by_cases z : c' = c
      · rw [if_pos ⟨rfl, z⟩, z]
      · rw [if_neg (fun k => z k.2)]
        exact hd c' (by omega))
    refine ⟨β1, ?_, p2, fun a z => ?_⟩
    · rw [← p1]
      conv => lhs; unfold F_X8_plan_p54
      rw [gI_ZB, h900, if_neg (by rw [ofN_lt (by omega) (by omega)]; omega), if_neg (by rw [show (9 : Int32) = Int32.ofNat 9 from rfl, ofN_lt (by omega) (by omega)]; omega)]
      simp only [gR_ZB, gK_ZB, gN_ZB, gO_ZB, hC.r905, lr_some hC.k20, hC.n20, grd_pos i1, i2, r1, lr_some r2, el, cl_some, r3, grd_pos i3, i4, bnd, sB_ZB, ofN_succ]
    · rw [p3 a z]
      funext j
      rw [up2_at, if_neg (fun k => z k.1)]
theorem ofN_pred {n : Nat} : Int32.ofNat (n + 1) - 1 = Int32.ofNat n := by
  rw [← ofN_succ, Int32.add_sub_cancel]
theorem c_plan_rows {x : Nat} {M : Mem} (hC : CSh x M) {cr : Nat} {nd pr : Nat → Int64} {sz : Int64} (h900 : gI M 900 (x + 16) = Int32.ofNat cr) (hsz : (gI M 901 (x + 16)).toInt64 = sz) (hT : TK cr nd pr sz) (kk : Mem → Nat → Option (Mem × Unit)) : ∀ (n f : Nat) (β : Nat → Nat → Int64), n ≤ 24 → n < f → (∀ j, j < 24 → β (x + 18) j = nd j ∧ β (x + 19) j = pr j) → (∀ h', n ≤ h' → h' ≤ 24 → ∀ c', c' ≤ cr → β (x + (21 + h')) c' = tkL cr nd pr sz (24 - h') c') →
    ∃ β1, F_X8_plan_p47 kk f (ZB M β) (x + 16) (Int32.ofNat n - 1) = kk (ZB M β1) (x + 16) ∧ (∀ h', h' ≤ 24 → ∀ c', c' ≤ cr → β1 (x + (21 + h')) c' = tkL cr nd pr sz (24 - h') c') ∧ ∀ a, ¬ (x + 21 ≤ a ∧ a < x + 45) → β1 a = β a := by
  have hcr := hT.1
  intro n
  induction n with
  | zero =>
    intro f β hn hf hb hd
    obtain ⟨f, rfl⟩ : ∃ z, f = z + 1 := ⟨f - 1, by omega⟩
    refine ⟨β, ?_, fun h' hh' => hd h' (Nat.zero_le _) hh', fun _ _ => rfl⟩
    unfold F_X8_plan_p47
    rw [if_pos (show Int32.ofNat 0 - 1 < 0 by decide)]
  | succ n ih =>
    intro f β hn hf hb hd
    obtain ⟨f, rfl⟩ : ∃ z, f = z + 1 := ⟨f - 1, by omega⟩
    obtain ⟨b1, b2⟩ := hb n (by omega)
    obtain ⟨β1, p1, p2, p3⟩ := c_plan_row hC h900 hsz hT (h := n) (by omega) (F_X8_plan_p92 (F_X8_plan_p47 kk f)) (cr + 1) 0 FU β (by omega) (by unfold FU; omega) b1 b2 (fun c' hc' => by have := hd (n + 1) (Nat.le_refl _) (by omega) c' hc'; rw [show 24 - (n + 1) = 23 - n by omega] at this; exact this) (fun c' hc' => by omega)
    obtain ⟨β2, q1, q2, q3⟩ := ih f β1 (by omega) (by omega) (fun j hj => by rw [p3 _ (by omega), p3 _ (by omega)]; exact hb j hj) (fun h' h1 h2 c' hc' => by
      by_cases z : h' = n
      · rw [z]
        exact p2 c' hc'
      · rw [p3 _ (by omega)]
        exact hd h' (by omega) h2 c' hc')
    refine ⟨β2, ?_, q2, fun a z => ?_⟩
    · rw [← q1]
      conv => lhs; unfold F_X8_plan_p47
      rw [ofN_pred, if_neg (fun k => by have := i32_lt.mp k; rw [ofN_toInt (by omega)] at this; simp at this; omega)]
      refine Eq.trans p1 ?_
      unfold F_X8_plan_p92
      simp only [bnd]
      rw [← Int32.sub_eq_add_neg]
    · rw [q3 a z, p3 a (by omega)]
theorem c_plan_path {x : Nat} {M : Mem} (hC : CSh x M) {cr : Nat} {nd pr : Nat → Int64} {sz : Int64} (h900 : gI M 900 (x + 16) = Int32.ofNat cr) (hsz : (gI M 901 (x + 16)).toInt64 = sz) (hT : TK cr nd pr sz) (kk : Mem → Option (Mem × Unit)) : ∀ (r h f : Nat) (β : Nat → Nat → Int64), h + r = 24 → r < f → (∀ j, j < 24 → β (x + 18) j = nd j ∧ β (x + 19) j = pr j) → (∀ h', h' ≤ 24 → ∀ c', c' ≤ cr → β (x + (21 + h')) c' = tkL cr nd pr sz (24 - h') c') → (∀ j, j < h → β (x + 17) j = boS nd sz j (bestJ cr nd pr sz j (heldS cr nd pr sz j))) →
    ∃ β1, F_X8_plan_p103 kk f (ZB M β) (x + 16) (Int32.ofNat (heldS cr nd pr sz h)) (Int32.ofNat h) = kk (ZB M β1) ∧ (∀ j, j < 24 → β1 (x + 17) j = boS nd sz j (bestJ cr nd pr sz j (heldS cr nd pr sz j))) ∧ ∀ a, ¬ a = x + 17 → β1 a = β a := by
  have hcr := hT.1
  intro r
  induction r with
  | zero =>
    intro h f β hh hf hb hd hp
    obtain ⟨f, rfl⟩ : ∃ z, f = z + 1 := ⟨f - 1, by omega⟩
    have : h = 24 := by omega
    subst this
    refine ⟨β, ?_, hp, fun _ _ => rfl⟩
    unfold F_X8_plan_p103
    rw [if_pos (show (24 : Int32) ≤ Int32.ofNat 24 by decide)]
  | succ r ih =>
    intro h f β hh hf hb hd hp
    obtain ⟨f, rfl⟩ : ∃ z, f = z + 1 := ⟨f - 1, by omega⟩
    have hlt : ¬ (24 : Int32) ≤ Int32.ofNat h := by
      rw [show (24 : Int32) = Int32.ofNat 24 from rfl, ofN_le (by omega) (by omega)]
      omega
    have i1 : inb (Int32.ofNat h) 24 := ofN_inb (by omega) (by omega)
    have i2 : ixn (Int32.ofNat h) = h := ofN_ix (by omega)
    have hle := heldS_le hT h (by omega)
    obtain ⟨b1, b2⟩ := hb h (by omega)
    obtain ⟨⟨⟨k1, k2, k3⟩, k4⟩, k5⟩ := bestJ_ok hT (show h < 24 by omega) hle
    have ef := c_firstBest hC h900 hsz hT (show h < 24 by omega) hle b1 b2 (fun c' hc' => by have := hd (h + 1) (by omega) c' hc'; rw [show 24 - (h + 1) = 23 - h by omega] at this; exact this)
    have en : Int32.ofNat (heldS cr nd pr sz h) + dI (bestJ cr nd pr sz h (heldS cr nd pr sz h)) = Int32.ofNat (heldS cr nd pr sz (h + 1)) := dI_n (by omega) (by omega) k1
    obtain ⟨β1, p1, p2, p3⟩ := ih (h + 1) f (up2 β (x + 17) h (boS nd sz h (bestJ cr nd pr sz h (heldS cr nd pr sz h)))) (by omega) (by omega) (fun j hj => by rw [up2_at, if_neg (by omega), up2_at, if_neg (by omega)]; exact hb j hj) (fun h' hh' c' hc' => by rw [up2_at, if_neg (by omega)]; exact hd h' hh' c' hc') (fun j hj => by
      rw [up2_at]
      by_cases z : j = h
      · rw [if_pos ⟨rfl, z⟩, z]
      · rw [if_neg (fun k => z k.2)]
        exact hp j (by omega))
    refine ⟨β1, ?_, p2, fun a z => ?_⟩
    · rw [← p1]
      conv => lhs; unfold F_X8_plan_p103
      have eb : nd h + (dI (bestJ cr nd pr sz h (heldS cr nd pr sz h))).toInt64 * sz = boS nd sz h (bestJ cr nd pr sz h (heldS cr nd pr sz h)) := rfl
      simp only [if_neg hlt, ef, cl_some, gR_ZB, gK_ZB, gN_ZB, gB_ZB, gI_ZB, hC.r902, lr_some hC.k17, hC.n17, hC.r903, lr_some hC.k18, hC.n18, grd_pos i1, i2, b1, hsz, eb, bnd, sB_ZB, en, ofN_succ]
    · rw [p3 a z]
      funext j
      rw [up2_at, if_neg (fun k => z k.1)]
/-- the class's best day -/
theorem c_plan {x o hr : Nat} {M W : Mem} (hC : CSh x M) (hI : MI o W) {ha : Nat → Nat} (hHo : HoR x M o W ha) (hTo : ToR x M o W) (hhr : hr ≤ 20000) {cr : Nat} {sz : Int64} (h900 : gI M 900 (x + 16) = Int32.ofNat cr) (hsz : (gI M 901 (x + 16)).toInt64 = sz) (hT : TK cr (ndS W o hr) (prS W o hr) sz) (h45 : ∀ c, c < 10 → gB M (x + 45) c = 0) :
    ∃ β, F_X8_plan M (x + 16) (x + 1) (Int32.ofNat hr) = some (ZB M β, ()) ∧ (∀ j, j < 24 → β (x + 17) j = boS (ndS W o hr) sz j (bestJ cr (ndS W o hr) (prS W o hr) sz j (heldS cr (ndS W o hr) (prS W o hr) sz j))) ∧ β (x + 21) 0 = tkL cr (ndS W o hr) (prS W o hr) sz 24 0 ∧ (∀ a, ¬ (x + 17 ≤ a ∧ a < x + 45) → β a = gB M a) := by
  have hcr := hT.1
  obtain ⟨β1, p1, p2, p3⟩ := c_plan_needs hC hI hHo hTo hhr F_X8_plan_p44 24 0 FU (gB M) (by omega) (by unfold FU; omega) (fun j hj => by omega)
  obtain ⟨β2, q1, q2, q3⟩ := c_plan_rows hC h900 hsz hT F_X8_plan_p98 24 FU β1 (Nat.le_refl _) (by unfold FU; omega) p2 (fun h' h1 h2 c' hc' => by
    have : h' = 24 := by omega
    subst this
    rw [p3 _ (by omega) (by omega)]
    exact h45 c' (by omega))
  obtain ⟨β3, r1, r2, r3⟩ := c_plan_path hC h900 hsz hT F_X8_plan_p154 24 0 FU β2 (by omega) (by unfold FU; omega) (fun j hj => by rw [q3 _ (by omega), q3 _ (by omega)]; exact p2 j hj) q2 (fun j hj => by omega)
  refine ⟨β3, ?_, r2, ?_, fun a z => ?_⟩
  · have p1 : F_X8_plan M (x + 16) (x + 1) (Int32.ofNat hr) = F_X8_plan_p44 (ZB M β1) (x + 16) := p1
    rw [p1]
    exact Eq.trans q1 r1
  · rw [r3 _ (by omega)]
    exact q2 0 (by omega) 0 (by omega)
  · rw [r3 a (by omega), q3 a (by omega), p3 a (by omega) (by omega)]
