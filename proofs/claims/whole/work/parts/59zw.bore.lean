/-- one bore of a ground object -/
def BO1 (M : Mem) (o : Nat) (W : Mem) (a : Nat) (r : Nat → Nat) (b : Nat) : Prop := gK M a = 2 ∧ gI M 100 a = Int32.ofNat b ∧ gI M 101 a = gA W (o + 2) b ∧ gI M 102 a = gA W (o + 3) b ∧ gI M 103 a = gA W (o + 7) b ∧ gR M 105 a = some (r 0) ∧ gR M 106 a = some (r (rgW W o b - 1)) ∧ (∃ l, gR M 104 a = some l ∧ LiS M l (rgW W o b) r) ∧ ∀ k, k < rgW W o b → gK M (r k) = 6 ∧ gJ M 500 (r k) = (holdS (gA W (o + 5)) (gA W (o + 6)) b k).toInt64 ∧ gJ M 501 (r k) = firstS (gA W (o + 5)) (gA W (o + 6)) (gA W (o + 7)) b k
theorem BO1.fm {o a b : Nat} {M M1 W : Mem} {r tg : Nat → Nat} {cI cJ cR : Nat → Nat → Prop} {cA cB cO : Nat → Prop} (hB : BO1 M o W a r b) (h : FM M M1 cI cJ cR cA cB cO) (hK : KH M) (hT : ∀ l, gR M 104 a = some l → TG M tg l (rgW W o b)) (h1 : ∀ f y, (f = 2 ∧ gR M 104 a = some y) ∨ f = 100 ∨ f = 101 ∨ f = 102 ∨ f = 103 → ¬ cI f y) (h2 : ∀ f y, (f = 1 ∧ gR M 104 a = some y) ∨ f = 104 ∨ f = 105 ∨ f = 106 → ¬ cR f y) (h3 : ∀ y, gR M 104 a = some (tg y) → ¬ cO y) (h4 : ∀ f y, f = 500 ∨ f = 501 → ¬ cJ f y) : BO1 M1 o W a r b := by
  obtain ⟨c1, c2, c3, c4, c5, c6, c7, ⟨l, c8, c9⟩, c10⟩ := hB
  obtain ⟨-, -, e, -, er, -⟩ := h.2.2 a (FM.lt hK c1 (by omega))
  refine ⟨h.k hK c1 (by omega), ?_⟩
  rw [e 100 (h1 _ _ (by omega)), e 101 (h1 _ _ (by omega)), e 102 (h1 _ _ (by omega)), e 103 (h1 _ _ (by omega)), er 104 (h2 _ _ (by omega)), er 105 (h2 _ _ (by omega)), er 106 (h2 _ _ (by omega))]
  refine ⟨c2, c3, c4, c5, c6, c7, ⟨l, c8, h.lis hK c9 (hT l c8) (h1 _ _ (Or.inl ⟨rfl, c8⟩)) (h2 _ _ (Or.inl ⟨rfl, c8⟩)) (fun y hy => h3 y (by rw [hy]; exact c8))⟩, fun k hk => ?_⟩
  obtain ⟨r1, r2, r3⟩ := c10 k hk
  obtain ⟨-, -, -, ej, -⟩ := h.2.2 (r k) (FM.lt hK r1 (by omega))
  rw [ej 500 (h4 _ _ (by omega)), ej 501 (h4 _ _ (by omega))]
  exact ⟨h.k hK r1 (by omega), r2, r3⟩
theorem BO1.wm {o a b : Nat} {M W W1 : Mem} {r : Nat → Nat} (hB : BO1 M o W a r b) (e2 : gA W1 (o + 2) b = gA W (o + 2) b) (e3 : gA W1 (o + 3) b = gA W (o + 3) b) (e4 : gA W1 (o + 4) b = gA W (o + 4) b) (e5 : gA W1 (o + 5) b = gA W (o + 5) b) (e6 : gA W1 (o + 6) b = gA W (o + 6) b) (e7 : gA W1 (o + 7) b = gA W (o + 7) b) : BO1 M o W1 a r b := by
  unfold BO1 rgW holdS firstS holdS at *
  rw [e2, e3, e4, e5, e6, e7]
  exact hB
/-- the model lays the rings' first heat -/
theorem m_rings {o n R : Nat} {W : Mem} (hS : MSh o W) (hn : n < 8) (hR : R ≤ 8) : ∀ (q k f : Nat) (h : Nat → Int64), k + q = R → q < f → ∃ h1, F_X12_bore_p166 F_X12_bore_p199 f (wB W (o + 11) h) o (Int32.ofNat R) (Int32.ofNat n) (Int32.ofNat k) = some (wB W (o + 11) h1, Int32.ofNat n) ∧ (∀ i, ¬ (8 * n + k ≤ i ∧ i < 8 * n + R) → h1 i = h i) ∧ ∀ j, k ≤ j → j < R → h1 (8 * n + j) = firstS (gA W (o + 5)) (gA W (o + 6)) (gA W (o + 7)) n j := by
  intro q
  induction q with
  | zero =>
    intro k f h hq hf
    obtain ⟨f, rfl⟩ : ∃ z, f = z + 1 := ⟨f - 1, by omega⟩
    refine ⟨h, ?_, fun _ _ => rfl, fun j h1 h2 => absurd h1 (by omega)⟩
    unfold F_X12_bore_p166 F_X12_bore_p199
    rw [if_pos ((ofN_le (by omega) (by omega)).mpr (by omega))]
  | succ q ih =>
    intro k f h hq hf
    obtain ⟨f, rfl⟩ : ∃ z, f = z + 1 := ⟨f - 1, by omega⟩
    obtain ⟨h1, t1, t2, t3⟩ := ih (k + 1) f (ud h (8 * n + k) (firstS (gA W (o + 5)) (gA W (o + 6)) (gA W (o + 7)) n k)) (by omega) (by omega)
    have hS2 : MSh o (wB W (o + 11) h) := hS.to rfl rfl rfl rfl
    refine ⟨h1, ?_, fun i hi => ?_, fun j hj hj2 => ?_⟩
    · conv => lhs; unfold F_X12_bore_p166
      rw [if_neg (fun z => by
        have := (ofN_le (by omega) (by omega)).mp z
        omega), hS2.r1313, lr_some hS2.k11, m_atFirst hS2 hn, cl_some, hS2.n11, i8, grd_pos (ofN_inb (by omega) (by omega)), ofN_ix (by omega)]
      refine bnd_i (bnd_i ?_)
      rw [sB_wB, ofN_succ]
      exact t1
    · rw [t2 i (by omega), ud_n _ (by omega)]
    · by_cases c : j = k
      · rw [c, t2 _ (by omega), ud_s]
      · exact t3 j (by omega) hj2
/-- the model after a bore -/
def BW (W : Mem) (o n : Nat) (q2 q3 R hd st wm : Int32) : Mem := sA (sA (sA (sA (sA (sA (sA (sI W 1302 o (Int32.ofNat (n + 1))) (o + 2) n q2) (o + 3) n q3) (o + 4) n R) (o + 5) n hd) (o + 6) n st) (o + 7) n wm) (o + 10) n 1
theorem bw_a (W : Mem) (o n : Nat) (q2 q3 R hd st wm : Int32) : gA (BW W o n q2 q3 R hd st wm) (o + 2) = ud (gA W (o + 2)) n q2 ∧ gA (BW W o n q2 q3 R hd st wm) (o + 3) = ud (gA W (o + 3)) n q3 ∧ gA (BW W o n q2 q3 R hd st wm) (o + 4) = ud (gA W (o + 4)) n R ∧ gA (BW W o n q2 q3 R hd st wm) (o + 5) = ud (gA W (o + 5)) n hd ∧ gA (BW W o n q2 q3 R hd st wm) (o + 6) = ud (gA W (o + 6)) n st ∧ gA (BW W o n q2 q3 R hd st wm) (o + 7) = ud (gA W (o + 7)) n wm ∧ gA (BW W o n q2 q3 R hd st wm) (o + 10) = ud (gA W (o + 10)) n 1 := by
  have e : ∀ f, gA (sI W 1302 o (Int32.ofNat (n + 1))) f = gA W f := fun _ => rfl
  unfold BW
  refine ⟨?_, ?_, ?_, ?_, ?_, ?_, ?_⟩
  · rw [gA_nf (by omega), gA_nf (by omega), gA_nf (by omega), gA_nf (by omega), gA_nf (by omega), gA_nf (by omega), gA_sf, e]
  · rw [gA_nf (by omega), gA_nf (by omega), gA_nf (by omega), gA_nf (by omega), gA_nf (by omega), gA_sf, gA_nf (by omega), e]
  · rw [gA_nf (by omega), gA_nf (by omega), gA_nf (by omega), gA_nf (by omega), gA_sf, gA_nf (by omega), gA_nf (by omega), e]
  · rw [gA_nf (by omega), gA_nf (by omega), gA_nf (by omega), gA_sf, gA_nf (by omega), gA_nf (by omega), gA_nf (by omega), e]
  · rw [gA_nf (by omega), gA_nf (by omega), gA_sf, gA_nf (by omega), gA_nf (by omega), gA_nf (by omega), gA_nf (by omega), e]
  · rw [gA_nf (by omega), gA_sf, gA_nf (by omega), gA_nf (by omega), gA_nf (by omega), gA_nf (by omega), gA_nf (by omega), e]
  · rw [gA_sf, gA_nf (by omega), gA_nf (by omega), gA_nf (by omega), gA_nf (by omega), gA_nf (by omega), gA_nf (by omega), e]
theorem WM.refl (o : Nat) (W : Mem) (dI dA dB : Nat → Prop) : WM o W W dI dA dB := ⟨rfl, rfl, rfl, rfl, rfl, rfl, rfl, rfl, fun _ _ => rfl, fun _ _ => rfl, fun _ _ => rfl⟩
theorem WM.si {o : Nat} {W W1 : Mem} {dI dA dB : Nat → Prop} (h : WM o W W1 dI dA dB) {f : Nat} (k : dI f) (v : Int32) : WM o W (sI W1 f o v) dI dA dB := by
  obtain ⟨a1, a2, a3, a4, a5, a6, a7, a8, a9, a10, a11⟩ := h
  refine ⟨a1, a2, a3, a4, a5, a6, a7, a8, fun f1 z => ?_, a10, a11⟩
  rw [gI_nf (fun e => z (by rw [e]; exact k))]
  exact a9 f1 z
theorem WM.sa {o : Nat} {W W1 : Mem} {dI dA dB : Nat → Prop} (h : WM o W W1 dI dA dB) {j : Nat} (k : dA j) (i : Nat) (v : Int32) : WM o W (sA W1 (o + j) i v) dI dA dB := by
  obtain ⟨a1, a2, a3, a4, a5, a6, a7, a8, a9, a10, a11⟩ := h
  refine ⟨a1, a2, a3, a4, a5, a6, a7, a8, a9, fun j1 z => ?_, a11⟩
  rw [gA_nf (fun e => z (by rw [show j1 = j by omega]; exact k))]
  exact a10 j1 z
theorem WM.wb {o : Nat} {W W1 : Mem} {dI dA dB : Nat → Prop} (h : WM o W W1 dI dA dB) {j : Nat} (k : dB j) (φ : Nat → Int64) : WM o W (wB W1 (o + j) φ) dI dA dB := by
  obtain ⟨a1, a2, a3, a4, a5, a6, a7, a8, a9, a10, a11⟩ := h
  refine ⟨a1, a2, a3, a4, a5, a6, a7, a8, a9, a10, fun j1 z => ?_⟩
  rw [gB_wB, if_neg (fun e => z (by rw [show j1 = j by omega]; exact k))]
  exact a11 j1 z
theorem bw_wm (W : Mem) (o n : Nat) (q2 q3 R hd st wm : Int32) (φ : Nat → Int64) : WM o W (wB (BW W o n q2 q3 R hd st wm) (o + 11) φ) (fun f => f = 1302) (fun j => j = 2 ∨ j = 3 ∨ j = 4 ∨ j = 5 ∨ j = 6 ∨ j = 7 ∨ j = 10) (fun j => j = 11) := by
  unfold BW
  have h0 := (WM.refl o W (fun f => f = 1302) (fun j => j = 2 ∨ j = 3 ∨ j = 4 ∨ j = 5 ∨ j = 6 ∨ j = 7 ∨ j = 10) (fun j => j = 11)).si (f := 1302) rfl (Int32.ofNat (n + 1))
  generalize sI W 1302 o (Int32.ofNat (n + 1)) = W1 at h0 ⊢
  have h1 := h0.sa (j := 2) (by omega) n q2
  generalize sA W1 (o + 2) n q2 = W2 at h1 ⊢
  have h2 := h1.sa (j := 3) (by omega) n q3
  generalize sA W2 (o + 3) n q3 = W3 at h2 ⊢
  have h3 := h2.sa (j := 4) (by omega) n R
  generalize sA W3 (o + 4) n R = W4 at h3 ⊢
  have h4 := h3.sa (j := 5) (by omega) n hd
  generalize sA W4 (o + 5) n hd = W5 at h4 ⊢
  have h5 := h4.sa (j := 6) (by omega) n st
  generalize sA W5 (o + 6) n st = W6 at h5 ⊢
  have h6 := h5.sa (j := 7) (by omega) n wm
  generalize sA W6 (o + 7) n wm = W7 at h6 ⊢
  have h7 := h6.sa (j := 10) (by omega) n 1
  generalize sA W7 (o + 10) n 1 = W8 at h7 ⊢
  exact h7.wb (j := 11) rfl φ
theorem bw_n (W : Mem) (o n : Nat) (q2 q3 R hd st wm : Int32) : gI (BW W o n q2 q3 R hd st wm) 1302 o = Int32.ofNat (n + 1) := by
  have e : gI (BW W o n q2 q3 R hd st wm) = gI (sI W 1302 o (Int32.ofNat (n + 1))) := by
    unfold BW
    rw [gI_sA, gI_sA, gI_sA, gI_sA, gI_sA, gI_sA, gI_sA]
  rw [e, gI_sI, if_pos ⟨rfl, rfl⟩]
