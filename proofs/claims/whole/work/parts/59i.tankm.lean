theorem dI_N {c j : Nat} (hc : c ≤ 1000) (h : j ≤ 7) (h3 : 3 ≤ c + j) : Int32.ofNat c + dI j = Int32.ofNat (c + j - 3) := by
  apply i32_ext
  rw [i32_add (by rw [ofN_toInt (by omega), dI_t h]; omega) (by rw [ofN_toInt (by omega), dI_t h]; omega), ofN_toInt (by omega), dI_t h, ofN_toInt (by omega)]
  omega
/-- what the model's tank rests on -/
def TM (o hr : Nat) (W : Mem) (cr : Nat) (sz : Int64) : Prop := MI o W ∧ gI W 1301 o = Int32.ofNat hr ∧ hr ≤ 20000 ∧ gI W 1334 o = Int32.ofNat cr ∧ (gI W 1335 o).toInt64 = sz ∧ TK cr (ndS W o hr) (prS W o hr) sz
theorem m_boughtIn {o hr cr : Nat} {W : Mem} {sz : Int64} (hT : TM o hr W cr sz) (β : Nat → Nat → Int64) {i : Nat} (hi : i < 24) (j : Nat) : F_X12_boughtIn (ZB W β) o (Int32.ofNat i) (dI j) = some (ZB W β, boS (ndS W o hr) sz i j) := by
  obtain ⟨hI, h1, h2, h3, h4, h5⟩ := hT
  have e0 : Int32.ofNat hr + Int32.ofNat i = Int32.ofNat (hr + i) := (Int32.ofNat_add hr i).symm
  have e1 : F_X12_needOf (ZB W β) o (Int32.ofNat (hr + i)) = some (ZB W β, ndS W o hr i) := m_needOf (M := ZB W β) hI.sh hI.nh hI.nh20 (by omega)
  unfold F_X12_boughtIn
  rw [gI_ZB, h1, e0, e1, cl_some, gI_ZB, h4]
  rfl
theorem m_costIn {o hr cr : Nat} {W : Mem} {sz : Int64} (hT : TM o hr W cr sz) (β : Nat → Nat → Int64) {i : Nat} (hi : i < 24) (j : Nat) : F_X12_costIn (ZB W β) o (Int32.ofNat i) (dI j) = some (ZB W β, coS (ndS W o hr) (prS W o hr) sz i j) := by
  have e := m_boughtIn hT β hi j
  obtain ⟨hI, h1, h2, h3, h4, h5⟩ := hT
  have hS := hI.sh
  have e0 : Int32.ofNat hr + Int32.ofNat i = Int32.ofNat (hr + i) := (Int32.ofNat_add hr i).symm
  have i1 : inb (Int32.ofNat ((hr + i) % 24)) 24 := ofN_inb (by omega) (by omega)
  have i2 : ixn (Int32.ofNat ((hr + i) % 24)) = (hr + i) % 24 := ofN_ix (by omega)
  unfold F_X12_costIn
  rw [e, cl_some]
  simp only [gR_ZB, gK_ZB, gN_ZB, gA_ZB, gI_ZB, hS.r1325, lr_some hS.k21, hS.n21, h1, e0, m24 (show hr + i < 2147483648 by omega), grd_pos i1, i2]
  rfl
theorem m_mayBe {o hr cr : Nat} {W : Mem} {sz : Int64} (hT : TM o hr W cr sz) (β : Nat → Nat → Int64) {i c j : Nat} (hi : i < 24) (hc : c ≤ cr) (hj : j ≤ 6) : F_X12_mayBe (ZB W β) o (Int32.ofNat i) (Int32.ofNat c) (dI j) = some (ZB W β, if fea cr (ndS W o hr) sz i c j then 1 else 0) := by
  have e := m_boughtIn hT β hi j
  obtain ⟨hI, h1, h2, h3, h4, h5⟩ := hT
  have hcr := h5.1
  have hd := dI_c (show c ≤ 9 by omega) (show j ≤ 7 by omega)
  have z1 : ((0 : Int64) ≤ (Int32.ofNat c + dI j).toInt64 ∧ (Int32.ofNat c + dI j).toInt64 ≤ (Int32.ofNat cr).toInt64) ↔ (3 ≤ c + j ∧ c + j ≤ cr + 3) := by
    rw [i64_le, i64_le, Int32.toInt_toInt64, Int32.toInt_toInt64, hd, ofN_toInt (by omega), z64]
    omega
  unfold F_X12_mayBe F_X12_mayBe_p31 F_X12_mayBe_p32
  rw [m_in, cl_some, gI_ZB, h3]
  by_cases c1 : 3 ≤ c + j ∧ c + j ≤ cr + 3
  · rw [if_pos (z1.mpr c1), if_neg (show ¬ (1 : Int32) = 0 by decide), e, cl_some]
    dsimp only
    by_cases c3 : 0 ≤ (boS (ndS W o hr) sz i j).toInt
    · rw [if_neg (fun k => by have := i64_lt.mp ((lg_cmp_lt _ _).mp k); rw [z64] at this; omega), if_pos ⟨c1.1, c1.2, c3⟩, grd_pos (Or.inr rfl)]
    · rw [if_pos ((lg_cmp_lt _ _).mpr (i64_lt.mpr (by rw [z64]; omega))), if_neg (fun k => c3 k.2.2), grd_pos (Or.inl rfl)]
  · rw [if_neg (fun k => c1 (z1.mp k)), if_pos rfl, if_neg (fun k => c1 ⟨k.1, k.2.1⟩), grd_pos (Or.inl rfl)]
theorem m_p97 (k50 : Mem → Nat → Int32 → Int32 → Int64 → Int32 → Option (Mem × Unit)) (M : Mem) (x0 : Nat) (x1 x2 : Int32) (x3 : Int64) (x5 : Int32) (y0 : Int64) : F_X12_plans_p97 k50 M x0 x1 x2 x3 x5 y0 = k50 M x0 x1 x2 (mn y0 x3) (x5 + 1) := by
  unfold F_X12_plans_p97 F_X12_plans_p112 mn
  by_cases c : y0 < x3
  · rw [if_neg (fun k => absurd ((lg_cmp_ge _ _).mp k) (Int64.not_le.mpr c)), if_pos c]
    rfl
  · rw [if_pos ((lg_cmp_ge _ _).mpr (Int64.not_lt.mp c)), if_neg c]
    rfl
theorem ix10 {i : Nat} : (10 : Int32) * (Int32.ofNat i + 1) = Int32.ofNat (10 * (i + 1)) := by
  rw [ofN_succ, show (10 : Int32) = Int32.ofNat 10 from rfl, ofN_mulk]
theorem ix10' {i : Nat} : (10 : Int32) * Int32.ofNat i = Int32.ofNat (10 * i) := by
  rw [show (10 : Int32) = Int32.ofNat 10 from rfl, ofN_mulk]
theorem m_least_loop {o hr cr : Nat} {W : Mem} {sz : Int64} (hT : TM o hr W cr sz) {β : Nat → Nat → Int64} {i c : Nat} (hi : i < 24) (hc : c ≤ cr) {nx : Nat → Int64} (hnx : ∀ c', c' ≤ cr → β (o + 43) (10 * (i + 1) + c') = nx c') (kk : Mem → Nat → Int32 → Int32 → Int64 → Option (Mem × Unit)) : ∀ (r j f : Nat) (v : Int64), j + r = 7 → r < f → F_X12_plans_p50 kk f (ZB W β) o (Int32.ofNat i) (Int32.ofNat c) v (dI j) = kk (ZB W β) o (Int32.ofNat i) (Int32.ofNat c) (minR (mvS cr (ndS W o hr) (prS W o hr) sz i nx c) r j v) := by
  have hS := hT.1.sh
  have hcr := hT.2.2.2.2.2.1
  intro r
  induction r with
  | zero =>
    intro j f v hj hf
    obtain ⟨f, rfl⟩ : ∃ z, f = z + 1 := ⟨f - 1, by omega⟩
    have : j = 7 := by omega
    subst this
    unfold F_X12_plans_p50
    rw [if_pos dI_7]
    rfl
  | succ r ih =>
    intro j f v hj hf
    obtain ⟨f, rfl⟩ : ∃ z, f = z + 1 := ⟨f - 1, by omega⟩
    rw [minR_succ, ← ih (j + 1) f _ (by omega) (by omega), ← dI_s]
    have e1 := m_mayBe hT β hi hc (show j ≤ 6 by omega)
    conv => lhs; unfold F_X12_plans_p50
    rw [if_neg (dI_lt (show j ≤ 6 by omega)), e1, cl_some]
    by_cases hf : fea cr (ndS W o hr) sz i c j
    · have i5 : inb (Int32.ofNat (10 * (i + 1) + c + j - 3)) 250 := ofN_inb (by omega) (by have := hf.2.1; omega)
      have i6 : ixn (Int32.ofNat (10 * (i + 1) + c + j - 3)) = 10 * (i + 1) + (c + j - 3) := by
        rw [ofN_ix (by omega)]
        have := hf.1
        omega
      have e5 : (10 : Int32) * (Int32.ofNat i + 1) + Int32.ofNat c + dI j = Int32.ofNat (10 * (i + 1) + c + j - 3) := by
        rw [ix10, ← Int32.ofNat_add]
        exact dI_N (by omega) (by omega) (by omega)
      have em : mvS cr (ndS W o hr) (prS W o hr) sz i nx c j = coS (ndS W o hr) (prS W o hr) sz i j + nx (c + j - 3) := if_pos hf
      rw [if_pos hf, if_neg (show ¬ (1 : Int32) = 0 by decide), m_costIn hT β hi j, cl_some, gR_ZB, gK_ZB, hS.r1356, lr_some hS.k43, e5, gN_ZB, hS.n43, grd_pos i5, gB_ZB, i6, hnx (c + j - 3) (by have := hf.2.1; omega), m_p97, em]
    · have em : mvS cr (ndS W o hr) (prS W o hr) sz i nx c j = 9223372036854775807 := if_neg hf
      rw [if_neg hf, if_pos rfl, m_p97, em]
theorem m_plan_row {o hr cr : Nat} {W : Mem} {sz : Int64} (hT : TM o hr W cr sz) {h : Nat} (hh : h < 24) (kk : Mem → Nat → Int32 → Option (Mem × Unit)) : ∀ (r c f : Nat) (β : Nat → Nat → Int64), c + r = cr + 1 → r < f → (∀ c', c' ≤ cr → β (o + 43) (10 * (h + 1) + c') = tkL cr (ndS W o hr) (prS W o hr) sz (23 - h) c') → (∀ c', c' < c → β (o + 43) (10 * h + c') = tkL cr (ndS W o hr) (prS W o hr) sz (24 - h) c') →
    ∃ β1, F_X12_plans_p34 kk f (ZB W β) o (Int32.ofNat h) (Int32.ofNat c) = kk (ZB W β1) o (Int32.ofNat h) ∧ (∀ c', c' ≤ cr → β1 (o + 43) (10 * h + c') = tkL cr (ndS W o hr) (prS W o hr) sz (24 - h) c') ∧ (∀ k, ¬ (10 * h ≤ k ∧ k < 10 * h + 10) → β1 (o + 43) k = β (o + 43) k) ∧ ∀ a, ¬ a = o + 43 → β1 a = β a := by
  have hS := hT.1.sh
  have hcr := hT.2.2.2.2.2.1
  have h34 := hT.2.2.2.1
  intro r
  induction r with
  | zero =>
    intro c f β hc hf _ hd
    obtain ⟨f, rfl⟩ : ∃ z, f = z + 1 := ⟨f - 1, by omega⟩
    refine ⟨β, ?_, fun c' hc' => hd c' (by omega), fun _ _ => rfl, fun _ _ => rfl⟩
    unfold F_X12_plans_p34
    rw [gI_ZB, h34, if_pos ((ofN_lt (by omega) (by omega)).mpr (by omega))]
  | succ r ih =>
    intro c f β hc hf hnx hd
    obtain ⟨f, rfl⟩ : ∃ z, f = z + 1 := ⟨f - 1, by omega⟩
    have i3 : inb (Int32.ofNat (10 * h + c)) 250 := ofN_inb (by omega) (by omega)
    have i4 : ixn (Int32.ofNat (10 * h + c)) = 10 * h + c := ofN_ix (by omega)
    have el := m_least_loop hT hh (show c ≤ cr by omega) hnx (F_X12_plans_p119 (F_X12_plans_p34 kk f)) 7 0 FU 9223372036854775807 (by omega) (by unfold FU; omega)
    have eL : minR (mvS cr (ndS W o hr) (prS W o hr) sz h (tkL cr (ndS W o hr) (prS W o hr) sz (23 - h)) c) 7 0 9223372036854775807 = tkL cr (ndS W o hr) (prS W o hr) sz (24 - h) c := by
      rw [show 24 - h = (23 - h) + 1 by omega]
      show _ = minR (mvS cr _ _ sz (23 - (23 - h)) _ c) 7 0 _
      rw [show 23 - (23 - h) = h by omega]
    rw [eL, dI_0] at el
    obtain ⟨β1, p1, p2, p3, p4⟩ := ih (c + 1) f (up2 β (o + 43) (10 * h + c) (tkL cr (ndS W o hr) (prS W o hr) sz (24 - h) c)) (by omega) (by omega) (fun c' hc' => by rw [up2_at, if_neg (by omega)]; exact hnx c' hc') (fun c' hc' => by
      rw [up2_at]
      by_cases z : c' = c
      · rw [if_pos ⟨rfl, by omega⟩, z]
      · rw [if_neg (fun k => z (by have := k.2; omega))]
        exact hd c' (by omega))
    refine ⟨β1, ?_, p2, fun k z => ?_, fun a z => ?_⟩
    · rw [← p1]
      conv => lhs; unfold F_X12_plans_p34
      rw [gI_ZB, h34, if_neg (by rw [ofN_lt (by omega) (by omega)]; omega), el]
      unfold F_X12_plans_p119
      rw [gR_ZB, gK_ZB, hS.r1356, lr_some hS.k43, ix10', ← Int32.ofNat_add, gN_ZB, hS.n43, grd_pos i3, i4, sB_ZB]
      refine bnd_i ?_
      refine bnd_i ?_
      rw [ofN_succ]
    · rw [p3 k z, up2_at, if_neg (fun q => z (by have := q.2; omega))]
    · rw [p4 a z]
      funext j
      rw [up2_at, if_neg (fun k => z k.1)]
theorem m_plan_rows {o hr cr : Nat} {W : Mem} {sz : Int64} (hT : TM o hr W cr sz) (kk : Mem → Nat → Option (Mem × Unit)) : ∀ (n f : Nat) (β : Nat → Nat → Int64), n ≤ 24 → n < f → (∀ h', n ≤ h' → h' ≤ 24 → ∀ c', c' ≤ cr → β (o + 43) (10 * h' + c') = tkL cr (ndS W o hr) (prS W o hr) sz (24 - h') c') →
    ∃ β1, F_X12_plans_p28 kk f (ZB W β) o (Int32.ofNat n - 1) = kk (ZB W β1) o ∧ (∀ h', h' ≤ 24 → ∀ c', c' ≤ cr → β1 (o + 43) (10 * h' + c') = tkL cr (ndS W o hr) (prS W o hr) sz (24 - h') c') ∧ ∀ a, ¬ a = o + 43 → β1 a = β a := by
  have hcr := hT.2.2.2.2.2.1
  intro n
  induction n with
  | zero =>
    intro f β hn hf hd
    obtain ⟨f, rfl⟩ : ∃ z, f = z + 1 := ⟨f - 1, by omega⟩
    refine ⟨β, ?_, fun h' hh' => hd h' (Nat.zero_le _) hh', fun _ _ => rfl⟩
    unfold F_X12_plans_p28
    rw [if_pos (show Int32.ofNat 0 - 1 < 0 by decide)]
  | succ n ih =>
    intro f β hn hf hd
    obtain ⟨f, rfl⟩ : ∃ z, f = z + 1 := ⟨f - 1, by omega⟩
    obtain ⟨β1, p1, p2, p3, p4⟩ := m_plan_row hT (h := n) (by omega) (F_X12_plans_p137 (F_X12_plans_p28 kk f)) (cr + 1) 0 FU β (by omega) (by unfold FU; omega) (fun c' hc' => by have := hd (n + 1) (Nat.le_refl _) (by omega) c' hc'; rw [show 24 - (n + 1) = 23 - n by omega] at this; exact this) (fun c' hc' => by omega)
    obtain ⟨β2, q1, q2, q3⟩ := ih f β1 (by omega) (by omega) (fun h' h1 h2 c' hc' => by
      by_cases z : h' = n
      · rw [z]
        exact p2 c' hc'
      · rw [p3 _ (by omega)]
        exact hd h' (by omega) h2 c' hc')
    refine ⟨β2, ?_, q2, fun a z => (q3 a z).trans (p4 a z)⟩
    rw [← q1]
    conv => lhs; unfold F_X12_plans_p28
    rw [ofN_pred, if_neg (fun k => by have := i32_lt.mp k; rw [ofN_toInt (by omega)] at this; simp at this; omega)]
    refine Eq.trans p1 ?_
    unfold F_X12_plans_p137
    refine bnd_i ?_
    rw [← Int32.sub_eq_add_neg]
theorem m_first_loop {o hr cr : Nat} {W : Mem} {sz : Int64} (hT : TM o hr W cr sz) {β : Nat → Nat → Int64} {h c : Nat} (hh : h < 24) (hc : c ≤ cr) (hd : ∀ h', h' ≤ 24 → ∀ c', c' ≤ cr → β (o + 43) (10 * h' + c') = tkL cr (ndS W o hr) (prS W o hr) sz (24 - h') c') (kk : Mem → Nat → Int32 → Int32 → Int32 → Option (Mem × Unit)) : ∀ (r j f : Nat), j + r = 7 → r < f → (∃ k, j ≤ k ∧ k < 7 ∧ isBest cr (ndS W o hr) (prS W o hr) sz h c k) → F_X12_plans_p156 kk f (ZB W β) o (Int32.ofNat c) (Int32.ofNat h) (dI j) = kk (ZB W β) o (Int32.ofNat c) (Int32.ofNat h) (dI (fstP (fun j => isBest cr (ndS W o hr) (prS W o hr) sz h c j) r j)) := by
  have hS := hT.1.sh
  have hcr := hT.2.2.2.2.2.1
  intro r
  induction r with
  | zero =>
    intro j f hj hf hex
    obtain ⟨k, h1, h2, -⟩ := hex
    omega
  | succ r ih =>
    intro j f hj hf hex
    obtain ⟨f, rfl⟩ : ∃ z, f = z + 1 := ⟨f - 1, by omega⟩
    have e1 := m_mayBe hT β hh hc (show j ≤ 6 by omega)
    have hnext : ¬ isBest cr (ndS W o hr) (prS W o hr) sz h c j → F_X12_plans_p203 (F_X12_plans_p156 kk f) (ZB W β) o (Int32.ofNat c) (Int32.ofNat h) (dI j) = kk (ZB W β) o (Int32.ofNat c) (Int32.ofNat h) (dI (fstP (fun j => isBest cr (ndS W o hr) (prS W o hr) sz h c j) r (j + 1))) := by
      intro b
      obtain ⟨k, h1, h2, h3⟩ := hex
      unfold F_X12_plans_p203
      refine bnd_i ?_
      rw [dI_s]
      exact ih (j + 1) f (by omega) (by omega) ⟨k, by have : ¬ k = j := fun z => b (z ▸ h3); omega, h2, h3⟩
    conv => lhs; unfold F_X12_plans_p156
    rw [e1, cl_some]
    unfold fstP
    by_cases hf : fea cr (ndS W o hr) sz h c j
    · have i5 : inb (Int32.ofNat (10 * (h + 1) + c + j - 3)) 250 := ofN_inb (by omega) (by have := hf.2.1; omega)
      have i6 : ixn (Int32.ofNat (10 * (h + 1) + c + j - 3)) = 10 * (h + 1) + (c + j - 3) := by
        rw [ofN_ix (by omega)]
        have := hf.1
        omega
      have e5 : (10 : Int32) * (Int32.ofNat h + 1) + Int32.ofNat c + dI j = Int32.ofNat (10 * (h + 1) + c + j - 3) := by
        rw [ix10, ← Int32.ofNat_add]
        exact dI_N (by omega) (by omega) (by omega)
      have i7 : inb (Int32.ofNat (10 * h + c)) 250 := ofN_inb (by omega) (by omega)
      have i8 : ixn (Int32.ofNat (10 * h + c)) = 10 * h + c := ofN_ix (by omega)
      have l1 := hd (h + 1) (by omega) (c + j - 3) (by have := hf.2.1; omega)
      rw [show 24 - (h + 1) = 23 - h by omega] at l1
      have l2 := hd h (by omega) c hc
      rw [if_pos hf, if_neg (show ¬ (1 : Int32) = 0 by decide), m_costIn hT β hh j, cl_some, gR_ZB, gK_ZB, hS.r1356, lr_some hS.k43, e5, gN_ZB, hS.n43, grd_pos i5, lr_some hS.k43, hS.n43, ix10', ← Int32.ofNat_add, grd_pos i7, gB_ZB, i6, i8, l1, l2]
      by_cases b : isBest cr (ndS W o hr) (prS W o hr) sz h c j
      · rw [if_pos b, if_pos ((lg_cmp_eq _ _).mpr b.2)]
      · rw [if_neg b, if_neg (fun k => b ⟨hf, (lg_cmp_eq _ _).mp k⟩)]
        exact hnext b
    · have b : ¬ isBest cr (ndS W o hr) (prS W o hr) sz h c j := fun k => hf k.1
      rw [if_neg hf, if_pos rfl, if_neg b]
      exact hnext b
theorem m_plan_path {o hr cr : Nat} {W : Mem} {sz : Int64} (hT : TM o hr W cr sz) (kk : Mem → Option (Mem × Unit)) : ∀ (r h f : Nat) (β : Nat → Nat → Int64), h + r = 24 → r < f → (∀ h', h' ≤ 24 → ∀ c', c' ≤ cr → β (o + 43) (10 * h' + c') = tkL cr (ndS W o hr) (prS W o hr) sz (24 - h') c') → (∀ j, j < h → β (o + 44) j = boS (ndS W o hr) sz j (bestJ cr (ndS W o hr) (prS W o hr) sz j (heldS cr (ndS W o hr) (prS W o hr) sz j))) →
    ∃ β1, F_X12_plans_p147 kk f (ZB W β) o (Int32.ofNat (heldS cr (ndS W o hr) (prS W o hr) sz h)) (Int32.ofNat h) = kk (ZB W β1) ∧ (∀ j, j < 24 → β1 (o + 44) j = boS (ndS W o hr) sz j (bestJ cr (ndS W o hr) (prS W o hr) sz j (heldS cr (ndS W o hr) (prS W o hr) sz j))) ∧ ∀ a, ¬ a = o + 44 → β1 a = β a := by
  have hS := hT.1.sh
  have hcr := hT.2.2.2.2.2.1
  intro r
  induction r with
  | zero =>
    intro h f β hh hf hd hp
    obtain ⟨f, rfl⟩ : ∃ z, f = z + 1 := ⟨f - 1, by omega⟩
    have : h = 24 := by omega
    subst this
    refine ⟨β, ?_, hp, fun _ _ => rfl⟩
    unfold F_X12_plans_p147
    rw [if_pos (show (24 : Int32) ≤ Int32.ofNat 24 by decide)]
  | succ r ih =>
    intro h f β hh hf hd hp
    obtain ⟨f, rfl⟩ : ∃ z, f = z + 1 := ⟨f - 1, by omega⟩
    have hle := heldS_le hT.2.2.2.2.2 h (by omega)
    obtain ⟨b1, b2⟩ := bestJ_ok hT.2.2.2.2.2 (show h < 24 by omega) hle
    have ef := m_first_loop hT (show h < 24 by omega) hle hd (F_X12_plans_p209 (F_X12_plans_p147 kk f)) 7 0 FU (by omega) (by unfold FU; omega) ⟨_, Nat.zero_le _, b2, b1⟩
    have ef2 : F_X12_plans_p156 (F_X12_plans_p209 (F_X12_plans_p147 kk f)) FU (ZB W β) o (Int32.ofNat (heldS cr (ndS W o hr) (prS W o hr) sz h)) (Int32.ofNat h) (-3 : Int32) = F_X12_plans_p209 (F_X12_plans_p147 kk f) (ZB W β) o (Int32.ofNat (heldS cr (ndS W o hr) (prS W o hr) sz h)) (Int32.ofNat h) (dI (bestJ cr (ndS W o hr) (prS W o hr) sz h (heldS cr (ndS W o hr) (prS W o hr) sz h))) := by
      rw [← dI_0]
      exact ef
    have i1 : inb (Int32.ofNat h) 24 := ofN_inb (by omega) (by omega)
    have i2 : ixn (Int32.ofNat h) = h := ofN_ix (by omega)
    have en : Int32.ofNat (heldS cr (ndS W o hr) (prS W o hr) sz h) + dI (bestJ cr (ndS W o hr) (prS W o hr) sz h (heldS cr (ndS W o hr) (prS W o hr) sz h)) = Int32.ofNat (heldS cr (ndS W o hr) (prS W o hr) sz (h + 1)) := dI_n (by omega) (by omega) b1.1.1
    obtain ⟨β1, p1, p2, p3⟩ := ih (h + 1) f (up2 β (o + 44) h (boS (ndS W o hr) sz h (bestJ cr (ndS W o hr) (prS W o hr) sz h (heldS cr (ndS W o hr) (prS W o hr) sz h)))) (by omega) (by omega) (fun h' hh' c' hc' => by rw [up2_at, if_neg (by omega)]; exact hd h' hh' c' hc') (fun j hj => by
      rw [up2_at]
      by_cases z : j = h
      · rw [if_pos ⟨rfl, z⟩, z]
      · rw [if_neg (fun k => z k.2)]
        exact hp j (by omega))
    refine ⟨β1, ?_, p2, fun a z => ?_⟩
    · rw [← p1]
      conv => lhs; unfold F_X12_plans_p147
      rw [if_neg (by rw [show (24 : Int32) = Int32.ofNat 24 from rfl, ofN_le (by omega) (by omega)]; omega), ef2]
      unfold F_X12_plans_p209
      rw [gR_ZB, gK_ZB, hS.r1357, lr_some hS.k44, m_boughtIn hT β (show h < 24 by omega), cl_some, gN_ZB, hS.n44, grd_pos i1, i2, sB_ZB]
      refine bnd_i ?_
      refine bnd_i ?_
      refine bnd_i ?_
      rw [en, ofN_succ]
    · rw [p3 a z]
      funext j
      rw [up2_at, if_neg (fun k => z k.1)]
theorem m_plan_zero {o : Nat} {W : Mem} (hS : MSh o W) (kk : Mem → Nat → Option (Mem × Unit)) : ∀ (r i f : Nat) (β : Nat → Nat → Int64), i + r = 10 → r < f → (∀ c, c < i → β (o + 43) (240 + c) = 0) → ∃ β1, F_X12_plans_p2 kk f (ZB W β) o (Int32.ofNat i) = kk (ZB W β1) o ∧ (∀ c, c < 10 → β1 (o + 43) (240 + c) = 0) ∧ ∀ a, ¬ a = o + 43 → β1 a = β a := by
  intro r
  induction r with
  | zero =>
    intro i f β hi hf hz
    obtain ⟨f, rfl⟩ : ∃ z, f = z + 1 := ⟨f - 1, by omega⟩
    have : i = 10 := by omega
    subst this
    refine ⟨β, ?_, hz, fun _ _ => rfl⟩
    unfold F_X12_plans_p2
    rw [if_pos (show (10 : Int32) ≤ Int32.ofNat 10 by decide)]
  | succ r ih =>
    intro i f β hi hf hz
    obtain ⟨f, rfl⟩ : ∃ z, f = z + 1 := ⟨f - 1, by omega⟩
    have e0 : (240 : Int32) + Int32.ofNat i = Int32.ofNat (240 + i) := (Int32.ofNat_add 240 i).symm
    have i1 : inb (Int32.ofNat (240 + i)) 250 := ofN_inb (by omega) (by omega)
    have i2 : ixn (Int32.ofNat (240 + i)) = 240 + i := ofN_ix (by omega)
    obtain ⟨β1, p1, p2, p3⟩ := ih (i + 1) f (up2 β (o + 43) (240 + i) 0) (by omega) (by omega) (fun c hc => by
      rw [up2_at]
      by_cases z : c = i
      · rw [if_pos ⟨rfl, by omega⟩]
      · rw [if_neg (fun k => z (by have := k.2; omega))]
        exact hz c (by omega))
    refine ⟨β1, ?_, p2, fun a z => ?_⟩
    · rw [← p1]
      conv => lhs; unfold F_X12_plans_p2
      rw [if_neg (by rw [show (10 : Int32) = Int32.ofNat 10 from rfl, ofN_le (by omega) (by omega)]; omega), gR_ZB, gK_ZB, hS.r1356, lr_some hS.k43, e0, gN_ZB, hS.n43, grd_pos i1, i2, sB_ZB]
      refine bnd_i ?_
      refine bnd_i ?_
      rw [ofN_succ]
    · rw [p3 a z]
      funext j
      rw [up2_at, if_neg (fun k => z k.1)]
/-- the model's best day -/
theorem m_plans {o hr cr : Nat} {W : Mem} {sz : Int64} (hT : TM o hr W cr sz) : ∃ β, F_X12_plans W o = some (ZB W β, ()) ∧ (∀ j, j < 24 → β (o + 44) j = boS (ndS W o hr) sz j (bestJ cr (ndS W o hr) (prS W o hr) sz j (heldS cr (ndS W o hr) (prS W o hr) sz j))) ∧ β (o + 43) 0 = tkL cr (ndS W o hr) (prS W o hr) sz 24 0 ∧ ∀ a, ¬ a = o + 43 → ¬ a = o + 44 → β a = gB W a := by
  have hcr := hT.2.2.2.2.2.1
  obtain ⟨β1, p1, p2, p3⟩ := m_plan_zero hT.1.sh F_X12_plans_p25 10 0 FU (gB W) (by omega) (by unfold FU; omega) (fun c hc => by omega)
  obtain ⟨β2, q1, q2, q3⟩ := m_plan_rows hT F_X12_plans_p143 24 FU β1 (Nat.le_refl _) (by unfold FU; omega) (fun h' h1 h2 c' hc' => by
    have : h' = 24 := by omega
    subst this
    exact p2 c' (by omega))
  obtain ⟨β3, r1, r2, r3⟩ := m_plan_path hT F_X12_plans_p231 24 0 FU β2 (by omega) (by unfold FU; omega) q2 (fun j hj => by omega)
  refine ⟨β3, ?_, r2, ?_, fun a z1 z2 => ?_⟩
  · have p1 : F_X12_plans W o = F_X12_plans_p25 (ZB W β1) o := p1
    rw [p1]
    exact Eq.trans q1 r1
  · rw [r3 _ (by omega)]
    exact q2 0 (by omega) 0 (by omega)
  · rw [r3 a z2, q3 a z1, p3 a z1]
