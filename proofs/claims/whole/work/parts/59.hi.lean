theorem sunR_hi (tk : Nat → Int64) (op : Nat → Int32) : ∀ (r b : Nat) (l : Int64) (h t : Nat → Int64), (∀ i, 8 * (b + r) ≤ i → (sunR tk op r b l h t).2.1 i = h i) ∧ ∀ i, 9 ≤ i → (sunR tk op r b l h t).2.2 i = t i := by
  intro r
  induction r with
  | zero => exact fun b l h t => ⟨fun _ _ => rfl, fun _ _ => rfl⟩
  | succ r ih =>
    intro b l h t
    unfold sunR
    have hstep : ∀ l2 v, (∀ i, 8 * (b + (r + 1)) ≤ i → (sunR tk op r (b + 1) l2 (ad h (8 * b) v) (ad t 0 v)).2.1 i = h i) ∧ ∀ i, 9 ≤ i → (sunR tk op r (b + 1) l2 (ad h (8 * b) v) (ad t 0 v)).2.2 i = t i := by
      intro l2 v
      obtain ⟨i1, i2⟩ := ih (b + 1) l2 (ad h (8 * b) v) (ad t 0 v)
      exact ⟨fun i hi => (i1 i (by omega)).trans (ud_n _ (by omega) _), fun i hi => (i2 i hi).trans (ud_n _ (by omega) _)⟩
    by_cases c : op b = 0
    · rw [if_pos c]
      obtain ⟨i1, i2⟩ := ih (b + 1) l h t
      exact ⟨fun i hi => i1 i (by omega), i2⟩
    · rw [if_neg c]
      by_cases c2 : l ≤ tk b
      · rw [if_pos c2]
        exact hstep _ _
      · rw [if_neg c2]
        exact hstep _ _
theorem metR_hi (gv lf w0 : Nat → Int64) (op : Nat → Int32) : ∀ (r b : Nat) (l p : Int64) (h g t : Nat → Int64), (∀ i, 8 * (b + r) ≤ i → (metR gv lf w0 op r b l p h g t).2.2.1 i = h i) ∧ (∀ i, b + r ≤ i → (metR gv lf w0 op r b l p h g t).2.2.2.1 i = g i) ∧ ∀ i, 9 ≤ i → (metR gv lf w0 op r b l p h g t).2.2.2.2 i = t i := by
  intro r
  induction r with
  | zero => exact fun b l p h g t => ⟨fun _ _ => rfl, fun _ _ => rfl, fun _ _ => rfl⟩
  | succ r ih =>
    intro b l p h g t
    unfold metR
    by_cases c : op b = 0
    · rw [if_pos c]
      obtain ⟨i1, i2, i3⟩ := ih (b + 1) l p h g t
      exact ⟨fun i hi => i1 i (by omega), fun i hi => i2 i (by omega), i3⟩
    · rw [if_neg c]
      by_cases c2 : w0 b ≤ 0
      · rw [if_pos c2]
        obtain ⟨i1, i2, i3⟩ := ih (b + 1) l p h g t
        exact ⟨fun i hi => i1 i (by omega), fun i hi => i2 i (by omega), i3⟩
      · rw [if_neg c2]
        generalize gvG (gv b) (lf b) (h (8 * b)) l = v
        obtain ⟨i1, i2, i3⟩ := ih (b + 1) (l - v * lf b / 100) (p + (v * lf b / 100 - v)) (ud h (8 * b) (h (8 * b) - v)) (ad g b v) (ad (ad t 2 v) 3 (v * lf b / 100))
        refine ⟨fun i hi => (i1 i (by omega)).trans (ud_n _ (by omega) _), fun i hi => (i2 i (by omega)).trans (ud_n _ (by omega) _), fun i hi => (i3 i hi).trans ?_⟩
        show ud (ud t 2 _) 3 _ i = t i
        rw [ud_n _ (by omega), ud_n _ (by omega)]
theorem dl_catR_zero {f : Nat → List (Nat × Int64)} {i : Nat} : ∀ (r a : Nat), (∀ c, a ≤ c → c < a + r → dl (f c) i = 0) → dl (catR f r a) i = 0 := by
  intro r
  induction r with
  | zero => intro a _; rfl
  | succ r ih =>
    intro a h
    rw [catR_succ, dl_append, h a (by omega) (by omega), ih (a + 1) (fun c h1 h2 => h c (by omega) (by omega)), Int64.add_zero]
theorem washT_hi (v : Nat → Int64) {i : Nat} (hi : 9 ≤ i) : ∀ r k, dl (washT v r k) i = 0 := by
  intro r
  induction r with
  | zero => intro k; rfl
  | succ r ih =>
    intro k
    show (if i = 8 then v k else 0) + dl (washT v r (k + 1)) i = 0
    rw [if_neg (by omega), ih, Int64.add_zero]
theorem grdO_hi {o : Nat} {W : Mem} (hI : MI o W) (h : Nat → Int64) {i : Nat} (hi : 64 ≤ i) : dl (grdO W o h) i = 0 := by
  have h8 := hI.nb8
  unfold grdO
  rw [dl_append, dl_catR_zero _ _ (fun c _ hc => ?_), dl_catR_zero _ _ (fun c _ hc => ?_), Int64.add_zero]
  · have hc : c < nbW W o := by omega
    have c8 := hI.rg8 hc
    have c1 := hI.rg1 hc
    refine dl_catR_zero _ _ (fun d _ hd => ?_)
    have hd : d < nbW W o := by omega
    have d8 := hI.rg8 hd
    have d1 := hI.rg1 hd
    unfold pairO
    by_cases hf : 9 < farW W o c d
    · rw [if_pos hf]
      rfl
    · rw [if_neg hf]
      show (if i = 8 * c + (rgW W o c - 1) then _ else 0) + ((if i = 8 * d + (rgW W o d - 1) then _ else 0) + (0 : Int64)) = 0
      rw [if_neg (by omega), if_neg (by omega)]
      rfl
  · have hc : c < nbW W o := by omega
    have c8 := hI.rg8 hc
    have c1 := hI.rg1 hc
    rw [show ownO W o h c = leadO (ldV W o h c) c (rgW W o c - 1) 0 ++ ((8 * c + (rgW W o c - 1), - lostV W o h c) :: washO (washV W o h c) c (rgW W o c) 0) from rfl, dl_append, lead_out _ _ (by omega) (by omega)]
    show (0 : Int64) + ((if i = 8 * c + (rgW W o c - 1) then - lostV W o h c else 0) + dl (washO (washV W o h c) c (rgW W o c) 0) i) = 0
    rw [if_neg (by omega), wash_dl _ _ (by omega), if_neg (by omega)]
    rfl
theorem hourS_hi {o : Nat} {W : Mem} (hI : MI o W) (hr : Nat) (h g t : Nat → Int64) : (∀ i, 64 ≤ i → (hourS W o hr h g t).1 i = h i) ∧ (∀ i, nbW W o ≤ i → (hourS W o hr h g t).2.1 i = g i) ∧ ∀ i, 9 ≤ i → (hourS W o hr h g t).2.2 i = t i := by
  have h8 := hI.nb8
  obtain ⟨s1, s2⟩ := sunR_hi (mayS W o hr h 1) (gA W (o + 10)) (nbW W o) 0 (gA W (o + 22) (hr % 24)).toInt64 h t
  obtain ⟨m1, m2, m3⟩ := metR_hi (mayS W o hr h 0) (fun b => lfS W o (wS W o h b 0)) (fun b => wS W o h b 0) (gA W (o + 10)) (nbW W o) 0 (needW W o hr) 0 (sunS W o hr h t).2.1 g (ad (sunS W o hr h t).2.2 1 (sunS W o hr h t).1)
  refine ⟨fun i hi => ?_, fun i hi => m2 i (by omega), fun i hi => ?_⟩
  · show app (metS W o hr h g t).2.2.1 (grdO W o h) i = h i
    rw [app_dl]
    show (metS W o hr h g t).2.2.1 i + dl (grdO W o h) i = h i
    rw [grdO_hi hI h hi, Int64.add_zero]
    exact (m1 i (by omega)).trans (s1 i (by omega))
  · show app (costS W o hr (metS W o hr h g t)) (grdT W o h) i = t i
    rw [app_dl]
    show costS W o hr (metS W o hr h g t) i + dl (catR (ownT W o h) (nbW W o) 0) i = t i
    rw [dl_catR_zero _ _ (fun c _ hc => ?_), Int64.add_zero]
    · show ud (ud (ud _ 4 _) 5 _) 6 _ i = t i
      rw [ud_n _ (by omega), ud_n _ (by omega), ud_n _ (by omega)]
      refine (m3 i hi).trans ?_
      show ud _ 1 _ i = t i
      rw [ud_n _ (by omega)]
      exact s2 i hi
    · show (if i = 7 then lostV W o h c else 0) + dl (washT (washV W o h c) (rgW W o c) 0) i = 0
      rw [if_neg (by omega), washT_hi _ hi, Int64.add_zero]
theorem stS_hi {o : Nat} {W : Mem} (hI : MI o W) (hr : Nat) (h g t : Nat → Int64) : ∀ k, (∀ i, 64 ≤ i → (stS W o hr h g t k).1 i = h i) ∧ (∀ i, nbW W o ≤ i → (stS W o hr h g t k).2.1 i = g i) ∧ ∀ i, 9 ≤ i → (stS W o hr h g t k).2.2 i = t i := by
  intro k
  induction k with
  | zero => exact ⟨fun _ _ => rfl, fun _ _ => rfl, fun _ _ => rfl⟩
  | succ k ih =>
    obtain ⟨i1, i2, i3⟩ := ih
    obtain ⟨j1, j2, j3⟩ := hourS_hi hI (hr + k) (stS W o hr h g t k).1 (stS W o hr h g t k).2.1 (stS W o hr h g t k).2.2
    exact ⟨fun i hi => (j1 i hi).trans (i1 i hi), fun i hi => (j2 i hi).trans (i2 i hi), fun i hi => (j3 i hi).trans (i3 i hi)⟩
/-- all is as it was but for scratch -/
def BK (o : Nat) (W M : Mem) : Prop := MRM o W M ∧ gI M 1301 o = gI W 1301 o ∧ gA M (o + 10) = gA W (o + 10) ∧ gB M (o + 11) = gB W (o + 11) ∧ gB M (o + 12) = gB W (o + 12) ∧ gB M (o + 13) = gB W (o + 13)
theorem BK.refl {o : Nat} (W : Mem) : BK o W W := ⟨MRM.refl _, rfl, rfl, rfl, rfl, rfl⟩
theorem BK.trans {o : Nat} {W M M1 : Mem} (h : BK o W M) (k : BK o M M1) : BK o W M1 := ⟨h.1.trans k.1, k.2.1.trans h.2.1, k.2.2.1.trans h.2.2.1, k.2.2.2.1.trans h.2.2.2.1, k.2.2.2.2.1.trans h.2.2.2.2.1, k.2.2.2.2.2.trans h.2.2.2.2.2⟩
theorem MRM.msh {o : Nat} {W M : Mem} (h : MRM o W M) (hS : MSh o W) : MSh o M := hS.to h.1 h.2.1 h.2.2.1 h.2.2.2.2.2.1
theorem BK.mi {o : Nat} {W M : Mem} (h : BK o W M) (hI : MI o W) : MI o M := hI.congr (h.1.msh hI.sh) h.1.same (by rw [h.2.2.1]; exact fun b hb => hI.op hb)
theorem m_back {o : Nat} {W M : Mem} (hI : MI o W) (hM : MRM o W M) (hK : KP o W M) (h11 : ∀ i, 64 ≤ i → gB M (o + 11) i = gB W (o + 11) i) (h12 : ∀ i, 8 ≤ i → gB M (o + 12) i = gB W (o + 12) i) (h13 : ∀ i, 9 ≤ i → gB M (o + 13) i = gB W (o + 13) i) (h10 : ∀ i, 8 ≤ i → gA M (o + 10) i = gA W (o + 10) i) : ∃ M1, F_X12_laysBack M o = some (M1, ()) ∧ BK o W M1 ∧ KP o W M1 := by
  obtain ⟨M1, e, q1, q2, q3, q4, q5, q6, q7, z1, z2, z3, z4⟩ := m_laysBack' (hM.msh hI.sh) hK (fun b hb => hI.op hb)
  refine ⟨M1, e, ⟨hM.trans q1, q2, ?_, ?_, ?_, ?_⟩, q7⟩
  · funext i
    by_cases c : i < 8
    · exact q3 i c
    · rw [z1 i (by omega), h10 i (by omega)]
  · funext i
    by_cases c : i < 64
    · exact q4 i c
    · rw [z2 i (by omega), h11 i (by omega)]
  · funext i
    by_cases c : i < 8
    · exact q5 i c
    · rw [z3 i (by omega), h12 i (by omega)]
  · funext i
    by_cases c : i < 9
    · exact q6 i c
    · rw [z4 i (by omega), h13 i (by omega)]
