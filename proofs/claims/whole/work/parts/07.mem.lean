-- ===== rows that read and write the memory =====
theorem Le.same {M0 M M1 : Mem} (h : Le M0 M) (hK : gK M1 = gK M) (hH : gH M1 = gH M) (hS : gS M1 = gS M) (hE : gE M1 = gE M) : Le M0 M1 :=
  ⟨by rw [hH]; exact h.1, by rw [hS]; exact h.2.1, fun q hq => h.2.2.1 q (by unfold ownM at hq ⊢; rw [hK, hH] at hq; exact hq), fun a ha => by rw [hK]; exact h.2.2.2.1 a ha, by rw [hE]; exact h.2.2.2.2⟩
theorem PW.setf {D : va_G} {ac : Nat → ClassId} {M M1 : Mem} {H H1 : Heap} {a c : Nat} (h : PW D ac M H) (ha : gK M a = c + 1) (hc : c < 14)
    (e : gK M1 = gK M ∧ gN M1 = gN M ∧ gA M1 = gA M ∧ gB M1 = gB M ∧ gO M1 = gO M ∧ gH M1 = gH M)
    (hv : ∀ x d j, x ≠ a → fv M1 d j x = fv M d j x) (z : H1.size = H.size) (oq : ∀ q : Nat, q ≠ a → H1[q]? = H[q]?) (hob : t_OB a (D.1 c) (nfl c) (D.2 c) H1 (fun j => fv M1 c j a)) : PW D ac M1 H1 := by
  obtain ⟨e1, e2, e3, e4, e5, e6⟩ := e
  have ne : ∀ x, 20 ≤ gK M x → x ≠ a := fun x hx h2 => by rw [h2, ha] at hx; omega
  refine ⟨by rw [z, e6]; exact h.1, by rw [e1, e6]; exact h.2.1, ?_, ?_, ?_, ?_, ?_, ?_⟩
  · intro x d hd hd14
    rw [e1] at hd
    by_cases hx : x = a
    · subst hx
      have hdc : d = c := by omega
      subst hdc
      exact hob
    · exact ((h.2.2.1 x d hd hd14).kept (oq x hx)).to (fun j _ => (hv x d j hx).symm)
  · intro x hx
    rw [e1] at hx
    rw [oq x (ne x (by omega)), e2, e3]
    exact h.2.2.2.1 x hx
  · intro x hx
    rw [e1] at hx
    rw [oq x (ne x (by omega)), e2, e4]
    exact h.2.2.2.2.1 x hx
  · intro x hx
    rw [e1] at hx
    rw [oq x (ne x (by omega)), e2, e3]
    exact h.2.2.2.2.2.1 x hx
  · intro x hx
    rw [e1] at hx
    rw [oq x (ne x (by omega)), e2, e5]
    exact h.2.2.2.2.2.2.1 x hx
  · intro x hx
    rw [e1] at hx
    rw [oq x (ne x (by omega)), e2, e5]
    exact h.2.2.2.2.2.2.2 x hx
theorem fv_same {M M1 : Mem} (e1 : gI M1 = gI M) (e2 : gJ M1 = gJ M) (e3 : gR M1 = gR M) (c k a : Nat) : fv M1 c k a = fv M c k a := by
  unfold fv
  rw [e1, e2, e3]
theorem PW.seta {D : va_G} {ac : Nat → ClassId} {M M1 : Mem} {H H1 : Heap} {a : Nat} (h : PW D ac M H) (ha : 20 ≤ gK M a)
    (e : gK M1 = gK M ∧ gN M1 = gN M ∧ gI M1 = gI M ∧ gJ M1 = gJ M ∧ gR M1 = gR M ∧ gH M1 = gH M)
    (hx : ∀ x, x ≠ a → gA M1 x = gA M x ∧ gB M1 x = gB M x ∧ gO M1 x = gO M x) (z : H1.size = H.size) (oq : ∀ q : Nat, q ≠ a → H1[q]? = H[q]?)
    (h0 : gK M a = 20 → H1[a]? = some (vp_cell (ac 0) (gN M a, .inl (gA M1 a)))) (h1 : gK M a = 21 → H1[a]? = some (vp_cell (ac 1) (gN M a, .inr (.inl (gB M1 a)))))
    (h2 : gK M a = 22 → H1[a]? = some (vp_cell (ac 2) (gN M a, .inl (gA M1 a)))) (h3 : gK M a = 23 → H1[a]? = some (vp_cell (ac 3) (gN M a, .inr (.inr (.inr (.inr (gO M1 a)))))))
    (h4 : gK M a = 24 → H1[a]? = some (vp_cell (ac 4) (gN M a, .inr (.inr (.inr (.inr (gO M1 a))))))) : PW D ac M1 H1 := by
  obtain ⟨e1, e2, e3, e4, e5, e6⟩ := e
  refine ⟨by rw [z, e6]; exact h.1, by rw [e1, e6]; exact h.2.1, ?_, ?_, ?_, ?_, ?_, ?_⟩
  · intro x d hd hd14
    rw [e1] at hd
    have hxa : x ≠ a := fun h9 => by rw [h9] at hd; omega
    exact ((h.2.2.1 x d hd hd14).kept (oq x hxa)).to (fun j _ => (fv_same e3 e4 e5 d j x).symm)
  · intro x hk
    rw [e1] at hk
    by_cases hxa : x = a
    · subst hxa
      rw [e2]
      exact h0 hk
    · rw [oq x hxa, e2, (hx x hxa).1]
      exact h.2.2.2.1 x hk
  · intro x hk
    rw [e1] at hk
    by_cases hxa : x = a
    · subst hxa
      rw [e2]
      exact h1 hk
    · rw [oq x hxa, e2, (hx x hxa).2.1]
      exact h.2.2.2.2.1 x hk
  · intro x hk
    rw [e1] at hk
    by_cases hxa : x = a
    · subst hxa
      rw [e2]
      exact h2 hk
    · rw [oq x hxa, e2, (hx x hxa).1]
      exact h.2.2.2.2.2.1 x hk
  · intro x hk
    rw [e1] at hk
    by_cases hxa : x = a
    · subst hxa
      rw [e2]
      exact h3 hk
    · rw [oq x hxa, e2, (hx x hxa).2.2]
      exact h.2.2.2.2.2.2.1 x hk
  · intro x hk
    rw [e1] at hk
    by_cases hxa : x = a
    · subst hxa
      rw [e2]
      exact h4 hk
    · rw [oq x hxa, e2, (hx x hxa).2.2]
      exact h.2.2.2.2.2.2.2 x hk
/-- the heap grew behind the memory's cells by one cell: of a kind k at its end -/
theorem PW.grow {D : va_G} {ac : Nat → ClassId} {M M1 : Mem} {H H1 : Heap} (h : PW D ac M H) {k : Nat} (hk0 : k ≠ 0) (eK : gK M1 = up1 (gK M) (gH M) k) (eH : gH M1 = gH M + 1)
    (eN : ∀ x, x ≠ gH M → gN M1 x = gN M x) (eA : ∀ x, x ≠ gH M → gA M1 x = gA M x) (eB : ∀ x, x ≠ gH M → gB M1 x = gB M x) (eO : ∀ x, x ≠ gH M → gO M1 x = gO M x)
    (hv : ∀ x d j, x ≠ gH M → fv M1 d j x = fv M d j x) (z : H1.size = H.size + 1) (oq : ∀ q : Nat, q < H.size → H1[q]? = H[q]?)
    (hob : ∀ c, k = c + 1 → c < 14 → t_OB (gH M) (D.1 c) (nfl c) (D.2 c) H1 (fun j => fv M1 c j (gH M)))
    (h0 : k = 20 → H1[gH M]? = some (vp_cell (ac 0) (gN M1 (gH M), .inl (gA M1 (gH M))))) (h1 : k = 21 → H1[gH M]? = some (vp_cell (ac 1) (gN M1 (gH M), .inr (.inl (gB M1 (gH M))))))
    (h2 : k = 22 → H1[gH M]? = some (vp_cell (ac 2) (gN M1 (gH M), .inl (gA M1 (gH M))))) (h3 : k = 23 → H1[gH M]? = some (vp_cell (ac 3) (gN M1 (gH M), .inr (.inr (.inr (.inr (gO M1 (gH M))))))))
    (h4 : k = 24 → H1[gH M]? = some (vp_cell (ac 4) (gN M1 (gH M), .inr (.inr (.inr (.inr (gO M1 (gH M)))))))) : PW D ac M1 H1 := by
  have key : ∀ x, gK M1 x ≠ 0 → x ≠ gH M → gK M1 x = gK M x ∧ H1[x]? = H[x]? := fun x hx hn => by
    have e : gK M1 x = gK M x := by rw [eK]; exact if_neg hn
    exact ⟨e, oq x (by rw [h.1]; exact h.2.1 x (by rw [← e]; exact hx))⟩
  have kat : gK M1 (gH M) = k := by rw [eK]; exact if_pos rfl
  refine ⟨by rw [z, h.1, eH], ?_, ?_, ?_, ?_, ?_, ?_, ?_⟩
  · intro x hx
    by_cases hn : x = gH M
    · omega
    · have := h.2.1 x (by rw [← (key x hx hn).1]; exact hx)
      omega
  · intro x d hd hd14
    by_cases hn : x = gH M
    · subst hn
      exact hob d (kat.symm.trans hd) hd14
    · obtain ⟨g1, g2⟩ := key x (by omega) hn
      exact ((h.2.2.1 x d (g1.symm.trans hd) hd14).kept g2).to (fun j _ => (hv x d j hn).symm)
  · intro x hx
    by_cases hn : x = gH M
    · subst hn
      exact h0 (kat.symm.trans hx)
    · obtain ⟨g1, g2⟩ := key x (by omega) hn
      rw [g2, eN x hn, eA x hn]
      exact h.2.2.2.1 x (g1.symm.trans hx)
  · intro x hx
    by_cases hn : x = gH M
    · subst hn
      exact h1 (kat.symm.trans hx)
    · obtain ⟨g1, g2⟩ := key x (by omega) hn
      rw [g2, eN x hn, eB x hn]
      exact h.2.2.2.2.1 x (g1.symm.trans hx)
  · intro x hx
    by_cases hn : x = gH M
    · subst hn
      exact h2 (kat.symm.trans hx)
    · obtain ⟨g1, g2⟩ := key x (by omega) hn
      rw [g2, eN x hn, eA x hn]
      exact h.2.2.2.2.2.1 x (g1.symm.trans hx)
  · intro x hx
    by_cases hn : x = gH M
    · subst hn
      exact h3 (kat.symm.trans hx)
    · obtain ⟨g1, g2⟩ := key x (by omega) hn
      rw [g2, eN x hn, eO x hn]
      exact h.2.2.2.2.2.2.1 x (g1.symm.trans hx)
  · intro x hx
    by_cases hn : x = gH M
    · subst hn
      exact h4 (kat.symm.trans hx)
    · obtain ⟨g1, g2⟩ := key x (by omega) hn
      rw [g2, eN x hn, eO x hn]
      exact h.2.2.2.2.2.2.2 x (g1.symm.trans hx)
/-- after growth: what the memory says of itself -/
theorem Le.grow {M0 M M1 : Mem} (h : Le M0 M) (hb : ∀ a, gK M a ≠ 0 → a < gH M) {k n : Nat} (eK : gK M1 = up1 (gK M) (gH M) k) (eH : gH M1 = gH M + 1) (eS : gS M1 = gS M + n) (eE : gE M1 = gE M) : Le M0 M1 := by
  refine ⟨by rw [eH]; have := h.1; omega, by rw [eS]; have := h.2.1; omega, fun q hq => ?_, fun a ha => ?_, by rw [eE]; exact h.2.2.2.2⟩
  · unfold ownM at hq
    rw [eK, eH] at hq
    rcases hq with hq | hq
    · by_cases hn : q = gH M
      · exact h.2.2.1 q (Or.inr (by omega))
      · exact h.2.2.1 q (Or.inl (by rw [up1, if_neg hn] at hq; exact hq))
    · exact h.2.2.1 q (Or.inr (by omega))
  · have e := h.2.2.2.1 a ha
    have := hb a (by rw [e]; exact ha)
    rw [eK, up1, if_neg (by omega)]
    exact e
theorem kinds_grow {M M1 : Mem} {Kf : List (Nat × Nat)} {k : Nat} (hb : ∀ a, gK M a ≠ 0 → a < gH M) (eK : gK M1 = up1 (gK M) (gH M) k) (h : ∀ q ∈ Kf, gK M q.1 = q.2 ∧ q.2 ≠ 0) : ∀ q ∈ Kf, gK M1 q.1 = q.2 := fun q hq => by
  have e := h q hq
  have := hb q.1 (by rw [e.1]; exact e.2)
  rw [eK, up1, if_neg (by omega)]
  exact e.1
