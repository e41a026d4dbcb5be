theorem i64_neg {x : Int64} (h : -9223372036854775807 ≤ x.toInt) : (-x).toInt = -x.toInt := by
  have h2 := i64_rng x
  rw [Int64.toInt_neg, Int.bmod_def]
  omega
theorem flowV {c : Int32} {u v D : Int64} (hc : bt c 0 999) (hu : -30000000 ≤ u.toInt) (hu2 : u.toInt ≤ 30000000) (hv : -30000000 ≤ v.toInt) (hv2 : v.toInt ≤ 30000000) (hD : 0 < D.toInt) : (c.toInt64 * (u - v) / D).toInt = (c.toInt * (u.toInt - v.toInt)).tdiv D.toInt := by
  have c1 := hc.1
  have c2 := hc.2
  have e1 : (u - v).toInt = u.toInt - v.toInt := i64_sub (by omega) (by omega)
  have m1 : c.toInt * (u.toInt - v.toInt) ≤ 999 * 60000000 := by
    have := Int.mul_le_mul_of_nonneg_left (show u.toInt - v.toInt ≤ 60000000 by omega) c1
    have := Int.mul_le_mul_of_nonneg_right c2 (show (0 : Int) ≤ 60000000 by omega)
    omega
  have m2 : -(999 * 60000000) ≤ c.toInt * (u.toInt - v.toInt) := by
    have := Int.mul_le_mul_of_nonneg_left (show -60000000 ≤ u.toInt - v.toInt by omega) c1
    have := Int.mul_le_mul_of_nonneg_right c2 (show (0 : Int) ≤ 60000000 by omega)
    have : c.toInt * -60000000 = -(c.toInt * 60000000) := Int.mul_neg _ _
    omega
  have e2 : (c.toInt64 * (u - v)).toInt = c.toInt * (u.toInt - v.toInt) := by rw [i64_mul (by rw [e1, Int32.toInt_toInt64]; omega) (by rw [e1, Int32.toInt_toInt64]; omega), e1, Int32.toInt_toInt64]
  rw [i64_div hD, e2]
theorem tdiv_small {x D : Int} (hx : -100000000000 ≤ x) (hx2 : x ≤ 100000000000) (hD : 0 < D) : -100000000000 ≤ x.tdiv D ∧ x.tdiv D ≤ 100000000000 := by
  rcases Int.le_total 0 x with h | h
  · obtain ⟨d1, d2, d3⟩ := tdiv_nn h hD
    have : x.tdiv D * 1 ≤ x.tdiv D * D := Int.mul_le_mul_of_nonneg_left (by omega) d1
    omega
  · obtain ⟨d1, d2, d3⟩ := tdiv_np h hD
    have : x.tdiv D * D ≤ x.tdiv D * 1 := Int.mul_le_mul_of_nonpos_left d1 (by omega)
    omega
/-- a flow between two warmths, with its sign turned too -/
theorem flowV_bt {c : Int32} {u v D : Int64} {C : Int} (hc : bt c 0 999) (hC : C ≤ 30000000) (hu : -C ≤ u.toInt) (hu2 : u.toInt ≤ C) (hv : -C ≤ v.toInt) (hv2 : v.toInt ≤ C) (hD : 100 ≤ D.toInt) :
    (-(999 * (C + v.toInt)) ≤ 100 * (c.toInt64 * (u - v) / D).toInt ∧ 100 * (c.toInt64 * (u - v) / D).toInt ≤ 999 * (C - v.toInt)) ∧ (-(999 * (C + u.toInt)) ≤ 100 * (-(c.toInt64 * (u - v) / D)).toInt ∧ 100 * (-(c.toInt64 * (u - v) / D)).toInt ≤ 999 * (C - u.toInt)) := by
  have e := flowV hc (show -30000000 ≤ u.toInt by omega) (show u.toInt ≤ 30000000 by omega) (show -30000000 ≤ v.toInt by omega) (show v.toInt ≤ 30000000 by omega) (show 0 < D.toInt by omega)
  obtain ⟨f1, f2, f3, f4⟩ := flow_bt (c := c.toInt) (a := u.toInt) (b := v.toInt) (C := C) (D := D.toInt) hc.1 hc.2 hu hu2 hv hv2 hD
  rw [i64_neg (by rw [e]; omega), e]
  exact ⟨⟨f1, f2⟩, f3, f4⟩
theorem dl_catR_one {f : Nat → List (Nat × Int64)} {i b : Nat} : ∀ (r a : Nat), a ≤ b → b < a + r → (∀ c, a ≤ c → c < a + r → ¬ c = b → dl (f c) i = 0) → dl (catR f r a) i = dl (f b) i := by
  have zero : ∀ (r a : Nat), (∀ c, a ≤ c → c < a + r → dl (f c) i = 0) → dl (catR f r a) i = 0 := by
    intro r
    induction r with
    | zero => intro a _; rfl
    | succ r ih =>
      intro a h
      rw [catR_succ, dl_append, h a (by omega) (by omega), ih (a + 1) (fun c h1 h2 => h c (by omega) (by omega)), Int64.add_zero]
  intro r
  induction r with
  | zero =>
    intro a h1 h2 _
    omega
  | succ r ih =>
    intro a h1 h2 h
    rw [catR_succ, dl_append]
    by_cases e : a = b
    · subst e
      rw [zero r (a + 1) (fun c h3 h4 => h c (by omega) (by omega) (by omega)), Int64.add_zero]
    · rw [h a (by omega) (by omega) e, Int64.zero_add]
      exact ih (a + 1) (by omega) (by omega) (fun c h3 h4 h5 => h c (by omega) (by omega) h5)
theorem pair_bd {X Y : Int} (hX : 0 ≤ X) (hX2 : X ≤ 1000000000000) (hY : 0 ≤ Y) (hY2 : Y ≤ 1000000000000) {W : Mem} {o : Nat} (hI : MI o W) {h : Nat → Int64} {c k : Nat} (hc : c < nbW W o) (hk : k < rgW W o c) (hm : k = rgW W o c - 1 → ∀ b, b < nbW W o → ¬ b = c → (-Y ≤ 100 * (- shrV W o h c b).toInt ∧ 100 * (- shrV W o h c b).toInt ≤ X) ∧ (-Y ≤ 100 * (shrV W o h b c).toInt ∧ 100 * (shrV W o h b c).toInt ≤ X)) {a b : Nat} (ha : a < nbW W o) (hb : b < nbW W o) (hab : ¬ a = b) : (¬ c = a → ¬ c = b → BD X Y (pairO W o h a b) (8 * c + k) 0) ∧ BD X Y (pairO W o h a b) (8 * c + k) 1 := by
  have r1 := hI.rg8 ha
  have r2 := hI.rg8 hb
  have r3 := hI.rg8 hc
  unfold pairO
  by_cases hf : 9 < farW W o a b
  · rw [if_pos hf]
    exact ⟨fun _ _ => BD.nil _, (BD.nil _).mono hX hY (by omega) (by omega)⟩
  · rw [if_neg hf]
    refine ⟨fun h1 h2 => BD.cons (n1 := 0) (n2 := 0) hX hX2 hY hY2 (BD.off (by omega)) (BD.off (by omega)) (by omega), ?_⟩
    by_cases e1 : c = a
    · subst e1
      by_cases e2 : k = rgW W o c - 1
      · obtain ⟨⟨m1, m2⟩, -⟩ := hm e2 b hb (fun z => hab z.symm)
        exact BD.cons (n1 := 1) (n2 := 0) hX hX2 hY hY2 (BD.on (by omega) m1 m2) (BD.off (by omega)) (by omega)
      · exact (BD.cons hX hX2 hY hY2 (BD.off (by omega)) (BD.off (by omega)) (by omega)).mono hX hY (by omega) (by omega)
    · by_cases e3 : c = b
      · subst e3
        by_cases e2 : k = rgW W o c - 1
        · obtain ⟨-, m1, m2⟩ := hm e2 a ha hab
          exact BD.cons (n1 := 0) (n2 := 1) hX hX2 hY hY2 (BD.off (by omega)) (BD.on (by omega) m1 m2) (by omega)
        · exact (BD.cons hX hX2 hY hY2 (BD.off (by omega)) (BD.off (by omega)) (by omega)).mono hX hY (by omega) (by omega)
      · exact (BD.cons hX hX2 hY hY2 (BD.off (by omega)) (BD.off (by omega)) (by omega)).mono hX hY (by omega) (by omega)
theorem row_bd {X Y : Int} (hX : 0 ≤ X) (hX2 : X ≤ 1000000000000) (hY : 0 ≤ Y) (hY2 : Y ≤ 1000000000000) {W : Mem} {o : Nat} (hI : MI o W) {h : Nat → Int64} {c k : Nat} (hc : c < nbW W o) (hk : k < rgW W o c) (hm : k = rgW W o c - 1 → ∀ b, b < nbW W o → ¬ b = c → (-Y ≤ 100 * (- shrV W o h c b).toInt ∧ 100 * (- shrV W o h c b).toInt ≤ X) ∧ (-Y ≤ 100 * (shrV W o h b c).toInt ∧ 100 * (shrV W o h b c).toInt ≤ X)) {a : Nat} (ha : a < nbW W o) : ∀ (r b : Nat), b + r = nbW W o → a < b → (c = a → BD X Y (catR (pairO W o h a) r b) (8 * c + k) r) ∧ (¬ c = a → c < b → BD X Y (catR (pairO W o h a) r b) (8 * c + k) 0) ∧ (¬ c = a → BD X Y (catR (pairO W o h a) r b) (8 * c + k) 1) := by
  have h8 := hI.nb8
  intro r
  induction r with
  | zero =>
    intro b _ _
    have h0 : BD X Y (catR (pairO W o h a) 0 b) (8 * c + k) 0 := BD.nil _
    exact ⟨fun _ => h0, fun _ _ => h0, fun _ => h0.mono hX hY (by omega) (by omega)⟩
  | succ r ih =>
    intro b hb hab
    obtain ⟨i1, i2, i3⟩ := ih (b + 1) (by omega) (by omega)
    obtain ⟨p1, p2⟩ := pair_bd hX hX2 hY hY2 hI hc hk hm ha (show b < nbW W o by omega) (show ¬ a = b by omega)
    rw [catR_succ]
    refine ⟨fun e => ?_, fun e e2 => ?_, fun e => ?_⟩
    · exact (BD.app hX hX2 hY hY2 p2 (i1 e) (by omega)).mono hX hY (by omega) (by omega)
    · exact BD.app hX hX2 hY hY2 (p1 e (by omega)) (i2 e (by omega)) (by omega)
    · by_cases e3 : c = b
      · exact BD.app hX hX2 hY hY2 p2 (i2 e (by omega)) (by omega)
      · exact (BD.app hX hX2 hY hY2 (p1 e e3) (i3 e) (by omega)).mono hX hY (by omega) (by omega)
theorem rows_bd {X Y : Int} (hX : 0 ≤ X) (hX2 : X ≤ 1000000000000) (hY : 0 ≤ Y) (hY2 : Y ≤ 1000000000000) {W : Mem} {o : Nat} (hI : MI o W) {h : Nat → Int64} {c k : Nat} (hc : c < nbW W o) (hk : k < rgW W o c) (hm : k = rgW W o c - 1 → ∀ b, b < nbW W o → ¬ b = c → (-Y ≤ 100 * (- shrV W o h c b).toInt ∧ 100 * (- shrV W o h c b).toInt ≤ X) ∧ (-Y ≤ 100 * (shrV W o h b c).toInt ∧ 100 * (shrV W o h b c).toInt ≤ X)) : ∀ (r a : Nat), a + r = nbW W o → (c < a → BD X Y (catR (pairsO W o h) r a) (8 * c + k) 0) ∧ BD X Y (catR (pairsO W o h) r a) (8 * c + k) (r - 1) := by
  have h8 := hI.nb8
  intro r
  induction r with
  | zero =>
    intro a _
    exact ⟨fun _ => BD.nil _, BD.nil _⟩
  | succ r ih =>
    intro a ha
    obtain ⟨i1, i2⟩ := ih (a + 1) (by omega)
    obtain ⟨p1, p2, p3⟩ := row_bd hX hX2 hY hY2 hI hc hk hm (show a < nbW W o by omega) (nbW W o - (a + 1)) (a + 1) (by omega) (by omega)
    rw [catR_succ]
    refine ⟨fun e => BD.app hX hX2 hY hY2 (p2 (by omega) (by omega)) (i1 (by omega)) (by omega), ?_⟩
    by_cases e : c < a
    · exact (BD.app hX hX2 hY hY2 (p2 (by omega) (by omega)) (i1 (by omega)) (by omega)).mono hX hY (by omega) (by omega)
    · by_cases e2 : c = a
      · exact (BD.app hX hX2 hY hY2 (p1 e2) (i1 (by omega)) (by omega)).mono hX hY (by omega) (by omega)
      · exact (BD.app hX hX2 hY hY2 (p3 e2) i2 (by omega)).mono hX hY (by omega) (by omega)
