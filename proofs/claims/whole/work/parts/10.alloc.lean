-- ===== rows that make cells =====
section AL
variable {X : Option Cx} {V : Option Value × Mem × EG} {own : String} {cc : ByteArray} {nL : Nat} {rt : Option FieldType} {fr lo : Nat} {pc : Nat} {M : Mem} {Kf : List (Nat × Nat)} {L : List (Nat × Value)} {st : List Value}
theorem va_S.grow {A : Nat → Prop} {H0 H H1 : Heap} {locs : List Loc} (h : va_S A H0 H locs) (z : H.size ≤ H1.size) (oq : ∀ q : Nat, q < H.size → H1[q]? = H[q]?) : va_S A H0 H1 locs :=
  ⟨Nat.le_trans h.1 z, fun x h1 h2 => (oq x (Nat.lt_of_lt_of_le h1 h.1)).trans (h.2.1 x h1 h2), h.2.2⟩
theorem kinds_new {M M1 : Mem} {Kf : List (Nat × Nat)} {k : Nat} (hk : k ≠ 0) (hb : ∀ a, gK M a ≠ 0 → a < gH M) (eK : gK M1 = up1 (gK M) (gH M) k) (h : ∀ q ∈ Kf, gK M q.1 = q.2 ∧ q.2 ≠ 0) : ∀ q ∈ (gH M, k) :: Kf, gK M1 q.1 = q.2 ∧ q.2 ≠ 0 := fun q hq => by
  rcases List.mem_cons.mp hq with rfl | hq
  · exact ⟨by rw [eK]; exact if_pos rfl, hk⟩
  · exact ⟨kinds_grow hb eK h q hq, (h q hq).2⟩
theorem r_new {C : String} {Tb : u_T} {N c ix : Nat} {β : Type} {kq : Nat → Mem → Option β} {res : β} (hin : ∀ w ∈ u_ws C Tb N, w ∈ lw_g) (ty0 : Nat → FieldType) (hty : ∀ k, k < N → parseFieldDescriptor (Tb k).2.2.1 = some (ty0 k)) (hc : vwCl[c]? = some (C, Tb, N)) (hN : nfl c = N) (hc14 : c < 14)
    (hcl : Cond.classLink own ix C ∈ lw_g) (hinst : Cond.instantiable C N ∈ lw_g) (hini : Cond.initialized C ∈ lw_g) (hdf : ∀ j, j < N → defaultValue (ty0 j) = (if fkd c j = 0 then .int 0 else if fkd c j = 1 then .long 0 else .null : Value))
    (hd : decode cc pc = .ok (.new ix, 3)) (hF : bnd (gH M) (fun a => bnd (nO M (c + 1) N) (kq a)) = some res) (kk : ∀ a M1, kq a M1 = some res → T X V (own, cc, nL, rt, fr, lo) M1 ((a, c + 1) :: Kf) L (.ref a :: st) (pc + 3)) : T X V (own, cc, nL, rt, fr, lo) M Kf L st pc := by
  have kk := kk _ _ hF
  have m1 : gH M + 1 ≤ gH V.2.1 := kk.1.1
  have m2 : gS M + N ≤ gS V.2.1 := kk.1.2
  refine ⟨⟨by omega, by omega⟩, fun x hX Z => ?_⟩
  have kk := kk.2 x hX Z
  obtain ⟨p, l, e0, R, s, m, args, below, meth, c0, D, ac, M0⟩ := x
  obtain ⟨hx, hb, hr, hml, hown, hts, hKW, hEV, hlk, hR, -⟩ := Z
  intro hle hf H locs ls hP hS hl
  have hKn := hKW.1 c _ hc
  have l1 := hle.1
  have l2 := hle.2.1
  refine W.newcK hx hb hown (hts _ hcl) (hts _ hinst) (hts _ hini) rfl hd (by rw [hR]; show _ + 1 ≤ gH V.2.1 - gH M0; omega) (by rw [hR]; show _ + N ≤ gS V.2.1 - gS M0; omega) hKn.2.1 hP.1 fun H1 kC hkC e1 z1 o1 => ?_
  have ez : H1.size = H.size + 1 := by rw [z1, hP.1]
  have eo : ∀ q : Nat, q < H.size → H1[q]? = H[q]? := fun q hq => o1 q (by rw [← hP.1]; exact hq)
  have r := kk (hle.grow (M1 := nO M (c + 1) N) hP.2.1 rfl rfl rfl rfl) (kinds_new (by omega) hP.2.1 rfl hf) H1 locs ls (hP.grow (k := c + 1) (by omega) rfl rfl (fun _ _ => rfl) (fun _ _ => rfl) (fun _ _ => rfl) (fun _ _ => rfl) (fun x d j hxx => ?_) ez eo ?_ (fun h => by omega) (fun h => by omega) (fun h => by omega) (fun h => by omega) (fun h => by omega)) (hS.grow (by omega) eo) hl
  · have q1 : gH (nO M (c + 1) N) - gH M0 = gH M - gH M0 + 1 := by show gH M + 1 - gH M0 = _; omega
    have q2 : gS (nO M (c + 1) N) - gS M0 = gS M - gS M0 + N := by show gS M + N - gS M0 = _; omega
    rw [q1, q2] at r
    exact r
  · unfold fv
    have g1 : gI (nO M (c + 1) N) (100 * d + j) x = gI M (100 * d + j) x := if_neg hxx
    have g2 : gJ (nO M (c + 1) N) (100 * d + j) x = gJ M (100 * d + j) x := if_neg hxx
    have g3 : gR (nO M (c + 1) N) (100 * d + j) x = gR M (100 * d + j) x := if_neg hxx
    rw [g1, g2, g3]
  · intro c' hc' hc14'
    have hcc : c' = c := by omega
    subst hcc
    rw [hN]
    refine (u_born ty0 hts hin hKn hkC e1 hty).to fun j hj => ?_
    rw [hdf j hj]
    unfold fv
    have g1 : gI (nO M (c' + 1) N) (100 * c' + j) (gH M) = 0 := if_pos rfl
    have g2 : gJ (nO M (c' + 1) N) (100 * c' + j) (gH M) = 0 := if_pos rfl
    have g3 : gR (nO M (c' + 1) N) (100 * c' + j) (gH M) = none := if_pos rfl
    rw [g1, g2, g3]
    rfl
/-- a new row: what all kinds share -/
theorem r_newrow {x : Cx} {k : Nat} {n : Nat} {M0 : Mem} {s : State} {H H1 : Heap} {locs : List Loc} {D : va_G} {ac : Nat → ClassId} (hk : 20 ≤ k) (hP : PW D ac M H) (z1 : H1.size = H.size + 1) (o1 : ∀ q : Nat, q < H.size → H1[q]? = H[q]?)
    (h0 : k = 20 → H1[gH M]? = some (arrV (ac 0) n (fun _ => .int 0))) (h1 : k = 21 → H1[gH M]? = some (arrV (ac 1) n (fun _ => .long 0))) (h2 : k = 22 → H1[gH M]? = some (arrV (ac 2) n (fun _ => .int 0))) (h3 : k = 23 → H1[gH M]? = some (arrV (ac 3) n (fun _ => .null))) (h4 : k ≠ 24) : PW D ac (nA M k n) H1 := by
  have en : gN (nA M k n) (gH M) = n := if_pos rfl
  have ea : gA (nA M k n) (gH M) = fun _ => 0 := funext fun _ => if_pos rfl
  have eb : gB (nA M k n) (gH M) = fun _ => 0 := funext fun _ => if_pos rfl
  have eo : gO (nA M k n) (gH M) = fun _ => none := funext fun _ => if_pos rfl
  refine hP.grow (k := k) (by omega) rfl rfl (fun x hx => if_neg hx) (fun x hx => funext fun _ => if_neg hx) (fun x hx => funext fun _ => if_neg hx) (fun x hx => funext fun _ => if_neg hx) (fun x d j hxx => rfl) z1 o1 (fun c' hc' hc14' => by omega) ?_ ?_ ?_ ?_ (fun h => absurd h h4)
  · intro h
    rw [h0 h, en, ea]
    rfl
  · intro h
    rw [h1 h, en, eb]
    rfl
  · intro h
    rw [h2 h, en, ea]
    rfl
  · intro h
    rw [h3 h, en, eo]
    rfl
end AL
theorem r_newI {X : Option Cx} {V : Option Value × Mem × EG} {own : String} {cc : ByteArray} {nL : Nat} {rt : Option FieldType} {fr lo : Nat} {pc : Nat} {M : Mem} {Kf : List (Nat × Nat)} {L : List (Nat × Value)} {st : List Value} {n : Int32} {β : Type} {kq : Nat → Mem → Option β} {res : β} (hw : (Cond.arrayClass .int) ∈ lw_g) (hd : decode cc pc = .ok (.newarray .int, 2)) (hF : grd (0 ≤ n.toInt ∧ n.toInt ≤ 10000) (bnd (gH M) (fun a => bnd (nA M 20 (ixn n)) (kq a))) = some res) (kk : ∀ a M1, kq a M1 = some res → T X V (own, cc, nL, rt, fr, lo) M1 ((a, 20) :: Kf) L (.ref a :: st) (pc + 2)) : T X V (own, cc, nL, rt, fr, lo) M Kf L (.int n :: st) pc := by
  obtain ⟨hn, hF⟩ := grd_e hF
  have kk := kk _ _ hF
  have hn1 : ¬ n < 0 := by rw [Int32.lt_iff_toInt_lt]; simp; omega
  have hn2 : ixn n ≤ 10000 := by show n.toInt.toNat ≤ 10000; omega
  have m1 : gH M + 1 ≤ gH V.2.1 := kk.1.1
  have m2 : gS M + ixn n ≤ gS V.2.1 := kk.1.2
  refine ⟨⟨by omega, by omega⟩, fun x hX Z => ?_⟩
  have kk := kk.2 x hX Z
  obtain ⟨p, l, e0, R, s, m, args, below, meth, c0, D, ac, M0⟩ := x
  obtain ⟨hx, hb, hr, hml, hown, hts, hKW, hEV, hlk, hR, -⟩ := Z
  intro hle hf H locs ls hP hS hl
  have l1 := hle.1
  have l2 := hle.2.1
  refine va_newaK (atype := .int) hx hb (hts _ hw) rfl hd rfl hn1 (rfl : n.toNatClampNeg = ixn n) (by show ixn n * 4 ≤ _; omega) (by rw [hR]; show _ + 1 ≤ gH V.2.1 - gH M0; omega) (by rw [hR]; show _ + ixn n ≤ gS V.2.1 - gS M0; omega) hP.1 fun H1 cA e1 z1 o1 hAr hNm => ?_
  have hcA : cA = ac 0 := Option.some.inj (hNm.symm.trans (hKW.2 0 _ rfl).2)
  subst hcA
  have ez : H1.size = H.size + 1 := by rw [z1, hP.1]
  have eo : ∀ q : Nat, q < H.size → H1[q]? = H[q]? := fun q hq => o1 q (by rw [← hP.1]; exact hq)
  have r := kk (hle.grow (M1 := nA M 20 (ixn n)) hP.2.1 rfl rfl rfl rfl) (kinds_new (by decide) hP.2.1 rfl hf) H1 locs ls (r_newrow (x := (p, l, e0, R, s, m, args, below, meth, c0, D, ac, M0)) (M0 := M0) (s := s) (locs := locs) (by decide) hP ez eo (fun h => e1) (fun h => by cases h) (fun h => by cases h) (fun h => by cases h) (by decide)) (hS.grow (by omega) eo) hl
  have q1 : gH (nA M 20 (ixn n)) - gH M0 = gH M - gH M0 + 1 := by show gH M + 1 - gH M0 = _; omega
  have q2 : gS (nA M 20 (ixn n)) - gS M0 = gS M - gS M0 + ixn n := by show gS M + ixn n - gS M0 = _; omega
  rw [q1, q2] at r
  exact r
theorem r_newJ {X : Option Cx} {V : Option Value × Mem × EG} {own : String} {cc : ByteArray} {nL : Nat} {rt : Option FieldType} {fr lo : Nat} {pc : Nat} {M : Mem} {Kf : List (Nat × Nat)} {L : List (Nat × Value)} {st : List Value} {n : Int32} {β : Type} {kq : Nat → Mem → Option β} {res : β} (hw : (Cond.arrayClass .long) ∈ lw_g) (hd : decode cc pc = .ok (.newarray .long, 2)) (hF : grd (0 ≤ n.toInt ∧ n.toInt ≤ 10000) (bnd (gH M) (fun a => bnd (nA M 21 (ixn n)) (kq a))) = some res) (kk : ∀ a M1, kq a M1 = some res → T X V (own, cc, nL, rt, fr, lo) M1 ((a, 21) :: Kf) L (.ref a :: st) (pc + 2)) : T X V (own, cc, nL, rt, fr, lo) M Kf L (.int n :: st) pc := by
  obtain ⟨hn, hF⟩ := grd_e hF
  have kk := kk _ _ hF
  have hn1 : ¬ n < 0 := by rw [Int32.lt_iff_toInt_lt]; simp; omega
  have hn2 : ixn n ≤ 10000 := by show n.toInt.toNat ≤ 10000; omega
  have m1 : gH M + 1 ≤ gH V.2.1 := kk.1.1
  have m2 : gS M + ixn n ≤ gS V.2.1 := kk.1.2
  refine ⟨⟨by omega, by omega⟩, fun x hX Z => ?_⟩
  have kk := kk.2 x hX Z
  obtain ⟨p, l, e0, R, s, m, args, below, meth, c0, D, ac, M0⟩ := x
  obtain ⟨hx, hb, hr, hml, hown, hts, hKW, hEV, hlk, hR, -⟩ := Z
  intro hle hf H locs ls hP hS hl
  have l1 := hle.1
  have l2 := hle.2.1
  refine va_newaK (atype := .long) hx hb (hts _ hw) rfl hd rfl hn1 (rfl : n.toNatClampNeg = ixn n) (by show ixn n * 8 ≤ _; omega) (by rw [hR]; show _ + 1 ≤ gH V.2.1 - gH M0; omega) (by rw [hR]; show _ + ixn n ≤ gS V.2.1 - gS M0; omega) hP.1 fun H1 cA e1 z1 o1 hAr hNm => ?_
  have hcA : cA = ac 1 := Option.some.inj (hNm.symm.trans (hKW.2 1 _ rfl).2)
  subst hcA
  have ez : H1.size = H.size + 1 := by rw [z1, hP.1]
  have eo : ∀ q : Nat, q < H.size → H1[q]? = H[q]? := fun q hq => o1 q (by rw [← hP.1]; exact hq)
  have r := kk (hle.grow (M1 := nA M 21 (ixn n)) hP.2.1 rfl rfl rfl rfl) (kinds_new (by decide) hP.2.1 rfl hf) H1 locs ls (r_newrow (x := (p, l, e0, R, s, m, args, below, meth, c0, D, ac, M0)) (M0 := M0) (s := s) (locs := locs) (by decide) hP ez eo (fun h => by cases h) (fun h => e1) (fun h => by cases h) (fun h => by cases h) (by decide)) (hS.grow (by omega) eo) hl
  have q1 : gH (nA M 21 (ixn n)) - gH M0 = gH M - gH M0 + 1 := by show gH M + 1 - gH M0 = _; omega
  have q2 : gS (nA M 21 (ixn n)) - gS M0 = gS M - gS M0 + ixn n := by show gS M + ixn n - gS M0 = _; omega
  rw [q1, q2] at r
  exact r
theorem r_newZ {X : Option Cx} {V : Option Value × Mem × EG} {own : String} {cc : ByteArray} {nL : Nat} {rt : Option FieldType} {fr lo : Nat} {pc : Nat} {M : Mem} {Kf : List (Nat × Nat)} {L : List (Nat × Value)} {st : List Value} {n : Int32} {β : Type} {kq : Nat → Mem → Option β} {res : β} (hw : (Cond.arrayClass .boolean) ∈ lw_g) (hd : decode cc pc = .ok (.newarray .boolean, 2)) (hF : grd (0 ≤ n.toInt ∧ n.toInt ≤ 10000) (bnd (gH M) (fun a => bnd (nA M 22 (ixn n)) (kq a))) = some res) (kk : ∀ a M1, kq a M1 = some res → T X V (own, cc, nL, rt, fr, lo) M1 ((a, 22) :: Kf) L (.ref a :: st) (pc + 2)) : T X V (own, cc, nL, rt, fr, lo) M Kf L (.int n :: st) pc := by
  obtain ⟨hn, hF⟩ := grd_e hF
  have kk := kk _ _ hF
  have hn1 : ¬ n < 0 := by rw [Int32.lt_iff_toInt_lt]; simp; omega
  have hn2 : ixn n ≤ 10000 := by show n.toInt.toNat ≤ 10000; omega
  have m1 : gH M + 1 ≤ gH V.2.1 := kk.1.1
  have m2 : gS M + ixn n ≤ gS V.2.1 := kk.1.2
  refine ⟨⟨by omega, by omega⟩, fun x hX Z => ?_⟩
  have kk := kk.2 x hX Z
  obtain ⟨p, l, e0, R, s, m, args, below, meth, c0, D, ac, M0⟩ := x
  obtain ⟨hx, hb, hr, hml, hown, hts, hKW, hEV, hlk, hR, -⟩ := Z
  intro hle hf H locs ls hP hS hl
  have l1 := hle.1
  have l2 := hle.2.1
  refine va_newaK (atype := .boolean) hx hb (hts _ hw) rfl hd rfl hn1 (rfl : n.toNatClampNeg = ixn n) (by show ixn n * 1 ≤ _; omega) (by rw [hR]; show _ + 1 ≤ gH V.2.1 - gH M0; omega) (by rw [hR]; show _ + ixn n ≤ gS V.2.1 - gS M0; omega) hP.1 fun H1 cA e1 z1 o1 hAr hNm => ?_
  have hcA : cA = ac 2 := Option.some.inj (hNm.symm.trans (hKW.2 2 _ rfl).2)
  subst hcA
  have ez : H1.size = H.size + 1 := by rw [z1, hP.1]
  have eo : ∀ q : Nat, q < H.size → H1[q]? = H[q]? := fun q hq => o1 q (by rw [← hP.1]; exact hq)
  have r := kk (hle.grow (M1 := nA M 22 (ixn n)) hP.2.1 rfl rfl rfl rfl) (kinds_new (by decide) hP.2.1 rfl hf) H1 locs ls (r_newrow (x := (p, l, e0, R, s, m, args, below, meth, c0, D, ac, M0)) (M0 := M0) (s := s) (locs := locs) (by decide) hP ez eo (fun h => by cases h) (fun h => by cases h) (fun h => e1) (fun h => by cases h) (by decide)) (hS.grow (by omega) eo) hl
  have q1 : gH (nA M 22 (ixn n)) - gH M0 = gH M - gH M0 + 1 := by show gH M + 1 - gH M0 = _; omega
  have q2 : gS (nA M 22 (ixn n)) - gS M0 = gS M - gS M0 + ixn n := by show gS M + ixn n - gS M0 = _; omega
  rw [q1, q2] at r
  exact r
theorem r_newq {X : Option Cx} {V : Option Value × Mem × EG} {own : String} {cc : ByteArray} {nL : Nat} {rt : Option FieldType} {fr lo : Nat} {pc : Nat} {M : Mem} {Kf : List (Nat × Nat)} {L : List (Nat × Value)} {st : List Value} {n : Int32} {ix : Nat} {β : Type} {kq : Nat → Mem → Option β} {res : β} (hcl : Cond.classLink own ix "java/lang/Object" ∈ lw_g) (hd : decode cc pc = .ok (.anewarray ix, 3)) (hF : grd (0 ≤ n.toInt ∧ n.toInt ≤ 10000) (bnd (gH M) (fun a => bnd (nA M 23 (ixn n)) (kq a))) = some res) (kk : ∀ a M1, kq a M1 = some res → T X V (own, cc, nL, rt, fr, lo) M1 ((a, 23) :: Kf) L (.ref a :: st) (pc + 3)) : T X V (own, cc, nL, rt, fr, lo) M Kf L (.int n :: st) pc := by
  obtain ⟨hn, hF⟩ := grd_e hF
  have kk := kk _ _ hF
  have hn1 : ¬ n < 0 := by rw [Int32.lt_iff_toInt_lt]; simp; omega
  have hn2 : n.toNatClampNeg ≤ 10000 := by show n.toInt.toNat ≤ 10000; omega
  have m1 : gH M + 1 ≤ gH V.2.1 := kk.1.1
  have m2 : gS M + n.toNatClampNeg ≤ gS V.2.1 := kk.1.2
  refine ⟨⟨by omega, by omega⟩, fun x hX Z => ?_⟩
  have kk := kk.2 x hX Z
  obtain ⟨p, l, e0, R, s, m, args, below, meth, c0, D, ac, M0⟩ := x
  obtain ⟨hx, hb, hr, hml, hown, hts, hKW, hEV, hlk, hR, -⟩ := Z
  intro hle hf H locs ls hP hS hl
  have l1 := hle.1
  have l2 := hle.2.1
  refine W.anew hx hb hown (hts _ hcl) (va_AO.use hEV.2.2.2.2.2.2.2.1) rfl hd rfl hn1 (by omega) (by rw [hR]; show _ + 1 ≤ gH V.2.1 - gH M0; omega) (by rw [hR]; show _ + n.toNatClampNeg ≤ gS V.2.1 - gS M0; omega) fun cA kA comp f1 f2 f3 f4 => ?_
  obtain ⟨kA', comp', g1, g2, g3, g4⟩ := (hKW.2 3 _ rfl).2
  have hcA : cA = ac 3 := Option.some.inj (f1.symm.trans g4)
  subst hcA
  generalize hH1 : H.push ({ cls := ac 3, slots := Array.replicate n.toNatClampNeg .null, vm := .none } : Cell) = H1
  have ez : H1.size = H.size + 1 := by rw [← hH1, Array.size_push]
  have e1 : H1[gH M]? = some (arrV (ac 3) n.toNatClampNeg (fun _ => .null)) := by rw [← hH1, ← hP.1, Array.getElem?_push_size, ← arrV_new]
  have eo : ∀ q : Nat, q < H.size → H1[q]? = H[q]? := fun q hq => by rw [← hH1, Array.getElem?_push, if_neg (Nat.ne_of_lt hq)]
  have r := kk (hle.grow (M1 := nA M 23 (ixn n)) hP.2.1 rfl rfl rfl rfl) (kinds_new (by decide) hP.2.1 rfl hf) H1 locs ls (r_newrow (x := (p, l, e0, R, s, m, args, below, meth, c0, D, ac, M0)) (M0 := M0) (s := s) (locs := locs) (by decide) hP ez eo (fun h => by cases h) (fun h => by cases h) (fun h => by cases h) (fun h => e1) (by decide)) (hS.grow (by omega) eo) hl
  have q1 : gH (nA M 23 (ixn n)) - gH M0 = gH M - gH M0 + 1 := by show gH M + 1 - gH M0 = _; omega
  have q2 : gS (nA M 23 (ixn n)) - gS M0 = gS M - gS M0 + n.toNatClampNeg := by show gS M + n.toNatClampNeg - gS M0 = _; omega
  rw [q1, q2] at r
  rw [hP.1]
  exact r
