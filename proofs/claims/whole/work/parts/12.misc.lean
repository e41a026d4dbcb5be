theorem r_objInit {X : Option Cx} {V : Option Value × Mem × EG} {own : String} {cc : ByteArray} {nL : Nat} {rt : Option FieldType} {fr lo : Nat} {pc : Nat} {M : Mem} {Kf : List (Nat × Nat)} {L : List (Nat × Value)} {st : List Value} {a ix : Nat} (w1 : Cond.methodLink own ix objectInit ∈ lw_g) (w2 : Cond.instanceMethod objectInit ∈ lw_g) (w3 : Cond.code objectInit ⟨#[0xb1]⟩ 1 none ∈ lw_g) (hroom : 1 ≤ fr ∧ 20 ≤ lo) (hcat : (st.map fun v => v.category).sum ≤ 8) (hd : decode cc pc = .ok (.invokespecial ix, 3)) (kk : T X V (own, cc, nL, rt, fr, lo) M Kf L st (pc + 3)) : T X V (own, cc, nL, rt, fr, lo) M Kf L (.ref a :: st) pc := by
  refine ⟨kk.1, fun x hX Z => ?_⟩
  have kk := kk.2 x hX Z
  obtain ⟨p, l, e0, R, s, m, args, below, meth, c0, D, ac, M0⟩ := x
  obtain ⟨hx, hb, hr, hml, hown, hts, hKW, hEV, hlk, hR, hgE⟩ := Z
  intro hle hf H locs ls hP hS hl
  have kk := kk hle hf H locs ls hP hS hl
  subst hR
  exact W.objInit hx hb hown (hts _ w1) (hts _ w2) (hts _ w3) rfl (by rw [hml]; exact hl.1) rfl hd hroom.1 (by show 2 * 0 + _ + 12 ≤ lo; have := hroom.2; omega) kk
theorem r_kind {X : Option Cx} {V : Option Value × Mem × EG} {own : String} {cc : ByteArray} {nL : Nat} {rt : Option FieldType} {fr lo : Nat} {pc : Nat} {M : Mem} {Kf : List (Nat × Nat)} {L : List (Nat × Value)} {st : List Value} {a k : Nat} {β : Type} {kq : Option β} {res : β} (hk : k ≠ 0) (hF : grd (gK M a = k) kq = some res) (kk : kq = some res → T X V (own, cc, nL, rt, fr, lo) M ((a, k) :: Kf) L st pc) : T X V (own, cc, nL, rt, fr, lo) M Kf L st pc := by
  obtain ⟨h, hF⟩ := grd_e hF
  have kk := kk hF
  refine ⟨kk.1, fun x hX Z => ?_⟩
  have kk := kk.2 x hX Z
  obtain ⟨p, l, e0, R, s, m, args, below, meth, c0, D, ac, M0⟩ := x
  exact fun hle hf H locs ls hP hS hl => kk hle (fun q hq => by
    rcases List.mem_cons.mp hq with rfl | hq
    · exact ⟨h, hk⟩
    · exact hf q hq) H locs ls hP hS hl
theorem r_nn {X : Option Cx} {V : Option Value × Mem × EG} {own : String} {cc : ByteArray} {nL : Nat} {rt : Option FieldType} {fr lo : Nat} {pc : Nat} {M : Mem} {Kf : List (Nat × Nat)} {L : List (Nat × Value)} {st : List Value} {r : Option Nat} {β : Type} {kq : Nat → Option β} {res : β} (hF : nn r kq = some res) (kk : ∀ b, r = some b → kq b = some res → T X V (own, cc, nL, rt, fr, lo) M Kf L (.ref b :: st) pc) : T X V (own, cc, nL, rt, fr, lo) M Kf L (va_rf r :: st) pc := by
  obtain ⟨b, rfl, hF⟩ := nn_e hF
  exact kk b rfl hF
theorem r_name {α : Type} {X : Option Cx} {V : Option Value × Mem × EG} {P : MP} {pc : Nat} {M : Mem} {Kf : List (Nat × Nat)} {L : List (Nat × Value)} {st : α → List Value} {w : α} {β : Type} {kq : α → Option β} {res : β} (hF : bnd w kq = some res) (kk : ∀ v, kq v = some res → T X V P M Kf L (st v) pc) : T X V P M Kf L (st w) pc := kk w hF
theorem r_gI {X : Option Cx} {V : Option Value × Mem × EG} {own : String} {cc : ByteArray} {nL : Nat} {rt : Option FieldType} {fr lo : Nat} {pc : Nat} {M : Mem} {Kf : List (Nat × Nat)} {L : List (Nat × Value)} {st : List Value} {w : Int32} {β : Type} {kq : Int32 → Option β} {res : β} (hF : bnd w kq = some res) (kk : ∀ v, kq v = some res → T X V (own, cc, nL, rt, fr, lo) M Kf L (.int v :: st) pc) : T X V (own, cc, nL, rt, fr, lo) M Kf L (.int w :: st) pc := kk w hF
theorem r_gJ {X : Option Cx} {V : Option Value × Mem × EG} {own : String} {cc : ByteArray} {nL : Nat} {rt : Option FieldType} {fr lo : Nat} {pc : Nat} {M : Mem} {Kf : List (Nat × Nat)} {L : List (Nat × Value)} {st : List Value} {w : Int64} {β : Type} {kq : Int64 → Option β} {res : β} (hF : bnd w kq = some res) (kk : ∀ v, kq v = some res → T X V (own, cc, nL, rt, fr, lo) M Kf L (.long v :: st) pc) : T X V (own, cc, nL, rt, fr, lo) M Kf L (.long w :: st) pc := kk w hF
theorem r_cast {X : Option Cx} {V : Option Value × Mem × EG} {own : String} {cc : ByteArray} {nL : Nat} {rt : Option FieldType} {fr lo : Nat} {pc : Nat} {M : Mem} {Kf : List (Nat × Nat)} {L : List (Nat × Value)} {st : List Value} {a c N ix j : Nat} {C : String} {Tb : u_T} (hc : vwCl[c]? = some (C, Tb, N)) (hc14 : c < 14) (hj : Kf[j]? = some (a, c + 1)) (hcl : Cond.classLink own ix C ∈ lw_g) (hd : decode cc pc = .ok (.checkcast ix, 3)) (kk : T X V (own, cc, nL, rt, fr, lo) M Kf L (.ref a :: st) (pc + 3)) : T X V (own, cc, nL, rt, fr, lo) M Kf L (.ref a :: st) pc := by
  refine ⟨kk.1, fun x hX Z => ?_⟩
  have kk := kk.2 x hX Z
  obtain ⟨p, l, e0, R, s, m, args, below, meth, c0, D, ac, M0⟩ := x
  obtain ⟨hx, hb, hr, hml, hown, hts, hKW, hEV, hlk, hR, hgE⟩ := Z
  intro hle hf H locs ls hP hS hl
  exact va_castS hx hb hown (hts _ hcl) (hKW.1 c _ hc).2 (hP.cell hKW hc hc14 (hf _ (List.mem_of_getElem? hj)).1) hd (kk hle hf H locs ls hP hS hl)
theorem r_castI {X : Option Cx} {V : Option Value × Mem × EG} {own : String} {cc : ByteArray} {nL : Nat} {rt : Option FieldType} {fr lo : Nat} {pc : Nat} {M : Mem} {Kf : List (Nat × Nat)} {L : List (Nat × Value)} {st : List Value} {a ix j : Nat} (hj : Kf[j]? = some (a, 20)) (hcl : Cond.classLink own ix "[I" ∈ lw_g) (hd : decode cc pc = .ok (.checkcast ix, 3)) (kk : T X V (own, cc, nL, rt, fr, lo) M Kf L (.ref a :: st) (pc + 3)) : T X V (own, cc, nL, rt, fr, lo) M Kf L (.ref a :: st) pc := by
  refine ⟨kk.1, fun x hX Z => ?_⟩
  have kk := kk.2 x hX Z
  obtain ⟨p, l, e0, R, s, m, args, below, meth, c0, D, ac, M0⟩ := x
  obtain ⟨hx, hb, hr, hml, hown, hts, hKW, hEV, hlk, hR, hgE⟩ := Z
  intro hle hf H locs ls hP hS hl
  have kk := kk hle hf H locs ls hP hS hl
  have hkd : gK M a = 20 := (hf _ (List.mem_of_getElem? hj)).1
  exact va_castA (D := D) (cl := vwCl) (ws := [(a, .inl (ac 0, gN M a, .inl (gA M a)))]) hx hb hown (hts _ hcl) (fun k q hq => by
    have hk0 : k < 1 := (List.getElem?_eq_some_iff.mp hq).1
    rw [show k = 0 by omega] at hq
    cases hq
    exact hP.2.2.2.1 a hkd) 0 rfl (hKW.2 0 _ rfl).2 hd kk
theorem r_ldcS {X : Option Cx} {V : Option Value × Mem × EG} {own : String} {cc : ByteArray} {nL : Nat} {rt : Option FieldType} {fr lo : Nat} {pc : Nat} {M : Mem} {Kf : List (Nat × Nat)} {L : List (Nat × Value)} {st : List Value} (i : Nat) {ix : Nat} {tx : String} (hi : i < 7) (hs : spl.getD i (0, "") = (ix, tx)) (ho : own = "RockHeat$Tape") (hd : decode cc pc = .ok (.ldc ix, 2)) (kk : T X V (own, cc, nL, rt, fr, lo) M Kf L (.ref (V.2.2.1 i) :: st) (pc + 2)) : T X V (own, cc, nL, rt, fr, lo) M Kf L st pc := by
  refine ⟨kk.1, fun x hX Z => ?_⟩
  have kk := kk.2 x hX Z
  obtain ⟨p, l, e0, R, s, m, args, below, meth, c0, D, ac, M0⟩ := x
  obtain ⟨hx, hb, hr, hml, hown, hts, hKW, hEV, hlk, hR, hgE⟩ := Z
  intro hle hf H locs ls hP hS hl
  have kk := kk hle hf H locs ls hP hS hl
  have h := hEV.2.1 i hi
  rw [hs, ← ho] at h
  exact va_ldcS hx hb hown h hd kk
theorem r_sval {X : Option Cx} {V : Option Value × Mem × EG} {own : String} {cc : ByteArray} {nL : Nat} {rt : Option FieldType} {fr lo : Nat} {pc : Nat} {M : Mem} {Kf : List (Nat × Nat)} {L : List (Nat × Value)} {st : List Value} {i ix : Nat} (hi : i < 7) (hcl : Cond.fieldLink own ix "java/lang/String" "value" "[B" ∈ lw_g) (hd : decode cc pc = .ok (.getfield ix, 3)) (kk : T X V (own, cc, nL, rt, fr, lo) M Kf L (.ref (V.2.2.2.1 i) :: st) (pc + 3)) : T X V (own, cc, nL, rt, fr, lo) M Kf L (.ref (V.2.2.1 i) :: st) pc := by
  refine ⟨kk.1, fun x hX Z => ?_⟩
  have kk := kk.2 x hX Z
  obtain ⟨p, l, e0, R, s, m, args, below, meth, c0, D, ac, M0⟩ := x
  obtain ⟨hx, hb, hr, hml, hown, hts, hKW, hEV, hlk, hR, hgE⟩ := Z
  intro hle hf H locs ls hP hS hl
  have kk := kk hle hf H locs ls hP hS hl
  exact vk_getf hx hb (hEV.1.1 i hi).2.2.1 hS hown (hts _ hcl) (fun _ h => h) hd kk
theorem r_scod {X : Option Cx} {V : Option Value × Mem × EG} {own : String} {cc : ByteArray} {nL : Nat} {rt : Option FieldType} {fr lo : Nat} {pc : Nat} {M : Mem} {Kf : List (Nat × Nat)} {L : List (Nat × Value)} {st : List Value} {i ix : Nat} (hi : i < 7) (hcl : Cond.fieldLink own ix "java/lang/String" "coder" "B" ∈ lw_g) (hd : decode cc pc = .ok (.getfield ix, 3)) (kk : T X V (own, cc, nL, rt, fr, lo) M Kf L (.int 0 :: st) (pc + 3)) : T X V (own, cc, nL, rt, fr, lo) M Kf L (.ref (V.2.2.1 i) :: st) pc := by
  refine ⟨kk.1, fun x hX Z => ?_⟩
  have kk := kk.2 x hX Z
  obtain ⟨p, l, e0, R, s, m, args, below, meth, c0, D, ac, M0⟩ := x
  obtain ⟨hx, hb, hr, hml, hown, hts, hKW, hEV, hlk, hR, hgE⟩ := Z
  intro hle hf H locs ls hP hS hl
  have kk := kk hle hf H locs ls hP hS hl
  exact vk_getf hx hb (hEV.1.1 i hi).2.1 hS hown (hts _ hcl) (fun _ h => h) hd kk
theorem r_btlen {X : Option Cx} {V : Option Value × Mem × EG} {own : String} {cc : ByteArray} {nL : Nat} {rt : Option FieldType} {fr lo : Nat} {pc : Nat} {M : Mem} {Kf : List (Nat × Nat)} {L : List (Nat × Value)} {st : List Value} {i : Nat} (hi : i < 7) (hd : decode cc pc = .ok (.arraylength, 1)) (kk : T X V (own, cc, nL, rt, fr, lo) M Kf L (.int (Int32.ofNat (slen.getD i 0)) :: st) (pc + 1)) : T X V (own, cc, nL, rt, fr, lo) M Kf L (.ref (V.2.2.2.1 i) :: st) pc := by
  refine ⟨kk.1, fun x hX Z => ?_⟩
  have kk := kk.2 x hX Z
  obtain ⟨p, l, e0, R, s, m, args, below, meth, c0, D, ac, M0⟩ := x
  obtain ⟨hx, hb, hr, hml, hown, hts, hKW, hEV, hlk, hR, hgE⟩ := Z
  intro hle hf H locs ls hP hS hl
  have kk := kk hle hf H locs ls hP hS hl
  exact va_tlen hx hb (hEV.1.1 i hi).2.2.2 hS rfl hd kk
theorem r_btld {X : Option Cx} {V : Option Value × Mem × EG} {own : String} {cc : ByteArray} {nL : Nat} {rt : Option FieldType} {fr lo : Nat} {pc : Nat} {M : Mem} {Kf : List (Nat × Nat)} {L : List (Nat × Value)} {st : List Value} {i : Nat} {j : Int32} {β : Type} {kq : Option β} {res : β} (hi : i < 7) (hd : decode cc pc = .ok (.baload, 1)) (hF : grd (0 ≤ j.toInt ∧ j.toInt < ((slen.getD i 0 : Nat) : Int)) kq = some res) (kk : kq = some res → T X V (own, cc, nL, rt, fr, lo) M Kf L (.int ((sbyt.getD i []).getD (ixn j) 0) :: st) (pc + 1)) : T X V (own, cc, nL, rt, fr, lo) M Kf L (.int j :: .ref (V.2.2.2.1 i) :: st) pc := by
  obtain ⟨hin, hF⟩ := grd_e hF
  have kk := kk hF
  refine ⟨kk.1, fun x hX Z => ?_⟩
  have kk := kk.2 x hX Z
  obtain ⟨p, l, e0, R, s, m, args, below, meth, c0, D, ac, M0⟩ := x
  obtain ⟨hx, hb, hr, hml, hown, hts, hKW, hEV, hlk, hR, hgE⟩ := Z
  intro hle hf H locs ls hP hS hl
  exact va_tb hx hb (hEV.1.1 i hi).2.2.2 hS (vp_in_iff.mpr hin) rfl hd (kk hle hf H locs ls hP hS hl)
theorem r_gstC {X : Option Cx} {V : Option Value × Mem × EG} {own : String} {cc : ByteArray} {nL : Nat} {rt : Option FieldType} {fr lo : Nat} {pc : Nat} {M : Mem} {Kf : List (Nat × Nat)} {L : List (Nat × Value)} {st : List Value} {ix : Nat} (hcl : Cond.fieldLink own ix "java/lang/String" "COMPACT_STRINGS" "Z" ∈ lw_g) (hd : decode cc pc = .ok (.getstatic ix, 3)) (kk : T X V (own, cc, nL, rt, fr, lo) M Kf L (.int 1 :: st) (pc + 3)) : T X V (own, cc, nL, rt, fr, lo) M Kf L st pc := by
  refine ⟨kk.1, fun x hX Z => ?_⟩
  have kk := kk.2 x hX Z
  obtain ⟨p, l, e0, R, s, m, args, below, meth, c0, D, ac, M0⟩ := x
  obtain ⟨hx, hb, hr, hml, hown, hts, hKW, hEV, hlk, hR, hgE⟩ := Z
  intro hle hf H locs ls hP hS hl
  have kk := kk hle hf H locs ls hP hS hl
  exact va_gets hx hb hEV.2.2.1 hS hown (hts _ hcl) (fun _ h => h) hd kk
theorem r_gstE {X : Option Cx} {V : Option Value × Mem × EG} {own : String} {cc : ByteArray} {nL : Nat} {rt : Option FieldType} {fr lo : Nat} {pc : Nat} {M : Mem} {Kf : List (Nat × Nat)} {L : List (Nat × Value)} {st : List Value} {ix : Nat} (hcl : Cond.fieldLink own ix "java/util/ArrayList" "DEFAULTCAPACITY_EMPTY_ELEMENTDATA" "[Ljava/lang/Object;" ∈ lw_g) (hd : decode cc pc = .ok (.getstatic ix, 3)) (kk : T X V (own, cc, nL, rt, fr, lo) M Kf L (.ref (gE M) :: st) (pc + 3)) : T X V (own, cc, nL, rt, fr, lo) M Kf L st pc := by
  refine ⟨kk.1, fun x hX Z => ?_⟩
  have kk := kk.2 x hX Z
  obtain ⟨p, l, e0, R, s, m, args, below, meth, c0, D, ac, M0⟩ := x
  obtain ⟨hx, hb, hr, hml, hown, hts, hKW, hEV, hlk, hR, hgE⟩ := Z
  intro hle hf H locs ls hP hS hl
  have kk := kk hle hf H locs ls hP hS hl
  have e : gE M = V.2.2.2.2.1 := hle.2.2.2.2.trans hgE
  rw [e] at kk
  exact va_gets hx hb hEV.2.2.2.1 hS hown (hts _ hcl) (fun _ h => h) hd kk
def alE (M : Mem) (a : Nat) : Int32 := if a = gE M then 0 else Int32.ofNat (gN M a)
theorem r_alenE {X : Option Cx} {V : Option Value × Mem × EG} {own : String} {cc : ByteArray} {nL : Nat} {rt : Option FieldType} {fr lo : Nat} {pc : Nat} {M : Mem} {Kf : List (Nat × Nat)} {L : List (Nat × Value)} {st : List Value} {a : Nat} {β : Type} {kq : Option β} {res : β} (hd : decode cc pc = .ok (.arraylength, 1)) (hF : grd (a = gE M ∨ gK M a = 23) kq = some res) (kk : kq = some res → T X V (own, cc, nL, rt, fr, lo) M Kf L (.int (alE M a) :: st) (pc + 1)) : T X V (own, cc, nL, rt, fr, lo) M Kf L (.ref a :: st) pc := by
  obtain ⟨hin, hF⟩ := grd_e hF
  have kk := kk hF
  refine ⟨kk.1, fun x hX Z => ?_⟩
  have kk := kk.2 x hX Z
  obtain ⟨p, l, e0, R, s, m, args, below, meth, c0, D, ac, M0⟩ := x
  obtain ⟨hx, hb, hr, hml, hown, hts, hKW, hEV, hlk, hR, hgE⟩ := Z
  intro hle hf H locs ls hP hS hl
  have k3 := kk hle hf H locs ls hP hS hl
  unfold alE at k3
  by_cases ha : a = gE M
  · rw [if_pos ha] at k3
    have e : a = V.2.2.2.2.1 := ha.trans (hle.2.2.2.2.trans hgE)
    rw [e]
    exact va_tlen hx hb hEV.2.2.2.2.1 hS rfl hd k3
  · rw [if_neg ha] at k3
    have hkd : gK M a = 23 := hin.resolve_left ha
    exact W.alen (n := Int32.ofNat (gN M a)) hx hb (hP.2.2.2.2.2.2.1 a hkd) ((hKW.2 3 _ rfl).1 _ (fun j => va_rf (gO M a j))) (by rw [vp_cell_q, arrV_size] <;> rfl) rfl rfl hd k3
theorem cast_obj : ∀ c, c < 14 → ∃ q : vw_C, vwCl[c]? = some q ∧ Cond.castable q.1 "java/lang/Object" ∈ lw_x := by
  intro c hc
  match c, hc with
  | 0, _ => exact ⟨(RJx4a65c, TJx4a65c, 3), rfl, tw_1547⟩
  | 1, _ => exact ⟨(RX0, TX0, 11), rfl, tw_1554⟩
  | 2, _ => exact ⟨(RX1, TX1, 7), rfl, tw_1552⟩
  | 3, _ => exact ⟨(RX2, TX2, 5), rfl, tw_1556⟩
  | 4, _ => exact ⟨(RX3, TX3, 3), rfl, tw_1558⟩
  | 5, _ => exact ⟨(RX4, TX4, 5), rfl, tw_1555⟩
  | 6, _ => exact ⟨(RX5, TX5, 4), rfl, tw_1557⟩
  | 7, _ => exact ⟨(RX6, TX6, 3), rfl, tw_1549⟩
  | 8, _ => exact ⟨(RX7, TX7, 3), rfl, tw_1548⟩
  | 9, _ => exact ⟨(RX8, TX8, 6), rfl, tw_1551⟩
  | 10, _ => exact ⟨(RX9, TX9, 6), rfl, tw_1550⟩
  | 11, _ => exact ⟨(RX10, TX10, 4), rfl, tw_1546⟩
  | 12, _ => exact ⟨(RX11, TX11, 11), rfl, tw_1545⟩
  | 13, _ => exact ⟨(RX12, TX12, 58), rfl, tw_1553⟩
  | c + 14, hc => exact absurd hc (by omega)
theorem any_obj {D : va_G} {ac : Nat → ClassId} {M : Mem} {H : Heap} {s : State} {G : EG} {A : Nat → Prop} (hP : PW D ac M H) (hKW : KW D ac s) (hEV : EV G A s s.heap) {v : Nat} (h1 : 1 ≤ gK M v) (h2 : gK M v ≤ 14) : va_Any "java/lang/Object" s H v := by
  obtain ⟨c, hc⟩ : ∃ c, gK M v = c + 1 := ⟨gK M v - 1, by omega⟩
  obtain ⟨q, hq, hw⟩ := cast_obj c (by omega)
  obtain ⟨cell, g1, g2, g3⟩ := hP.cell (C := q.1) (Tb := q.2.1) (N := q.2.2) hKW hq (by omega) hc
  obtain ⟨kC, hkC, -⟩ := Vm.findClass_spec g3
  refine ⟨cell, g1, g2, ⟨kC, hkC⟩, fun comp hcomp => ?_⟩
  obtain ⟨c0, t0, f1, f2, f3⟩ := Cond.castable_spec (va_Nw.use (A := #[]) rfl (hEV.2.2.2.2.2.2.1 _ hw))
  cases g3.symm.trans f1
  cases hcomp.symm.trans f2
  exact f3
theorem r_aast {X : Option Cx} {V : Option Value × Mem × EG} {own : String} {cc : ByteArray} {nL : Nat} {rt : Option FieldType} {fr lo : Nat} {pc : Nat} {M : Mem} {Kf : List (Nat × Nat)} {L : List (Nat × Value)} {st : List Value} {a v j : Nat} {i : Int32} {β : Type} {k : Mem → Option β} {res : β} (hj : Kf[j]? = some (a, 23)) (hd : decode cc pc = .ok (.aastore, 1)) (hF : grd ((0 ≤ i.toInt ∧ i.toInt < (gN M a : Int)) ∧ 1 ≤ gK M v ∧ gK M v ≤ 14) (bnd (sO M a (ixn i) (some v)) k) = some res) (kk : ∀ M1, k M1 = some res → T X V (own, cc, nL, rt, fr, lo) M1 Kf L st (pc + 1)) : T X V (own, cc, nL, rt, fr, lo) M Kf L (.ref v :: .int i :: .ref a :: st) pc := by
  obtain ⟨⟨hin, hv1, hv2⟩, hF⟩ := grd_e hF
  have kk := kk _ hF
  have hin := vp_in_iff.mpr hin
  refine ⟨kk.1, fun x hX Z => ?_⟩
  have kk := kk.2 x hX Z
  obtain ⟨p, l, e0, R, s, m, args, below, meth, c0, D, ac, M0⟩ := x
  obtain ⟨hx, hb, hr, hml, hown, hts, hKW, hEV, hlk, hR, hgE⟩ := Z
  intro hle hf H locs ls hP hS hl
  have hkd : gK M a = 23 := (hf _ (List.mem_of_getElem? hj)).1
  have hA : ownM M0 a := hle.2.2.1 a (Or.inl (by show gK M a ≠ 0; omega))
  have hlt : i.toNatClampNeg < gN M a := Nat.not_le.mp fun q => hin (Or.inr q)
  have h0 : ¬ i < 0 := fun q => hin (Or.inl q)
  obtain ⟨cellV, g1, g3, ⟨kC, hkC⟩, hasg⟩ := any_obj hP hKW hEV hv1 hv2
  obtain ⟨kA, comp, k1, k2, k3, -⟩ := (hKW.2 3 _ rfl).2
  obtain ⟨kE, hkE, -⟩ := Vm.findClass_spec k3
  refine W.aast hx hb (hP.2.2.2.2.2.2.1 a hkd) (fun q h => by cases h) (fun h => by cases h) k1 k2 rfl hkE ⟨h0, by show _ < (arrV _ _ _).slots.size; rw [arrV_size]; exact hlt⟩ g1 (fun q h => by rw [h] at g3; cases g3) hkC (hasg _ k3) rfl rfl hd fun H1 e z oq => ?_
  refine kk (hle.same rfl rfl rfl rfl) (kinds_same rfl hf) H1 _ ls (hP.seta (a := a) (by omega) ⟨rfl, rfl, rfl, rfl, rfl, rfl⟩ (fun x hxa => ⟨rfl, rfl, ?_⟩) z oq ?_ ?_ ?_ ?_ ?_) (hS.put z oq hA) hl
  · funext y
    exact if_neg (fun h9 => hxa h9.1)
  all_goals first
    | (intro h9; exfalso; omega)
    | (intro _
       rw [e]
       rw [vp_cell_q, vp_cell_q, arrV_store]
       congr 2
       funext q
       by_cases hq : q = i.toNatClampNeg
       · subst hq
         simp [updV, sO, gO, mk, up2, ixn, va_rf]
       · simp [updV, sO, gO, mk, up2, ixn, hq])
theorem r_tabIn {X : Option Cx} {V : Option Value × Mem × EG} {own : String} {cc : ByteArray} {nL : Nat} {rt : Option FieldType} {fr lo : Nat} {pc : Nat} {M : Mem} {Kf : List (Nat × Nat)} {L : List (Nat × Value)} {st : List Value} {dflt lo0 hi0 : Int} {offs : Array Int} {len : Nat} {x : Int32} {off : Int} {tgt : Nat} (hd : decode cc pc = .ok (.tableswitch dflt lo0 hi0 offs, len)) (h1 : ¬ x.toInt < lo0) (h2 : ¬ hi0 < x.toInt) (ho : offs[(x.toInt - lo0).toNat]? = some off) (ht : (pc : Int) + off = (tgt : Int)) (kk : T X V (own, cc, nL, rt, fr, lo) M Kf L st tgt) : T X V (own, cc, nL, rt, fr, lo) M Kf L (.int x :: st) pc := by
  refine ⟨kk.1, fun x hX Z => ?_⟩
  have kk := kk.2 x hX Z
  obtain ⟨p, l, e0, R, s, m, args, below, meth, c0, D, ac, M0⟩ := x
  exact fun hle hf H locs ls hP hS hl => lv_tableIn Z.1 Z.2.1 hd h1 h2 ho ht (kk hle hf H locs ls hP hS hl)
theorem r_tabOut {X : Option Cx} {V : Option Value × Mem × EG} {own : String} {cc : ByteArray} {nL : Nat} {rt : Option FieldType} {fr lo : Nat} {pc : Nat} {M : Mem} {Kf : List (Nat × Nat)} {L : List (Nat × Value)} {st : List Value} {dflt lo0 hi0 : Int} {offs : Array Int} {len : Nat} {x : Int32} {tgt : Nat} (hd : decode cc pc = .ok (.tableswitch dflt lo0 hi0 offs, len)) (h : x.toInt < lo0 ∨ hi0 < x.toInt) (ht : (pc : Int) + dflt = (tgt : Int)) (kk : T X V (own, cc, nL, rt, fr, lo) M Kf L st tgt) : T X V (own, cc, nL, rt, fr, lo) M Kf L (.int x :: st) pc := by
  refine ⟨kk.1, fun x hX Z => ?_⟩
  have kk := kk.2 x hX Z
  obtain ⟨p, l, e0, R, s, m, args, below, meth, c0, D, ac, M0⟩ := x
  exact fun hle hf H locs ls hP hS hl => lv_tableOut Z.1 Z.2.1 hd h ht (kk hle hf H locs ls hP hS hl)
/-- a switch in the functional programs: the numbers' branches by their places, else the last -/
def swi {β : Type} (x : Int32) (lo : Int) (bs : List (Option β)) (d : Option β) : Option β := if x.toInt < lo then d else (bs[(x.toInt - lo).toNat]?).getD d
theorem swi_e {β : Type} {x : Int32} {lo hi : Int} {n : Nat} {bs : List (Option β)} {d : Option β} {r : β} (hn : bs.length = n) (hhi : hi = lo + n - 1) (h : swi x lo bs d = some r) : ((x.toInt < lo ∨ hi < x.toInt) ∧ d = some r) ∨ (¬ x.toInt < lo ∧ ¬ hi < x.toInt ∧ ∃ k b, k < n ∧ (x.toInt - lo).toNat = k ∧ bs[k]? = some b ∧ b = some r) := by
  unfold swi at h
  by_cases h1 : x.toInt < lo
  · rw [if_pos h1] at h
    exact Or.inl ⟨Or.inl h1, h⟩
  · rw [if_neg h1] at h
    by_cases h2 : hi < x.toInt
    · rw [List.getElem?_eq_none (by omega)] at h
      exact Or.inl ⟨Or.inr h2, h⟩
    · right
      have hk : (x.toInt - lo).toNat < bs.length := by omega
      rw [List.getElem?_eq_getElem hk] at h
      exact ⟨h1, h2, _, _, by omega, rfl, List.getElem?_eq_getElem hk, h⟩
def nCl (M : Mem) (a : Nat) : Mem := mk (up1 (gK M) (gH M) 20) (up1 (gN M) (gH M) (gN M a)) (gI M) (gJ M) (gR M) (fun x i => if x = gH M then gA M a i else gA M x i) (upr (gB M) (gH M) 0) (upr (gO M) (gH M) none) (gH M + 1) (gS M + gN M a) (gE M)
/-- a reference is loaded: it isn't null, and of kind k -/
def lr {β : Type} (r : Option Nat) (K : Nat → Nat) (k : Nat) (f : Nat → Option β) : Option β := nn r fun b => grd (K b = k) (f b)
theorem r_lr {X : Option Cx} {V : Option Value × Mem × EG} {own : String} {cc : ByteArray} {nL : Nat} {rt : Option FieldType} {fr lo : Nat} {pc : Nat} {M : Mem} {Kf : List (Nat × Nat)} {L : List (Nat × Value)} {st : List Value} {r : Option Nat} {k : Nat} {β : Type} {kq : Nat → Option β} {res : β} (hk : k ≠ 0) (hF : lr r (gK M) k kq = some res) (kk : ∀ b, kq b = some res → T X V (own, cc, nL, rt, fr, lo) M ((b, k) :: Kf) L (.ref b :: st) pc) : T X V (own, cc, nL, rt, fr, lo) M Kf L (va_rf r :: st) pc := by
  refine r_nn hF (fun b _ hF => ?_)
  exact r_kind hk hF (fun hF => kk b hF)
abbrev inb (i : Int32) (n : Nat) : Prop := 0 ≤ i.toInt ∧ i.toInt < (n : Int)
def FD : Nat := 30
theorem r_ifnullR {X : Option Cx} {V : Option Value × Mem × EG} {own : String} {cc : ByteArray} {nL : Nat} {rt : Option FieldType} {fr lo : Nat} {pc : Nat} {M : Mem} {Kf : List (Nat × Nat)} {L : List (Nat × Value)} {st : List Value} {a : Nat} {off : Int} (hd : decode cc pc = .ok (.ifnull off, 3)) (kk : T X V (own, cc, nL, rt, fr, lo) M Kf L st (pc + 3)) : T X V (own, cc, nL, rt, fr, lo) M Kf L (.ref a :: st) pc := by
  refine ⟨kk.1, fun x hX Z => ?_⟩
  have kk := kk.2 x hX Z
  obtain ⟨p, l, e0, R, s, m, args, below, meth, c0, D, ac, M0⟩ := x
  exact fun hle hf H locs ls hP hS hl => lv_ifnull Z.1 Z.2.1 hd (kk hle hf H locs ls hP hS hl)
theorem r_ifnullN {X : Option Cx} {V : Option Value × Mem × EG} {own : String} {cc : ByteArray} {nL : Nat} {rt : Option FieldType} {fr lo : Nat} {pc : Nat} {M : Mem} {Kf : List (Nat × Nat)} {L : List (Nat × Value)} {st : List Value} {off : Int} (hd : decode cc pc = .ok (.ifnull off, 3)) {tgt : Nat} (ht : (pc : Int) + off = (tgt : Int)) (kk : T X V (own, cc, nL, rt, fr, lo) M Kf L st tgt) : T X V (own, cc, nL, rt, fr, lo) M Kf L (.null :: st) pc := by
  refine ⟨kk.1, fun x hX Z => ?_⟩
  have kk := kk.2 x hX Z
  obtain ⟨p, l, e0, R, s, m, args, below, meth, c0, D, ac, M0⟩ := x
  exact fun hle hf H locs ls hP hS hl => lv_ifnullN Z.1 Z.2.1 hd ht (kk hle hf H locs ls hP hS hl)
theorem r_ifnonnullR {X : Option Cx} {V : Option Value × Mem × EG} {own : String} {cc : ByteArray} {nL : Nat} {rt : Option FieldType} {fr lo : Nat} {pc : Nat} {M : Mem} {Kf : List (Nat × Nat)} {L : List (Nat × Value)} {st : List Value} {a : Nat} {off : Int} (hd : decode cc pc = .ok (.ifnonnull off, 3)) {tgt : Nat} (ht : (pc : Int) + off = (tgt : Int)) (kk : T X V (own, cc, nL, rt, fr, lo) M Kf L st tgt) : T X V (own, cc, nL, rt, fr, lo) M Kf L (.ref a :: st) pc := by
  refine ⟨kk.1, fun x hX Z => ?_⟩
  have kk := kk.2 x hX Z
  obtain ⟨p, l, e0, R, s, m, args, below, meth, c0, D, ac, M0⟩ := x
  exact fun hle hf H locs ls hP hS hl => lv_ifnonnull Z.1 Z.2.1 hd ht (kk hle hf H locs ls hP hS hl)
theorem r_ifnonnullN {X : Option Cx} {V : Option Value × Mem × EG} {own : String} {cc : ByteArray} {nL : Nat} {rt : Option FieldType} {fr lo : Nat} {pc : Nat} {M : Mem} {Kf : List (Nat × Nat)} {L : List (Nat × Value)} {st : List Value} {off : Int} (hd : decode cc pc = .ok (.ifnonnull off, 3)) (kk : T X V (own, cc, nL, rt, fr, lo) M Kf L st (pc + 3)) : T X V (own, cc, nL, rt, fr, lo) M Kf L (.null :: st) pc := by
  refine ⟨kk.1, fun x hX Z => ?_⟩
  have kk := kk.2 x hX Z
  obtain ⟨p, l, e0, R, s, m, args, below, meth, c0, D, ac, M0⟩ := x
  exact fun hle hf H locs ls hP hS hl => lv_ifnonnullN Z.1 Z.2.1 hd (kk hle hf H locs ls hP hS hl)
theorem r_acmpS_ne {X : Option Cx} {V : Option Value × Mem × EG} {own : String} {cc : ByteArray} {nL : Nat} {rt : Option FieldType} {fr lo : Nat} {pc : Nat} {M : Mem} {Kf : List (Nat × Nat)} {L : List (Nat × Value)} {st : List Value} {a : Nat} {off : Int} {tgt : Nat} (hd : decode cc pc = .ok (.if_acmp .ne off, 3)) (ht : (pc : Int) + off = (tgt : Int)) (kk : T X V (own, cc, nL, rt, fr, lo) M Kf L st (pc + 3)) : T X V (own, cc, nL, rt, fr, lo) M Kf L (.ref a :: .ref a :: st) pc := by
  refine ⟨kk.1, fun x hX Z => ?_⟩
  have kk := kk.2 x hX Z
  obtain ⟨p, l, e0, R, s, m, args, below, meth, c0, D, ac, M0⟩ := x
  exact fun hle hf H locs ls hP hS hl => lv_acmp_ne (rx := some a) (ry := some a) Z.1 Z.2.1 hd ht (fun h9 => absurd rfl h9) (fun _ => kk hle hf H locs ls hP hS hl)
theorem r_ldcM {X : Option Cx} {V : Option Value × Mem × EG} {own : String} {cc : ByteArray} {nL : Nat} {rt : Option FieldType} {fr lo : Nat} {pc : Nat} {M : Mem} {Kf : List (Nat × Nat)} {L : List (Nat × Value)} {st : List Value} {ix : Nat} (hcl : Cond.classLink own ix "[Ljava/lang/Object;" ∈ lw_g) (hd : decode cc pc = .ok (.ldc ix, 2)) (kk : T X V (own, cc, nL, rt, fr, lo) M Kf L (.ref V.2.2.2.2.2 :: st) (pc + 2)) : T X V (own, cc, nL, rt, fr, lo) M Kf L st pc := by
  refine ⟨kk.1, fun x hX Z => ?_⟩
  have kk := kk.2 x hX Z
  obtain ⟨p, l, e0, R, s, m, args, below, meth, c0, D, ac, M0⟩ := x
  obtain ⟨hx, hb, hr, hml, hown, hts, hKW, hEV, hlk, hR, hgE⟩ := Z
  intro hle hf H locs ls hP hS hl
  exact va_ldcM hx hb hown (hts _ hcl) hEV.2.2.2.2.2.1 hd (kk hle hf H locs ls hP hS hl)
theorem r_getC {X : Option Cx} {V : Option Value × Mem × EG} {own : String} {cc : ByteArray} {nL : Nat} {rt : Option FieldType} {fr lo : Nat} {pc : Nat} {M : Mem} {Kf : List (Nat × Nat)} {L : List (Nat × Value)} {st : List Value} {a j ix : Nat} (hj : Kf[j]? = some (a, 23)) (w1 : Cond.methodLink own ix ⟨"java/lang/Object", "getClass", "()Ljava/lang/Class;"⟩ ∈ lw_g) (w2 : Cond.selects "[Ljava/lang/Object;" ⟨"java/lang/Object", "getClass", "()Ljava/lang/Class;"⟩ ⟨"java/lang/Object", "getClass", "()Ljava/lang/Class;"⟩ ∈ lw_g) (w3 : Cond.instanceMethod ⟨"java/lang/Object", "getClass", "()Ljava/lang/Class;"⟩ ∈ lw_g) (w4 : Cond.native ⟨"java/lang/Object", "getClass", "()Ljava/lang/Class;"⟩ ∈ lw_g) (hroom : 1 ≤ fr ∧ 30 ≤ lo) (hcat : (st.map fun v => v.category).sum ≤ 8) (hd : decode cc pc = .ok (.invokevirtual ix, 3)) (kk : T X V (own, cc, nL, rt, fr, lo) M Kf L (.ref V.2.2.2.2.2 :: st) (pc + 3)) : T X V (own, cc, nL, rt, fr, lo) M Kf L (.ref a :: st) pc := by
  refine ⟨kk.1, fun x hX Z => ?_⟩
  have kk := kk.2 x hX Z
  obtain ⟨p, l, e0, R, s, m, args, below, meth, c0, D, ac, M0⟩ := x
  obtain ⟨hx, hb, hr, hml, hown, hts, hKW, hEV, hlk, hR, hgE⟩ := Z
  intro hle hf H locs ls hP hS hl
  subst hR
  have hkd : gK M a = 23 := (hf _ (List.mem_of_getElem? hj)).1
  have hn := va_nmO (hKW.2 3 _ rfl).2 (nm := "[Ljava/lang/Object;") (by decide +kernel)
  exact va_getC (C := "[Ljava/lang/Object;") hx hb (by rw [hml]; exact hl.1.symm) hown (hts _ w1) (va_Dc.use hEV.2.2.2.2.2.2.2.2.1) (hts _ w2) (hts _ w3) (hts _ w4) hEV.2.2.2.2.2.1 ⟨_, hP.2.2.2.2.2.2.1 a hkd, rfl, hn⟩ hroom.1 (by have := hroom.2; show _ + 14 ≤ lo; omega) hd (kk hle hf H locs ls hP hS hl)
abbrev cpOk (M : Mem) (dst src : Nat) (n : Int32) : Prop := (0 ≤ n.toInt ∧ n.toInt ≤ (gN M src : Int) ∧ n.toInt ≤ (gN M dst : Int)) ∧ (List.range (ixn n)).all (fun i => match gO M src i with | none => true | some y => decide (1 ≤ gK M y) && decide (gK M y ≤ 14)) = true
def cpO (M : Mem) (dst src n : Nat) : Mem := mk (gK M) (gN M) (gI M) (gJ M) (gR M) (gA M) (gB M) (fun x i => if x = dst ∧ i < n then gO M src i else gO M x i) (gH M) (gS M) (gE M)
theorem r_mmax {X : Option Cx} {V : Option Value × Mem × EG} {own : String} {cc : ByteArray} {nL : Nat} {rt : Option FieldType} {fr lo : Nat} {pc : Nat} {M : Mem} {Kf : List (Nat × Nat)} {L : List (Nat × Value)} {st : List Value} {ix : Nat} {x y : Int32} (w1 : Cond.methodLink own ix Lib.Math.max.name ∈ lw_g) (w2 : Cond.static Lib.Math.max.name ∈ lw_g) (w3 : Cond.initialized "java/lang/Math" ∈ lw_g) (w4 : Cond.code Lib.Math.max.name Lib.Math.max.code 2 (some .int) ∈ lw_g) (hroom : 1 ≤ fr ∧ 30 ≤ lo) (hcat : (st.map fun v => v.category).sum ≤ 8) (hd : decode cc pc = .ok (.invokestatic ix, 3)) (kk : T X V (own, cc, nL, rt, fr, lo) M Kf L (.int (if x < y then y else x) :: st) (pc + 3)) : T X V (own, cc, nL, rt, fr, lo) M Kf L (.int y :: .int x :: st) pc := by
  have h2 := kk.1
  refine ⟨kk.1, fun x hX Z => ?_⟩
  have kk := kk.2 x hX Z
  obtain ⟨p, l, e0, R, s, m, args, below, meth, c0, D, ac, M0⟩ := x
  obtain ⟨hx, hb, hr, hml, hown, hts, hKW, hEV, hlk, hR, hgE⟩ := Z
  intro hle hf H locs ls hP hS hl
  subst hR
  exact va_mmax hx hb (by rw [hml]; exact hl.1.symm) hown (hts _ w1) (hts _ w2) (hts _ w3) (hts _ w4) hroom.1 (by have := hroom.2; show _ ≤ lo; omega) (by show _ ≤ gH V.2.1 - gH M0; omega) (by show _ ≤ gS V.2.1 - gS M0; omega) hd (kk hle hf H locs ls hP hS hl)
theorem r_mmin {X : Option Cx} {V : Option Value × Mem × EG} {own : String} {cc : ByteArray} {nL : Nat} {rt : Option FieldType} {fr lo : Nat} {pc : Nat} {M : Mem} {Kf : List (Nat × Nat)} {L : List (Nat × Value)} {st : List Value} {ix : Nat} {x y : Int32} (w1 : Cond.methodLink own ix Lib.Math.min.name ∈ lw_g) (w2 : Cond.static Lib.Math.min.name ∈ lw_g) (w3 : Cond.initialized "java/lang/Math" ∈ lw_g) (w4 : Cond.code Lib.Math.min.name Lib.Math.min.code 2 (some .int) ∈ lw_g) (hroom : 1 ≤ fr ∧ 30 ≤ lo) (hcat : (st.map fun v => v.category).sum ≤ 8) (hd : decode cc pc = .ok (.invokestatic ix, 3)) (kk : T X V (own, cc, nL, rt, fr, lo) M Kf L (.int (if y < x then y else x) :: st) (pc + 3)) : T X V (own, cc, nL, rt, fr, lo) M Kf L (.int y :: .int x :: st) pc := by
  have h2 := kk.1
  refine ⟨kk.1, fun x hX Z => ?_⟩
  have kk := kk.2 x hX Z
  obtain ⟨p, l, e0, R, s, m, args, below, meth, c0, D, ac, M0⟩ := x
  obtain ⟨hx, hb, hr, hml, hown, hts, hKW, hEV, hlk, hR, hgE⟩ := Z
  intro hle hf H locs ls hP hS hl
  subst hR
  exact va_mmin hx hb (by rw [hml]; exact hl.1.symm) hown (hts _ w1) (hts _ w2) (hts _ w3) (hts _ w4) hroom.1 (by have := hroom.2; show _ ≤ lo; omega) (by show _ ≤ gH V.2.1 - gH M0; omega) (by show _ ≤ gS V.2.1 - gS M0; omega) hd (kk hle hf H locs ls hP hS hl)
theorem r_mabs {X : Option Cx} {V : Option Value × Mem × EG} {own : String} {cc : ByteArray} {nL : Nat} {rt : Option FieldType} {fr lo : Nat} {pc : Nat} {M : Mem} {Kf : List (Nat × Nat)} {L : List (Nat × Value)} {st : List Value} {ix : Nat} {x : Int32} (w1 : Cond.methodLink own ix Lib.Math.abs.name ∈ lw_g) (w2 : Cond.static Lib.Math.abs.name ∈ lw_g) (w3 : Cond.initialized "java/lang/Math" ∈ lw_g) (w4 : Cond.code Lib.Math.abs.name Lib.Math.abs.code 1 (some .int) ∈ lw_g) (hroom : 1 ≤ fr ∧ 30 ≤ lo) (hcat : (st.map fun v => v.category).sum ≤ 8) (hd : decode cc pc = .ok (.invokestatic ix, 3)) (kk : T X V (own, cc, nL, rt, fr, lo) M Kf L (.int (if 0 ≤ x then x else 0 - x) :: st) (pc + 3)) : T X V (own, cc, nL, rt, fr, lo) M Kf L (.int x :: st) pc := by
  have h2 := kk.1
  refine ⟨kk.1, fun x hX Z => ?_⟩
  have kk := kk.2 x hX Z
  obtain ⟨p, l, e0, R, s, m, args, below, meth, c0, D, ac, M0⟩ := x
  obtain ⟨hx, hb, hr, hml, hown, hts, hKW, hEV, hlk, hR, hgE⟩ := Z
  intro hle hf H locs ls hP hS hl
  subst hR
  exact va_mabs hx hb (by rw [hml]; exact hl.1.symm) hown (hts _ w1) (hts _ w2) (hts _ w3) (hts _ w4) hroom.1 (by have := hroom.2; show _ ≤ lo; omega) (by show _ ≤ gH V.2.1 - gH M0; omega) (by show _ ≤ gS V.2.1 - gS M0; omega) hd (kk hle hf H locs ls hP hS hl)
theorem r_mmaxl {X : Option Cx} {V : Option Value × Mem × EG} {own : String} {cc : ByteArray} {nL : Nat} {rt : Option FieldType} {fr lo : Nat} {pc : Nat} {M : Mem} {Kf : List (Nat × Nat)} {L : List (Nat × Value)} {st : List Value} {ix : Nat} {x y : Int64} (w1 : Cond.methodLink own ix Lib.MathLoose.max_long.x ∈ lw_g) (w2 : Cond.static Lib.MathLoose.max_long.x ∈ lw_g) (w3 : Cond.initialized "java/lang/Math" ∈ lw_g) (w4 : Cond.code Lib.MathLoose.max_long.x Lib.MathLoose.max_long.code 4 (some .long) ∈ lw_g) (hroom : 1 ≤ fr ∧ 30 ≤ lo) (hcat : (st.map fun v => v.category).sum ≤ 8) (hd : decode cc pc = .ok (.invokestatic ix, 3)) (kk : T X V (own, cc, nL, rt, fr, lo) M Kf L (.long (if y < x then x else y) :: st) (pc + 3)) : T X V (own, cc, nL, rt, fr, lo) M Kf L (.long y :: .long x :: st) pc := by
  have h2 := kk.1
  refine ⟨kk.1, fun x hX Z => ?_⟩
  have kk := kk.2 x hX Z
  obtain ⟨p, l, e0, R, s, m, args, below, meth, c0, D, ac, M0⟩ := x
  obtain ⟨hx, hb, hr, hml, hown, hts, hKW, hEV, hlk, hR, hgE⟩ := Z
  intro hle hf H locs ls hP hS hl
  subst hR
  exact va_mmax_long hx hb (by rw [hml]; exact hl.1.symm) hown (hts _ w1) (hts _ w2) (hts _ w3) (hts _ w4) hroom.1 (by have := hroom.2; show _ ≤ lo; omega) (by show _ ≤ gH V.2.1 - gH M0; omega) (by show _ ≤ gS V.2.1 - gS M0; omega) hd (kk hle hf H locs ls hP hS hl)
theorem r_mminl {X : Option Cx} {V : Option Value × Mem × EG} {own : String} {cc : ByteArray} {nL : Nat} {rt : Option FieldType} {fr lo : Nat} {pc : Nat} {M : Mem} {Kf : List (Nat × Nat)} {L : List (Nat × Value)} {st : List Value} {ix : Nat} {x y : Int64} (w1 : Cond.methodLink own ix Lib.MathLoose.min_long.x ∈ lw_g) (w2 : Cond.static Lib.MathLoose.min_long.x ∈ lw_g) (w3 : Cond.initialized "java/lang/Math" ∈ lw_g) (w4 : Cond.code Lib.MathLoose.min_long.x Lib.MathLoose.min_long.code 4 (some .long) ∈ lw_g) (hroom : 1 ≤ fr ∧ 30 ≤ lo) (hcat : (st.map fun v => v.category).sum ≤ 8) (hd : decode cc pc = .ok (.invokestatic ix, 3)) (kk : T X V (own, cc, nL, rt, fr, lo) M Kf L (.long (if y < x then y else x) :: st) (pc + 3)) : T X V (own, cc, nL, rt, fr, lo) M Kf L (.long y :: .long x :: st) pc := by
  have h2 := kk.1
  refine ⟨kk.1, fun x hX Z => ?_⟩
  have kk := kk.2 x hX Z
  obtain ⟨p, l, e0, R, s, m, args, below, meth, c0, D, ac, M0⟩ := x
  obtain ⟨hx, hb, hr, hml, hown, hts, hKW, hEV, hlk, hR, hgE⟩ := Z
  intro hle hf H locs ls hP hS hl
  subst hR
  exact va_mmin_long hx hb (by rw [hml]; exact hl.1.symm) hown (hts _ w1) (hts _ w2) (hts _ w3) (hts _ w4) hroom.1 (by have := hroom.2; show _ ≤ lo; omega) (by show _ ≤ gH V.2.1 - gH M0; omega) (by show _ ≤ gS V.2.1 - gS M0; omega) hd (kk hle hf H locs ls hP hS hl)
def fmI (x y : Int32) : Int32 := if 0 ≤ x ^^^ y then x - x / y * y else if x - x / y * y = 0 then x - x / y * y else x - x / y * y + y
theorem r_mfm {X : Option Cx} {V : Option Value × Mem × EG} {own : String} {cc : ByteArray} {nL : Nat} {rt : Option FieldType} {fr lo : Nat} {pc : Nat} {M : Mem} {Kf : List (Nat × Nat)} {L : List (Nat × Value)} {st : List Value} {ix : Nat} {x y : Int32} {β : Type} {k : Option β} {res : β} (w1 : Cond.methodLink own ix yJ9_floorMod_7cf53 ∈ lw_g) (w2 : Cond.static yJ9_floorMod_7cf53 ∈ lw_g) (w3 : Cond.initialized "java/lang/Math" ∈ lw_g) (w4 : Cond.code yJ9_floorMod_7cf53 cJ9_floorMod_7cf53 3 (some .int) ∈ lw_g) (hroom : 1 ≤ fr ∧ 30 ≤ lo) (hcat : (st.map fun v => v.category).sum ≤ 8) (hd : decode cc pc = .ok (.invokestatic ix, 3)) (hF : grd (¬ y = 0) k = some res) (kk : k = some res → T X V (own, cc, nL, rt, fr, lo) M Kf L (.int (fmI x y) :: st) (pc + 3)) : T X V (own, cc, nL, rt, fr, lo) M Kf L (.int y :: .int x :: st) pc := by
  obtain ⟨hy0, hF⟩ := grd_e hF
  have kk := kk hF
  refine ⟨kk.1, fun X hX Z => ?_⟩
  have m1 : gH M ≤ gH V.2.1 := kk.1.1
  have m2 : gS M ≤ gS V.2.1 := kk.1.2
  have kk := kk.2 X hX Z
  obtain ⟨p, l, e0, R, s, m, args, below, meth, c0, D, ac, M0⟩ := X
  obtain ⟨hx, hb, hr, hml, hown, hts, hKW, hEV, hlk, hR, hgE⟩ := Z
  intro hle hf H locs ls hP hS hl
  subst hR
  have hp2 : (parseMethodDescriptor yJ9_floorMod_7cf53.desc).map (fun d => d.parameters.length) = some 2 := by decide +kernel
  intro T hT Xs
  obtain ⟨v, vm1, B, -, X', ⟨hpa, hv⟩, step⟩ := Jvm.LawKit.callS Xs hx hown (hts _ w1) (hts _ w2) (hts _ w3) (hts _ w4) ⟨by decide, by decide⟩ (Jvm.Free.MCB.FloorMod.pays (l := l) (W := 8) (by show 0 + 1 ≤ fr; omega) (by show 8 + (3 + 11) + 0 ≤ lo; omega) (hts _ w4) (hts _ w3)) (g := F0 m pc ls (.int y :: .int x :: st)) rfl (by rw [hml]; exact hl.1) (argsL := [.int x, .int y]) (rest := st) (fun sig hs => by rw [hs] at hp2; exact (Option.some.inj hp2).symm) rfl (by show 2 * 0 + _ ≤ 8; omega) (by rw [hb]; exact hd) (fun vm1 _ => ⟨by show _ ≤ gH V.2.1 - gH M0; show gH M - gH M0 ≤ _; omega, by show _ ≤ gS V.2.1 - gS M0; show gS M - gS M0 ≤ _; omega, (x, y), rfl, hy0⟩)
  have h1 : B.U.heap = T.heap := hpa.1
  have h2 : B.locs = locs := hpa.2.1
  have h3 : B.cells = gH M - gH M0 := hpa.2.2.1
  have h4 : B.slots = gS M - gS M0 := hpa.2.2.2
  rw [h2, h3, h4] at X'
  have ev : v = some (.int (fmI x y)) := hv (x, y) ⟨rfl, hy0⟩
  subst ev
  obtain ⟨t, b1, b2⟩ := kk hle hf H locs ls hP hS hl B.U (by rw [h1]; exact hT) X'
  exact ⟨t, step t b1, b2⟩
theorem PW.mna {D : va_G} {ac : Nat → ClassId} {M : Mem} {H H1 : Heap} (h : PW D ac M H) {n k : Nat} (z : H1.size = H.size + 1 + n) (oq : ∀ q : Nat, q < H.size → H1[q]? = H[q]?)
    (h0 : H1[gH M]? = some (vp_cell (ac 4) (n, .inr (.inr (.inr (.inr (fun i => if i < n then some (gH M + 1 + i) else none))))))) (h1 : ∀ j : Nat, j < n → H1[gH M + 1 + j]? = some (vp_cell (ac 1) (k, .inr (.inl (fun _ => 0))))) : PW D ac (nM M n k) H1 := by
  have kout : gK (nM M n k) (gH M) = 24 := if_pos rfl
  have nout : gN (nM M n k) (gH M) = n := if_pos rfl
  have oout : gO (nM M n k) (gH M) = fun i => if i < n then some (gH M + 1 + i) else none := funext fun _ => if_pos rfl
  have kin : ∀ x, x ≠ gH M → gH M < x ∧ x ≤ gH M + n → gK (nM M n k) x = 21 ∧ gN (nM M n k) x = k ∧ gB (nM M n k) x = fun _ => 0 := fun x e e2 => ⟨(if_neg e).trans (if_pos e2), (if_neg e).trans (if_pos e2), funext fun _ => if_pos e2⟩
  have old : ∀ x, x ≠ gH M → ¬ (gH M < x ∧ x ≤ gH M + n) → gK (nM M n k) x = gK M x ∧ gN (nM M n k) x = gN M x ∧ gB (nM M n k) x = gB M x ∧ gO (nM M n k) x = gO M x := fun x e e2 => ⟨(if_neg e).trans (if_neg e2), (if_neg e).trans (if_neg e2), funext fun _ => if_neg e2, funext fun _ => if_neg e⟩
  have hlt : ∀ x, x ≠ gH M → ¬ (gH M < x ∧ x ≤ gH M + n) → gK (nM M n k) x ≠ 0 → H1[x]? = H[x]? := fun x e e2 hx => oq x (by rw [h.1]; exact h.2.1 x (by rw [← (old x e e2).1]; exact hx))
  refine ⟨by rw [z, h.1]; rfl, ?_, ?_, ?_, ?_, ?_, ?_, ?_⟩
  · intro x hx
    show x < gH M + 1 + n
    by_cases e : x = gH M
    · omega
    · by_cases e2 : gH M < x ∧ x ≤ gH M + n
      · omega
      · have := h.2.1 x (by rw [← (old x e e2).1]; exact hx)
        omega
  · intro x d hd hd14
    by_cases e : x = gH M
    · subst e
      omega
    · by_cases e2 : gH M < x ∧ x ≤ gH M + n
      · have := (kin x e e2).1
        omega
      · exact ((h.2.2.1 x d ((old x e e2).1.symm.trans hd) hd14).kept (hlt x e e2 (by omega))).to (fun j _ => rfl)
  · intro x hx
    by_cases e : x = gH M
    · subst e
      omega
    · by_cases e2 : gH M < x ∧ x ≤ gH M + n
      · have := (kin x e e2).1
        omega
      · rw [hlt x e e2 (by omega), (old x e e2).2.1]
        exact h.2.2.2.1 x ((old x e e2).1.symm.trans hx)
  · intro x hx
    by_cases e : x = gH M
    · subst e
      omega
    · by_cases e2 : gH M < x ∧ x ≤ gH M + n
      · rw [(kin x e e2).2.1, (kin x e e2).2.2]
        have := h1 (x - (gH M + 1)) (by omega)
        rw [show gH M + 1 + (x - (gH M + 1)) = x by omega] at this
        exact this
      · rw [hlt x e e2 (by omega), (old x e e2).2.1, (old x e e2).2.2.1]
        exact h.2.2.2.2.1 x ((old x e e2).1.symm.trans hx)
  · intro x hx
    by_cases e : x = gH M
    · subst e
      omega
    · by_cases e2 : gH M < x ∧ x ≤ gH M + n
      · have := (kin x e e2).1
        omega
      · rw [hlt x e e2 (by omega), (old x e e2).2.1]
        exact h.2.2.2.2.2.1 x ((old x e e2).1.symm.trans hx)
  · intro x hx
    by_cases e : x = gH M
    · subst e
      omega
    · by_cases e2 : gH M < x ∧ x ≤ gH M + n
      · have := (kin x e e2).1
        omega
      · rw [hlt x e e2 (by omega), (old x e e2).2.1, (old x e e2).2.2.2]
        exact h.2.2.2.2.2.2.1 x ((old x e e2).1.symm.trans hx)
  · intro x hx
    by_cases e : x = gH M
    · subst e
      rw [nout, oout]
      exact h0
    · by_cases e2 : gH M < x ∧ x ≤ gH M + n
      · have := (kin x e e2).1
        omega
      · rw [hlt x e e2 (by omega), (old x e e2).2.1, (old x e e2).2.2.2]
        exact h.2.2.2.2.2.2.2 x ((old x e e2).1.symm.trans hx)
theorem kinds_mna {M : Mem} {Kf : List (Nat × Nat)} {n k : Nat} (hb : ∀ a, gK M a ≠ 0 → a < gH M) (h : ∀ q ∈ Kf, gK M q.1 = q.2 ∧ q.2 ≠ 0) : ∀ q ∈ (gH M, 24) :: Kf, gK (nM M n k) q.1 = q.2 ∧ q.2 ≠ 0 := fun q hq => by
  rcases List.mem_cons.mp hq with rfl | hq
  · exact ⟨if_pos rfl, (by decide : (24 : Nat) ≠ 0)⟩
  · have e := h q hq
    have := hb q.1 (by rw [e.1]; exact e.2)
    exact ⟨((if_neg (by omega)).trans (if_neg (by omega))).trans e.1, e.2⟩
theorem Le.mna {M0 M : Mem} {n k : Nat} (h : Le M0 M) (hb : ∀ a, gK M a ≠ 0 → a < gH M) : Le M0 (nM M n k) := by
  have h1 := h.1
  have h2 := h.2.1
  refine ⟨by show gH M0 ≤ gH M + 1 + n; omega, by show gS M0 ≤ gS M + n + n * k; omega, fun q hq => ?_, fun a ha => ?_, h.2.2.2.2⟩
  · refine h.2.2.1 q ?_
    rcases hq with hq | hq
    · by_cases hn : gH M ≤ q
      · exact Or.inr hn
      · exact Or.inl (by have e : gK (nM M n k) q = gK M q := (if_neg (by omega)).trans (if_neg (by omega)); rw [← e]; exact hq)
    · exact Or.inr (by have : gH M + 1 + n ≤ q := hq; omega)
  · have e := h.2.2.2.1 a ha
    have := hb a (by rw [e]; exact ha)
    exact ((if_neg (by omega)).trans (if_neg (by omega))).trans e
theorem mn_outer (c : ClassId) (N h0 : Nat) : ∀ i : Nat, Jvm.Free.Multi.outerC c N h0 i = arrV c N (fun j => va_rf (if j < i then some (h0 + 1 + j) else none))
  | 0 => by
    show ({ cls := c, slots := Array.replicate N .null, vm := .none } : Cell) = _
    rw [arrV_new]
    refine congrArg (arrV c N) (funext fun j => ?_)
    simp [va_rf]
  | i + 1 => by
    show (Jvm.Free.Multi.outerC c N h0 i).setSlot i (.ref (h0 + 1 + i)) = _
    rw [mn_outer c N h0 i, arrV_store]
    refine congrArg (arrV c N) (funext fun j => ?_)
    by_cases e : j = i
    · subst e
      simp [updV, va_rf]
    · by_cases h : j < i
      · simp [updV, e, h, Nat.lt_succ_of_lt h]
      · simp [updV, e, h, show ¬ j < i + 1 by omega]
theorem r_mna {X : Option Cx} {V : Option Value × Mem × EG} {own : String} {cc : ByteArray} {nL : Nat} {rt : Option FieldType} {fr lo : Nat} {pc : Nat} {M : Mem} {Kf : List (Nat × Nat)} {L : List (Nat × Value)} {st : List Value} {x y : Int32} {n k ix : Nat} {β : Type} {kq : Nat → Mem → Option β} {res : β} (w1 : Cond.classLink own ix "[[J" ∈ lw_g) (w2 : Cond.arrayClass .long ∈ lw_g) (hd : decode cc pc = .ok (.multianewarray ix 2, 4)) (hn : y = Int32.ofNat n) (hk : x = Int32.ofNat k) (hF : bnd (gH M) (fun a => bnd (nM M n k) (kq a)) = some res) (kk : ∀ a M1, kq a M1 = some res → T X V (own, cc, nL, rt, fr, lo) M1 ((a, 24) :: Kf) L (.ref a :: st) (pc + 4)) (hnk : n ≤ 10000 ∧ k ≤ 10000) : T X V (own, cc, nL, rt, fr, lo) M Kf L (.int x :: .int y :: st) pc := by
  have kk := kk _ _ hF
  have m1 : gH M + 1 + n ≤ gH V.2.1 := kk.1.1
  have m2 : gS M + n + n * k ≤ gS V.2.1 := kk.1.2
  obtain ⟨hn5, hk5⟩ := hnk
  have en : y.toNatClampNeg = n := by rw [hn]; exact Int32.toNatClampNeg_ofNat_of_lt (by omega)
  have ek : x.toNatClampNeg = k := by rw [hk]; exact Int32.toNatClampNeg_ofNat_of_lt (by omega)
  have yn : ¬ y < 0 := by rw [hn, Int32.lt_iff_toInt_lt, Int32.toInt_ofNat_of_lt (by omega)]; simp
  have xn : ¬ x < 0 := by rw [hk, Int32.lt_iff_toInt_lt, Int32.toInt_ofNat_of_lt (by omega)]; simp
  refine ⟨⟨by omega, by omega⟩, fun X hX Z => ?_⟩
  have kk := kk.2 X hX Z
  obtain ⟨p, l, e0, R, s, m, args, below, meth, c0, D, ac, M0⟩ := X
  obtain ⟨hx, hb, hr, hml, hown, hts, hKW, hEV, hlk, hR, hgE⟩ := Z
  intro hle hf H locs ls hP hS hl
  subst hR
  have l1 := hle.1
  have l2 := hle.2.1
  have hnO : s.vm.findClass "[[J" = some (ac 4) := (hKW.2 4 _ rfl).2
  have hnI : s.vm.findClass "[J" = some (ac 1) := (hKW.2 1 _ rfl).2
  intro T hT Xs
  obtain ⟨vm₁, cA, comp, -, fA, fC, -, -, X', step⟩ := Xs.multianewarray2F (ty := .long) hx hown (hts _ w1) hEV.2.2.2.2.2.2.2.2.2 (hts _ w2) (g := F0 m pc ls (.int x :: .int y :: st)) rfl (by rw [hb]; exact hd) rfl yn xn (by rw [en]; omega) (by rw [ek]; show k * 8 ≤ _; omega) (by rw [ek]; omega) rfl rfl (by rw [en]; show _ + (1 + n) ≤ gH V.2.1 - gH M0; omega) (by rw [en, ek]; show _ + (n + n * k) ≤ gS V.2.1 - gS M0; omega)
  rw [en, ek] at X' step
  cases hnO.symm.trans fA
  cases hnI.symm.trans fC
  have hTh : (T.setVm vm₁).heap = H := hT
  have hgs : H.size = gH M := hP.1
  obtain ⟨f1, f2, -, -⟩ := Jvm.Free.Multi.fill_facts (T.setVm vm₁) (ac 4) (ac 1) n k (defaultValue .long) n
  have f3 := fun (a : Nat) (ha : a < (T.setVm vm₁).heap.size) => Jvm.Free.Multi.fill_old (T.setVm vm₁) (ac 4) (ac 1) n k (defaultValue .long) (a := a) ha n
  have f4 := Jvm.Free.Multi.fill_inner (T.setVm vm₁) (ac 4) (ac 1) n k (defaultValue .long) n
  generalize hFF : Jvm.Free.Multi.fill (T.setVm vm₁) (ac 4) (ac 1) n k (defaultValue .long) n = FF at X' step f1 f2 f3 f4
  rw [hTh] at f1 f2 f3 f4
  have h0 : FF.heap[gH M]? = some (vp_cell (ac 4) (n, .inr (.inr (.inr (.inr (fun i => if i < n then some (gH M + 1 + i) else none)))))) := by
    rw [← hgs, f2, mn_outer]
    rfl
  have h1 : ∀ j : Nat, j < n → FF.heap[gH M + 1 + j]? = some (vp_cell (ac 1) (k, .inr (.inl (fun _ => 0)))) := fun j hj => by
    rw [← hgs, f4 j hj]
    exact congrArg some (arrV_new _ _ _)
  have r := kk (hle.mna hP.2.1) (kinds_mna hP.2.1 hf) FF.heap locs ls (hP.mna f1 (fun q hq => f3 q hq) h0 h1) (hS.grow (by omega) (fun q hq => f3 q hq)) hl
  have q1 : gH (nM M n k) - gH M0 = gH M - gH M0 + 1 + n := by show gH M + 1 + n - gH M0 = _; omega
  have q2 : gS (nM M n k) - gS M0 = gS M - gS M0 + n + n * k := by show gS M + n + n * k - gS M0 = _; omega
  rw [q1, q2] at r
  obtain ⟨t, b1, b2⟩ := r FF rfl X'
  refine ⟨t, step t ?_, b2⟩
  rw [hT, hgs]
  exact b1
theorem r_copy {X : Option Cx} {V : Option Value × Mem × EG} {own : String} {cc : ByteArray} {nL : Nat} {rt : Option FieldType} {fr lo : Nat} {pc : Nat} {M : Mem} {Kf : List (Nat × Nat)} {L : List (Nat × Value)} {st : List Value} {src dst j0 j1 ix : Nat} {n : Int32} {β : Type} {k : Mem → Option β} {res : β} (hj0 : Kf[j0]? = some (src, 23)) (hj1 : Kf[j1]? = some (dst, 23)) (w1 : Cond.methodLink own ix arraycopyName ∈ lw_g) (w2 : Cond.native arraycopyName ∈ lw_g) (w3 : Cond.static arraycopyName ∈ lw_g) (w4 : Cond.initialized "java/lang/System" ∈ lw_g) (hroom : 1 ≤ fr ∧ 40 ≤ lo) (hcat : (st.map fun v => v.category).sum ≤ 8) (hd : decode cc pc = .ok (.invokestatic ix, 3)) (hF : grd (cpOk M dst src n) (bnd (cpO M dst src (ixn n)) k) = some res) (kk : ∀ M1, k M1 = some res → T X V (own, cc, nL, rt, fr, lo) M1 Kf L st (pc + 3)) : T X V (own, cc, nL, rt, fr, lo) M Kf L (.int n :: .int 0 :: .ref dst :: .int 0 :: .ref src :: st) pc := by
  obtain ⟨⟨⟨g0, g1, g2⟩, hel⟩, hF⟩ := grd_e hF
  have kk := kk _ hF
  refine ⟨kk.1, fun x hX Z => ?_⟩
  have kk := kk.2 x hX Z
  obtain ⟨p, l, e0, R, s, m, args, below, meth, c0, D, ac, M0⟩ := x
  obtain ⟨hx, hb, hr, hml, hown, hts, hKW, hEV, hlk, hR, hgE⟩ := Z
  intro hle hf H locs ls hP hS hl
  subst hR
  have hk0 : gK M src = 23 := (hf _ (List.mem_of_getElem? hj0)).1
  have hk1 : gK M dst = 23 := (hf _ (List.mem_of_getElem? hj1)).1
  have hA : ownM M0 dst := hle.2.2.1 dst (Or.inl (by show gK M dst ≠ 0; omega))
  have h3 : ¬ n < 0 := by rw [Int32.lt_iff_toInt_lt]; simp; omega
  have hn : n.toInt = (n.toNatClampNeg : Int) := by show n.toInt = ((n.toInt.toNat : Nat) : Int); omega
  have z0 : (0 : Int32).toNatClampNeg = 0 := rfl
  have hc0 := hP.2.2.2.2.2.2.1 src hk0
  have hc1 := hP.2.2.2.2.2.2.1 dst hk1
  generalize hf0 : gO M src = f0 at hc0
  generalize hf1 : gO M dst = f1 at hc1
  obtain ⟨-, k0, q0, cm0, qq0⟩ := (hKW.2 3 _ rfl).1 (gN M src) (fun j => va_rf (f0 j))
  obtain ⟨-, k1, q1, cm1, qq1⟩ := (hKW.2 3 _ rfl).1 (gN M dst) (fun j => va_rf (f1 j))
  intro T hT Xs
  obtain ⟨vm', X', step⟩ := Xs.arraycopy hx hown (hts _ w1) (hts _ w2) (hts _ w3) (hts _ w4) (src := src) (dst := dst) (cs := vp_cell (ac 3) (gN M src, .inr (.inr (.inr (.inr f0))))) (cd := vp_cell (ac 3) (gN M dst, .inr (.inr (.inr (.inr f1))))) (srcPos := 0) (destPos := 0) (n := n) (by rw [hT]; exact hc0) (by rw [hT]; exact hc1)
    (fun _ h => by cases h) (fun _ h => by cases h) (fun h => by cases h) (fun h => by cases h) q0 q1 qq0 qq1 rfl (by decide) (by decide) h3
    (by show ¬ _ > ((arrV (ac 3) (gN M src) (fun j => va_rf (f0 j))).slots.size : Int); rw [arrV_size]; show ¬ (0 : Int) + n.toInt > _; omega)
    (by show ¬ _ > ((arrV (ac 3) (gN M dst) (fun j => va_rf (f1 j))).slots.size : Int); rw [arrV_size]; show ¬ (0 : Int) + n.toInt > _; omega)
    (fun vm₁ hal i hi => by
      have e : (vp_cell (ac 3) (gN M src, .inr (.inr (.inr (.inr f0))))).slots.getD ((0 : Int32).toNatClampNeg + i) .null = va_rf (f0 i) := by
        show (arrV (ac 3) (gN M src) (fun j => va_rf (f0 j))).slots.getD _ _ = _
        rw [z0, Nat.zero_add, Array.getD_eq_getD_getElem?, arrV_read _ _ (by omega)]
        rfl
      rw [e]
      cases hy : f0 i with
      | none => exact ⟨rfl, trivial⟩
      | some y =>
        have hr := List.all_eq_true.mp hel i (List.mem_range.mpr hi)
        rw [hf0, hy] at hr
        have hr2 : 1 ≤ gK M y ∧ gK M y ≤ 14 := by simpa using hr
        obtain ⟨cellV, g1, g2, ⟨kC, hkC⟩, hasg⟩ := any_obj hP hKW hEV hr2.1 hr2.2
        obtain ⟨kA, comp, r1, r2, r3, -⟩ := (hKW.2 3 _ rfl).2
        cases q1.symm.trans r1
        cases qq1.symm.trans r2
        obtain ⟨kE, hkE, -⟩ := Vm.findClass_spec r3
        obtain ⟨kC', hkC', -⟩ := hal.2.2 _ _ hkC
        obtain ⟨kE', hkE', -⟩ := hal.2.2 _ _ hkE
        refine ⟨rfl, cellV, (show T.heap[y]? = some cellV by rw [hT]; exact g1), (fun q h => by rw [h] at g2; cases g2), ⟨kC', hkC'⟩, ?_, ?_⟩
        · exact ⟨kE', hkE'⟩
        · show vm₁.assignable _ _ = true
          rw [hal.assignable]
          exact hasg _ r3)
    (g := F0 m pc ls (.int n :: .int 0 :: .ref dst :: .int 0 :: .ref src :: st)) rfl (by rw [hml]; exact hl.1) (rest := st) rfl (by rw [hb]; exact hd) hroom.1 (by have hw : nativeFrameWords "java/lang/System" "arraycopy" 5 + 11 ≤ 32 := (by decide); have := hroom.2; show 2 * 0 + _ + _ ≤ lo; omega)
  have e1 : copied (vp_cell (ac 3) (gN M src, .inr (.inr (.inr (.inr f0))))) (vp_cell (ac 3) (gN M dst, .inr (.inr (.inr (.inr f1))))) 0 0 n = vp_cell (ac 3) (gN M dst, .inr (.inr (.inr (.inr (va_cpy f0 f1 (0 : Int32).toNatClampNeg (0 : Int32).toNatClampNeg n.toNatClampNeg))))) := by
    rw [vp_cell_q, vp_cell_q, vp_cell_q]
    exact va_copied (fun z => va_rf z) (ac 3) (ac 3) f0 f1 (by rw [z0]; omega)
  rw [e1] at X' step
  have ec : va_cpy f0 f1 (0 : Int32).toNatClampNeg (0 : Int32).toNatClampNeg n.toNatClampNeg = gO (cpO M dst src (ixn n)) dst := by
    funext i
    rw [z0]
    show (if 0 ≤ i ∧ i < 0 + n.toNatClampNeg then f0 (0 + (i - 0)) else f1 i) = (if dst = dst ∧ i < n.toNatClampNeg then gO M src i else gO M dst i)
    rw [hf0, hf1]
    simp
  rw [ec] at X' step
  have hl1 : dst < H.size := (Array.getElem?_eq_some_iff.mp hc1).1
  generalize hcel : vp_cell (ac 3) (gN M dst, .inr (.inr (.inr (.inr (gO (cpO M dst src (ixn n)) dst))))) = cel at X' step
  have hheap : ((T.setVm vm').setCell dst cel).heap = H.setIfInBounds dst cel := by rw [← hT]; rfl
  have oq : ∀ q : Nat, q ≠ dst → (H.setIfInBounds dst cel)[q]? = H[q]? := fun q hq => by simp [Array.getElem?_setIfInBounds, Ne.symm hq]
  obtain ⟨t, a1, b1⟩ := kk (hle.same rfl rfl rfl rfl) (kinds_same rfl hf) (H.setIfInBounds dst cel) _ ls (hP.seta (a := dst) (by omega) ⟨rfl, rfl, rfl, rfl, rfl, rfl⟩ (fun x hxa => ⟨rfl, rfl, funext fun i => if_neg (fun h9 => hxa h9.1)⟩) (by simp) oq (fun h => by exfalso; omega) (fun h => by exfalso; omega) (fun h => by exfalso; omega) (fun _ => by rw [hcel]; simp [Array.getElem?_setIfInBounds, hl1]) (fun h => by exfalso; omega)) ⟨by simp; exact hS.1, fun q g1 g2 => by
      rw [oq q (fun e => g2 (by rw [e]; exact hA))]
      exact hS.2.1 q g1 g2, fun q hq => by
      rcases List.mem_append.mp hq with h | h
      · exact hS.2.2 q h
      · obtain ⟨z, -, hz⟩ := List.mem_map.mp h
        rw [← hz]
        exact hA⟩ hl _ hheap X'
  exact ⟨t, step t a1, b1⟩
theorem r_clone {X : Option Cx} {V : Option Value × Mem × EG} {own : String} {cc : ByteArray} {nL : Nat} {rt : Option FieldType} {fr lo : Nat} {pc : Nat} {M : Mem} {Kf : List (Nat × Nat)} {L : List (Nat × Value)} {st : List Value} {a j ix : Nat} {β : Type} {kq : Nat → Mem → Option β} {res : β} (hj : Kf[j]? = some (a, 20)) (w1 : Cond.methodLink own ix ⟨"[I", "clone", "()Ljava/lang/Object;"⟩ ∈ lw_g) (w2 : Cond.sameMethod "[I" "java/lang/Object" "clone" "()Ljava/lang/Object;" ∈ lw_g) (w3 : Cond.native ⟨"java/lang/Object", "clone", "()Ljava/lang/Object;"⟩ ∈ lw_g) (w4 : Cond.instanceMethod ⟨"java/lang/Object", "clone", "()Ljava/lang/Object;"⟩ ∈ lw_g) (w5 : Cond.selects "[I" ⟨"[I", "clone", "()Ljava/lang/Object;"⟩ ⟨"java/lang/Object", "clone", "()Ljava/lang/Object;"⟩ ∈ lw_g) (w6 : Cond.castable "[I" "java/lang/Cloneable" ∈ lw_x) (hroom : 1 ≤ fr ∧ 30 ≤ lo) (hcat : (st.map fun v => v.category).sum ≤ 8) (hd : decode cc pc = .ok (.invokevirtual ix, 3)) (hF : bnd (gH M) (fun b => bnd (nCl M a) (kq b)) = some res) (kk : ∀ b M1, kq b M1 = some res → T X V (own, cc, nL, rt, fr, lo) M1 ((b, 20) :: Kf) L (.ref b :: st) (pc + 3)) : T X V (own, cc, nL, rt, fr, lo) M Kf L (.ref a :: st) pc := by
  have kk := kk _ _ hF
  have m1 : gH M + 1 ≤ gH V.2.1 := kk.1.1
  have m2 : gS M + gN M a ≤ gS V.2.1 := kk.1.2
  refine ⟨⟨by omega, by omega⟩, fun x hX Z => ?_⟩
  have kk := kk.2 x hX Z
  obtain ⟨p, l, e0, R, s, m, args, below, meth, c0, D, ac, M0⟩ := x
  obtain ⟨hx, hb, hr, hml, hown, hts, hKW, hEV, hlk, hR, hgE⟩ := Z
  intro hle hf H locs ls hP hS hl
  subst hR
  have l1 := hle.1
  have l2 := hle.2.1
  have hk0 : gK M a = 20 := (hf _ (List.mem_of_getElem? hj)).1
  have hc0 := hP.2.2.2.1 a hk0
  have hnm : s.vm.findClass "[I" = some (ac 0) := (hKW.2 0 _ rfl).2
  have hsz : (vp_cell (ac 0) (gN M a, .inl (gA M a))).slots.size = gN M a := arrV_size _ _ _
  obtain ⟨c1, t1, f1, f2, f3⟩ := Cond.castable_spec (va_Nw.use (A := args) rfl (hEV.2.2.2.2.2.2.1 _ w6))
  cases hnm.symm.trans f1
  intro T hT X
  obtain ⟨-, kA, hkA, comp, hkind⟩ := State.isArrayOf_alike X.warmed.alike ((hKW.2 0 _ rfl).1 0 (fun _ => .null))
  obtain ⟨-, kS, hkS, compS, hkindS⟩ := (hKW.2 0 _ rfl).1 0 (fun _ => .null)
  obtain ⟨vm', X', st9⟩ := X.cloneArray hx hown (hts _ w1) (hts _ w2) (hts _ w3) (hts _ w4) (hts _ w5) (a := a) (cell := vp_cell (ac 0) (gN M a, .inl (gA M a))) (by rw [hT]; exact hc0) (fun k h => by cases h) (fun h => by cases h) hnm f2 f3
    (fun i v hv => by
      have hk' : T.vm.classes[(vp_cell (ac 0) (gN M a, .inl (gA M a))).cls]? = some kA := hkA
      have hv2 : fits .int v = true := by
        have hv3 : (arrV (ac 0) (gN M a) (fun j => .int (gA M a j))).slots[i]? = some v := hv
        have hi : i < gN M a := by have := (Array.getElem?_eq_some_iff.mp hv3).1; rw [arrV_size] at this; exact this
        rw [arrV_read _ _ hi] at hv3
        cases hv3
        rfl
      simpa [State.fitsSlot, State.slotType?, hk', hkind] using hv2)
    (g := F0 m pc ls (.ref a :: st)) rfl (by rw [hml]; exact hl.1) rfl (by rw [hb]; exact hd) hroom.1 (by have := hroom.2; show 2 * 0 + _ + 14 ≤ lo; omega) (by show _ + 1 ≤ gH V.2.1 - gH M0; omega) (by rw [hsz]; show _ + gN M a ≤ gS V.2.1 - gS M0; omega) (hloader := Vm.clonesLoader_of_array hkS hkindS)
  rw [hsz] at X'
  generalize hH1 : H.push (vp_cell (ac 0) (gN M a, .inl (gA M a))) = H1
  have ez : H1.size = H.size + 1 := by rw [← hH1, Array.size_push]
  have e1 : H1[gH M]? = some (vp_cell (ac 0) (gN M a, .inl (gA M a))) := by rw [← hH1, ← hP.1, Array.getElem?_push_size]
  have eo : ∀ q : Nat, q < H.size → H1[q]? = H[q]? := fun q hq => by rw [← hH1, Array.getElem?_push, if_neg (Nat.ne_of_lt hq)]
  have en : gN (nCl M a) (gH M) = gN M a := if_pos rfl
  have ea : gA (nCl M a) (gH M) = gA M a := funext fun _ => if_pos rfl
  have r := kk (hle.grow (M1 := nCl M a) hP.2.1 rfl rfl rfl rfl) (kinds_new (by decide) hP.2.1 rfl hf) H1 locs ls (hP.grow (k := 20) (by decide) rfl rfl (fun x hx => if_neg hx) (fun x hx => funext fun _ => if_neg hx) (fun x hx => funext fun _ => if_neg hx) (fun x hx => funext fun _ => if_neg hx) (fun x d j hxx => rfl) ez eo (fun c' hc' hc14' => by omega) (fun _ => by rw [en, ea]; exact e1) (fun h => by cases h) (fun h => by cases h) (fun h => by cases h) (fun h => by cases h)) (hS.grow (by omega) eo) hl
  have q1 : gH (nCl M a) - gH M0 = gH M - gH M0 + 1 := by show gH M + 1 - gH M0 = _; omega
  have q2 : gS (nCl M a) - gS M0 = gS M - gS M0 + gN M a := by show gS M + gN M a - gS M0 = _; omega
  rw [q1, q2] at r
  have hTh : T.heap.size = gH M := by rw [hT, hP.1]
  obtain ⟨t, b1, b2⟩ := r _ (by rw [← hH1, ← hT]; rfl) X'
  refine ⟨t, st9 t ?_, b2⟩
  rw [hTh]
  exact b1
