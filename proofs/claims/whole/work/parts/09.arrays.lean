def ixn (i : Int32) : Nat := i.toNatClampNeg
theorem r_iald {X : Option Cx} {V : Option Value × Mem × EG} {own : String} {cc : ByteArray} {nL : Nat} {rt : Option FieldType} {fr lo : Nat} {pc : Nat} {M : Mem} {Kf : List (Nat × Nat)} {L : List (Nat × Value)} {st : List Value} {a j : Nat} {i : Int32} {β : Type} {k : Option β} {res : β} (hj : Kf[j]? = some (a, 20)) (hd : decode cc pc = .ok (.iaload, 1)) (hF : grd (0 ≤ i.toInt ∧ i.toInt < (gN M a : Int)) k = some res) (kk : k = some res → T X V (own, cc, nL, rt, fr, lo) M Kf L (.int (gA M a (ixn i)) :: st) (pc + 1)) : T X V (own, cc, nL, rt, fr, lo) M Kf L (.int i :: .ref a :: st) pc := by
  obtain ⟨hin, hF⟩ := grd_e hF
  have kk := kk hF
  have hin := vp_in_iff.mpr hin
  have hlt : i.toNatClampNeg < gN M a := Nat.not_le.mp fun q => hin (Or.inr q)
  refine ⟨kk.1, fun x hX Z => ?_⟩
  have kk := kk.2 x hX Z
  obtain ⟨p, l, e0, R, s, m, args, below, meth, c0, D, ac, M0⟩ := x
  obtain ⟨hx, hb, hr, hml, hown, hts, hKW, -⟩ := Z
  intro hle hf H locs ls hP hS hl
  have hkd : gK M a = 20 := (hf _ (List.mem_of_getElem? hj)).1
  exact W.iald (v := .int (gA M a (ixn i))) hx hb (hP.2.2.2.1 a hkd) ((hKW.2 0 _ rfl).1 _ (fun j => .int (gA M a j))) (fun q => by cases q) (by show ¬ (i < 0 ∨ (arrV _ _ _).slots.size ≤ _); rw [arrV_size]; exact hin) (by show (arrV _ _ _).slots[_]? = _; rw [arrV_read _ _ hlt]; rfl) rfl rfl hd (kk hle hf H locs ls hP hS hl)
theorem r_lald {X : Option Cx} {V : Option Value × Mem × EG} {own : String} {cc : ByteArray} {nL : Nat} {rt : Option FieldType} {fr lo : Nat} {pc : Nat} {M : Mem} {Kf : List (Nat × Nat)} {L : List (Nat × Value)} {st : List Value} {a j : Nat} {i : Int32} {β : Type} {k : Option β} {res : β} (hj : Kf[j]? = some (a, 21)) (hd : decode cc pc = .ok (.laload, 1)) (hF : grd (0 ≤ i.toInt ∧ i.toInt < (gN M a : Int)) k = some res) (kk : k = some res → T X V (own, cc, nL, rt, fr, lo) M Kf L (.long (gB M a (ixn i)) :: st) (pc + 1)) : T X V (own, cc, nL, rt, fr, lo) M Kf L (.int i :: .ref a :: st) pc := by
  obtain ⟨hin, hF⟩ := grd_e hF
  have kk := kk hF
  have hin := vp_in_iff.mpr hin
  have hlt : i.toNatClampNeg < gN M a := Nat.not_le.mp fun q => hin (Or.inr q)
  refine ⟨kk.1, fun x hX Z => ?_⟩
  have kk := kk.2 x hX Z
  obtain ⟨p, l, e0, R, s, m, args, below, meth, c0, D, ac, M0⟩ := x
  obtain ⟨hx, hb, hr, hml, hown, hts, hKW, -⟩ := Z
  intro hle hf H locs ls hP hS hl
  have hkd : gK M a = 21 := (hf _ (List.mem_of_getElem? hj)).1
  exact W.lald (v := .long (gB M a (ixn i))) hx hb (hP.2.2.2.2.1 a hkd) ((hKW.2 1 _ rfl).1 _ (fun j => .long (gB M a j))) (fun q => by cases q) (by show ¬ (i < 0 ∨ (arrV _ _ _).slots.size ≤ _); rw [arrV_size]; exact hin) (by show (arrV _ _ _).slots[_]? = _; rw [arrV_read _ _ hlt]; rfl) rfl rfl hd (kk hle hf H locs ls hP hS hl)
theorem r_zald {X : Option Cx} {V : Option Value × Mem × EG} {own : String} {cc : ByteArray} {nL : Nat} {rt : Option FieldType} {fr lo : Nat} {pc : Nat} {M : Mem} {Kf : List (Nat × Nat)} {L : List (Nat × Value)} {st : List Value} {a j : Nat} {i : Int32} {β : Type} {k : Option β} {res : β} (hj : Kf[j]? = some (a, 22)) (hd : decode cc pc = .ok (.baload, 1)) (hF : grd (0 ≤ i.toInt ∧ i.toInt < (gN M a : Int)) k = some res) (kk : k = some res → T X V (own, cc, nL, rt, fr, lo) M Kf L (.int (gA M a (ixn i)) :: st) (pc + 1)) : T X V (own, cc, nL, rt, fr, lo) M Kf L (.int i :: .ref a :: st) pc := by
  obtain ⟨hin, hF⟩ := grd_e hF
  have kk := kk hF
  have hin := vp_in_iff.mpr hin
  have hlt : i.toNatClampNeg < gN M a := Nat.not_le.mp fun q => hin (Or.inr q)
  refine ⟨kk.1, fun x hX Z => ?_⟩
  have kk := kk.2 x hX Z
  obtain ⟨p, l, e0, R, s, m, args, below, meth, c0, D, ac, M0⟩ := x
  obtain ⟨hx, hb, hr, hml, hown, hts, hKW, -⟩ := Z
  intro hle hf H locs ls hP hS hl
  have hkd : gK M a = 22 := (hf _ (List.mem_of_getElem? hj)).1
  exact W.zald (v := .int (gA M a (ixn i))) hx hb (hP.2.2.2.2.2.1 a hkd) ((hKW.2 2 _ rfl).1 _ (fun j => .int (gA M a j))) (fun q => by cases q) (by show ¬ (i < 0 ∨ (arrV _ _ _).slots.size ≤ _); rw [arrV_size]; exact hin) (by show (arrV _ _ _).slots[_]? = _; rw [arrV_read _ _ hlt]; rfl) rfl rfl hd (kk hle hf H locs ls hP hS hl)
theorem r_iast {X : Option Cx} {V : Option Value × Mem × EG} {own : String} {cc : ByteArray} {nL : Nat} {rt : Option FieldType} {fr lo : Nat} {pc : Nat} {M : Mem} {Kf : List (Nat × Nat)} {L : List (Nat × Value)} {st : List Value} {a j : Nat} {i : Int32} {w : Int32} {β : Type} {k : Mem → Option β} {res : β} (hj : Kf[j]? = some (a, 20)) (hd : decode cc pc = .ok (.iastore, 1)) (hF : grd (0 ≤ i.toInt ∧ i.toInt < (gN M a : Int)) (bnd (sA M a (ixn i) w) k) = some res) (kk : ∀ M1, k M1 = some res → T X V (own, cc, nL, rt, fr, lo) M1 Kf L st (pc + 1)) : T X V (own, cc, nL, rt, fr, lo) M Kf L (.int w :: .int i :: .ref a :: st) pc := by
  obtain ⟨hin, hF⟩ := grd_e hF
  have kk := kk _ hF
  have hin := vp_in_iff.mpr hin
  refine ⟨kk.1, fun x hX Z => ?_⟩
  have kk := kk.2 x hX Z
  obtain ⟨p, l, e0, R, s, m, args, below, meth, c0, D, ac, M0⟩ := x
  obtain ⟨hx, hb, hr, hml, hown, hts, hKW, -⟩ := Z
  intro hle hf H locs ls hP hS hl
  have hkd : gK M a = 20 := (hf _ (List.mem_of_getElem? hj)).1
  have hA : ownM M0 a := hle.2.2.1 a (Or.inl (by show gK M a ≠ 0; omega))
  refine W.iast hx hb (hP.2.2.2.1 a hkd) ((hKW.2 0 _ rfl).1 _ (fun j => .int (gA M a j))) (fun q => by cases q) (by show ¬ (i < 0 ∨ (arrV _ _ _).slots.size ≤ _); rw [arrV_size]; exact hin) rfl rfl hd fun H1 e z oq => ?_
  refine kk (hle.same rfl rfl rfl rfl) (kinds_same rfl hf) H1 _ ls (hP.seta (a := a) (by omega) ⟨rfl, rfl, rfl, rfl, rfl, rfl⟩ (fun x hxa => ⟨?_, ?_, ?_⟩) z oq ?_ ?_ ?_ ?_ ?_) (hS.put z oq hA) hl
  
  · funext y
    first | rfl | exact if_neg (fun h9 => hxa h9.1)
  · funext y
    first | rfl | exact if_neg (fun h9 => hxa h9.1)
  · funext y
    first | rfl | exact if_neg (fun h9 => hxa h9.1)
  all_goals first
    | (intro h9; exfalso; omega)
    | (intro _
       rw [e]
       rw [vp_cell_i, vp_cell_i, arrV_store]
       congr 2
       funext q
       by_cases hq : q = i.toNatClampNeg
       · subst hq
         simp [updV, sA, gA, mk, up2, ixn]
       · simp [updV, sA, gA, mk, up2, ixn, hq])
theorem r_last {X : Option Cx} {V : Option Value × Mem × EG} {own : String} {cc : ByteArray} {nL : Nat} {rt : Option FieldType} {fr lo : Nat} {pc : Nat} {M : Mem} {Kf : List (Nat × Nat)} {L : List (Nat × Value)} {st : List Value} {a j : Nat} {i : Int32} {w : Int64} {β : Type} {k : Mem → Option β} {res : β} (hj : Kf[j]? = some (a, 21)) (hd : decode cc pc = .ok (.lastore, 1)) (hF : grd (0 ≤ i.toInt ∧ i.toInt < (gN M a : Int)) (bnd (sB M a (ixn i) w) k) = some res) (kk : ∀ M1, k M1 = some res → T X V (own, cc, nL, rt, fr, lo) M1 Kf L st (pc + 1)) : T X V (own, cc, nL, rt, fr, lo) M Kf L (.long w :: .int i :: .ref a :: st) pc := by
  obtain ⟨hin, hF⟩ := grd_e hF
  have kk := kk _ hF
  have hin := vp_in_iff.mpr hin
  refine ⟨kk.1, fun x hX Z => ?_⟩
  have kk := kk.2 x hX Z
  obtain ⟨p, l, e0, R, s, m, args, below, meth, c0, D, ac, M0⟩ := x
  obtain ⟨hx, hb, hr, hml, hown, hts, hKW, -⟩ := Z
  intro hle hf H locs ls hP hS hl
  have hkd : gK M a = 21 := (hf _ (List.mem_of_getElem? hj)).1
  have hA : ownM M0 a := hle.2.2.1 a (Or.inl (by show gK M a ≠ 0; omega))
  refine W.last hx hb (hP.2.2.2.2.1 a hkd) ((hKW.2 1 _ rfl).1 _ (fun j => .long (gB M a j))) (fun q => by cases q) (by show ¬ (i < 0 ∨ (arrV _ _ _).slots.size ≤ _); rw [arrV_size]; exact hin) rfl rfl hd fun H1 e z oq => ?_
  refine kk (hle.same rfl rfl rfl rfl) (kinds_same rfl hf) H1 _ ls (hP.seta (a := a) (by omega) ⟨rfl, rfl, rfl, rfl, rfl, rfl⟩ (fun x hxa => ⟨?_, ?_, ?_⟩) z oq ?_ ?_ ?_ ?_ ?_) (hS.put z oq hA) hl
  
  · funext y
    first | rfl | exact if_neg (fun h9 => hxa h9.1)
  · funext y
    first | rfl | exact if_neg (fun h9 => hxa h9.1)
  · funext y
    first | rfl | exact if_neg (fun h9 => hxa h9.1)
  all_goals first
    | (intro h9; exfalso; omega)
    | (intro _
       rw [e]
       rw [vp_cell_l, vp_cell_l, arrV_store]
       congr 2
       funext q
       by_cases hq : q = i.toNatClampNeg
       · subst hq
         simp [updV, sB, gB, mk, up2, ixn]
       · simp [updV, sB, gB, mk, up2, ixn, hq])
theorem r_zast {X : Option Cx} {V : Option Value × Mem × EG} {own : String} {cc : ByteArray} {nL : Nat} {rt : Option FieldType} {fr lo : Nat} {pc : Nat} {M : Mem} {Kf : List (Nat × Nat)} {L : List (Nat × Value)} {st : List Value} {a j : Nat} {i : Int32} {w : Int32} {β : Type} {k : Mem → Option β} {res : β} (hj : Kf[j]? = some (a, 22)) (hd : decode cc pc = .ok (.bastore, 1)) (hF : grd ((0 ≤ i.toInt ∧ i.toInt < (gN M a : Int)) ∧ (w = 0 ∨ w = 1)) (bnd (sA M a (ixn i) w) k) = some res) (kk : ∀ M1, k M1 = some res → T X V (own, cc, nL, rt, fr, lo) M1 Kf L st (pc + 1)) : T X V (own, cc, nL, rt, fr, lo) M Kf L (.int w :: .int i :: .ref a :: st) pc := by
  obtain ⟨hin, hF⟩ := grd_e hF
  have kk := kk _ hF
  obtain ⟨hin, h01⟩ := hin
  have hin := vp_in_iff.mpr hin
  refine ⟨kk.1, fun x hX Z => ?_⟩
  have kk := kk.2 x hX Z
  obtain ⟨p, l, e0, R, s, m, args, below, meth, c0, D, ac, M0⟩ := x
  obtain ⟨hx, hb, hr, hml, hown, hts, hKW, -⟩ := Z
  intro hle hf H locs ls hP hS hl
  have hnar : narrow .boolean (.int w) = .int w := by rcases h01 with h | h <;> subst h <;> rfl
  have hkd : gK M a = 22 := (hf _ (List.mem_of_getElem? hj)).1
  have hA : ownM M0 a := hle.2.2.1 a (Or.inl (by show gK M a ≠ 0; omega))
  refine W.zast hx hb (hP.2.2.2.2.2.1 a hkd) ((hKW.2 2 _ rfl).1 _ (fun j => .int (gA M a j))) (fun q => by cases q) (by show ¬ (i < 0 ∨ (arrV _ _ _).slots.size ≤ _); rw [arrV_size]; exact hin) rfl rfl hd fun H1 e z oq => ?_
  refine kk (hle.same rfl rfl rfl rfl) (kinds_same rfl hf) H1 _ ls (hP.seta (a := a) (by omega) ⟨rfl, rfl, rfl, rfl, rfl, rfl⟩ (fun x hxa => ⟨?_, ?_, ?_⟩) z oq ?_ ?_ ?_ ?_ ?_) (hS.put z oq hA) hl
  
  · funext y
    first | rfl | exact if_neg (fun h9 => hxa h9.1)
  · funext y
    first | rfl | exact if_neg (fun h9 => hxa h9.1)
  · funext y
    first | rfl | exact if_neg (fun h9 => hxa h9.1)
  all_goals first
    | (intro h9; exfalso; omega)
    | (intro _
       rw [e]
       rw [hnar]
       rw [vp_cell_i, vp_cell_i, arrV_store]
       congr 2
       funext q
       by_cases hq : q = i.toNatClampNeg
       · subst hq
         simp [updV, sA, gA, mk, up2, ixn]
       · simp [updV, sA, gA, mk, up2, ixn, hq])
theorem r_alen {X : Option Cx} {V : Option Value × Mem × EG} {own : String} {cc : ByteArray} {nL : Nat} {rt : Option FieldType} {fr lo : Nat} {pc : Nat} {M : Mem} {Kf : List (Nat × Nat)} {L : List (Nat × Value)} {st : List Value} {a j k : Nat} (hj : Kf[j]? = some (a, k)) (hk : k = 20 ∨ k = 21 ∨ k = 22 ∨ k = 23 ∨ k = 24) (hd : decode cc pc = .ok (.arraylength, 1)) (kk : T X V (own, cc, nL, rt, fr, lo) M Kf L (.int (Int32.ofNat (gN M a)) :: st) (pc + 1)) : T X V (own, cc, nL, rt, fr, lo) M Kf L (.ref a :: st) pc := by
  refine ⟨kk.1, fun x hX Z => ?_⟩
  have kk := kk.2 x hX Z
  obtain ⟨p, l, e0, R, s, m, args, below, meth, c0, D, ac, M0⟩ := x
  obtain ⟨hx, hb, hr, hml, hown, hts, hKW, -⟩ := Z
  intro hle hf H locs ls hP hS hl
  have hkd : gK M a = k := (hf _ (List.mem_of_getElem? hj)).1
  have kk := kk hle hf H locs ls hP hS hl
  rcases hk with h | h | h | h | h <;> subst h
  · exact W.alen (n := Int32.ofNat (gN M a)) hx hb (hP.2.2.2.1 a hkd) ((hKW.2 0 _ rfl).1 _ (fun j => .int (gA M a j))) (by rw [vp_cell_i, arrV_size] <;> rfl) rfl rfl hd kk
  · exact W.alen (n := Int32.ofNat (gN M a)) hx hb (hP.2.2.2.2.1 a hkd) ((hKW.2 1 _ rfl).1 _ (fun j => .long (gB M a j))) (by rw [vp_cell_l, arrV_size] <;> rfl) rfl rfl hd kk
  · exact W.alen (n := Int32.ofNat (gN M a)) hx hb (hP.2.2.2.2.2.1 a hkd) ((hKW.2 2 _ rfl).1 _ (fun j => .int (gA M a j))) (by rw [vp_cell_i, arrV_size] <;> rfl) rfl rfl hd kk
  · exact W.alen (n := Int32.ofNat (gN M a)) hx hb (hP.2.2.2.2.2.2.1 a hkd) ((hKW.2 3 _ rfl).1 _ (fun j => va_rf (gO M a j))) (by rw [vp_cell_q, arrV_size] <;> rfl) rfl rfl hd kk
  · exact W.alen (n := Int32.ofNat (gN M a)) hx hb (hP.2.2.2.2.2.2.2 a hkd) ((hKW.2 4 _ rfl).1 _ (fun j => va_rf (gO M a j))) (by rw [vp_cell_q, arrV_size] <;> rfl) rfl rfl hd kk
theorem r_aald {X : Option Cx} {V : Option Value × Mem × EG} {own : String} {cc : ByteArray} {nL : Nat} {rt : Option FieldType} {fr lo : Nat} {pc : Nat} {M : Mem} {Kf : List (Nat × Nat)} {L : List (Nat × Value)} {st : List Value} {a j : Nat} {i : Int32} {β : Type} {k : Option β} {res : β} (hj : Kf[j]? = some (a, 23)) (hd : decode cc pc = .ok (.aaload, 1)) (hF : grd (0 ≤ i.toInt ∧ i.toInt < (gN M a : Int)) k = some res) (kk : k = some res → T X V (own, cc, nL, rt, fr, lo) M Kf L (va_rf (gO M a (ixn i)) :: st) (pc + 1)) : T X V (own, cc, nL, rt, fr, lo) M Kf L (.int i :: .ref a :: st) pc := by
  obtain ⟨hin, hF⟩ := grd_e hF
  have kk := kk hF
  have hin := vp_in_iff.mpr hin
  have hlt : i.toNatClampNeg < gN M a := Nat.not_le.mp fun q => hin (Or.inr q)
  refine ⟨kk.1, fun x hX Z => ?_⟩
  have kk := kk.2 x hX Z
  obtain ⟨p, l, e0, R, s, m, args, below, meth, c0, D, ac, M0⟩ := x
  obtain ⟨hx, hb, hr, hml, hown, hts, hKW, -⟩ := Z
  intro hle hf H locs ls hP hS hl
  have hkd : gK M a = 23 := (hf _ (List.mem_of_getElem? hj)).1
  exact W.aald (v := va_rf (gO M a (ixn i))) hx hb (hP.2.2.2.2.2.2.1 a hkd) ((hKW.2 3 _ rfl).1 _ (fun j => va_rf (gO M a j))) rfl (fun q => by cases q) (by show ¬ (i < 0 ∨ (arrV _ _ _).slots.size ≤ _); rw [arrV_size]; exact hin) (by show (arrV _ _ _).slots[_]? = _; rw [arrV_read _ _ hlt]; rfl) rfl rfl hd (kk hle hf H locs ls hP hS hl)
theorem r_aaldJ {X : Option Cx} {V : Option Value × Mem × EG} {own : String} {cc : ByteArray} {nL : Nat} {rt : Option FieldType} {fr lo : Nat} {pc : Nat} {M : Mem} {Kf : List (Nat × Nat)} {L : List (Nat × Value)} {st : List Value} {a j : Nat} {i : Int32} {β : Type} {k : Option β} {res : β} (hj : Kf[j]? = some (a, 24)) (hd : decode cc pc = .ok (.aaload, 1)) (hF : grd (0 ≤ i.toInt ∧ i.toInt < (gN M a : Int)) k = some res) (kk : k = some res → T X V (own, cc, nL, rt, fr, lo) M Kf L (va_rf (gO M a (ixn i)) :: st) (pc + 1)) : T X V (own, cc, nL, rt, fr, lo) M Kf L (.int i :: .ref a :: st) pc := by
  obtain ⟨hin, hF⟩ := grd_e hF
  have kk := kk hF
  have hin := vp_in_iff.mpr hin
  have hlt : i.toNatClampNeg < gN M a := Nat.not_le.mp fun q => hin (Or.inr q)
  refine ⟨kk.1, fun x hX Z => ?_⟩
  have kk := kk.2 x hX Z
  obtain ⟨p, l, e0, R, s, m, args, below, meth, c0, D, ac, M0⟩ := x
  obtain ⟨hx, hb, hr, hml, hown, hts, hKW, -⟩ := Z
  intro hle hf H locs ls hP hS hl
  have hkd : gK M a = 24 := (hf _ (List.mem_of_getElem? hj)).1
  exact W.aald (v := va_rf (gO M a (ixn i))) hx hb (hP.2.2.2.2.2.2.2 a hkd) ((hKW.2 4 _ rfl).1 _ (fun j => va_rf (gO M a j))) rfl (fun q => by cases q) (by show ¬ (i < 0 ∨ (arrV _ _ _).slots.size ≤ _); rw [arrV_size]; exact hin) (by show (arrV _ _ _).slots[_]? = _; rw [arrV_read _ _ hlt]; rfl) rfl rfl hd (kk hle hf H locs ls hP hS hl)
