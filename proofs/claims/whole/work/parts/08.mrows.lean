theorem kinds_same {M M1 : Mem} {Kf : List (Nat × Nat)} (eK : gK M1 = gK M) (h : ∀ q ∈ Kf, gK M q.1 = q.2 ∧ q.2 ≠ 0) : ∀ q ∈ Kf, gK M1 q.1 = q.2 ∧ q.2 ≠ 0 := fun q hq => by rw [eK]; exact h q hq
theorem w_same {s : State} {args : Array Value} (hts : ∀ w ∈ lw_g, w.before args s = true) {D O n d ref : String} (h : O = ref ∨ Cond.sameField ref O n d ∈ lw_g) : ∀ x, s.fieldFound? O n d = some x → s.fieldFound? ref n d = some x := by
  rcases h with h | h
  · subst h
    exact fun _ h => h
  · exact fun x hx => u_same (hts _ h) x hx
section MR
variable {X : Option Cx} {V : Option Value × Mem × EG} {own : String} {cc : ByteArray} {nL : Nat} {rt : Option FieldType} {fr lo : Nat} {pc : Nat} {M : Mem} {Kf : List (Nat × Nat)} {L : List (Nat × Value)} {st : List Value}
theorem r_get {ref C : String} {Tb : u_T} {N c ix k a j : Nat} (w : Value) (hin : ∀ w ∈ u_ws C Tb N, w ∈ lw_g) (hc : vwCl[c]? = some (C, Tb, N)) (hN : nfl c = N) (hk : k < N) (hc14 : c < 14) (hlink : Cond.fieldLink own ix ref (Tb k).2.1 (Tb k).2.2.1 ∈ lw_g) (hsame : (Tb k).1 = ref ∨ Cond.sameField ref (Tb k).1 (Tb k).2.1 (Tb k).2.2.1 ∈ lw_g)
    (hw : fv M c k a = w) (hj : Kf[j]? = some (a, c + 1)) (hd : decode cc pc = .ok (.getfield ix, 3)) (kk : T X V (own, cc, nL, rt, fr, lo) M Kf L (w :: st) (pc + 3)) : T X V (own, cc, nL, rt, fr, lo) M Kf L (.ref a :: st) pc := by
  refine ⟨kk.1, fun x hX Z => ?_⟩
  have kk := kk.2 x hX Z
  obtain ⟨p, l, e, R, s, m, args, below, meth, c0, D, ac, M0⟩ := x
  obtain ⟨hx, hb, hr, hml, hown, hts, hKW, -⟩ := Z
  intro hle hf H locs ls hP hS hl
  obtain ⟨cell, q1, q2, q3, q4⟩ := hP.2.2.1 a c (hf _ (List.mem_of_getElem? hj)).1 hc14
  obtain ⟨hSl, hfc, kC, hkC, hkind⟩ := hKW.1 c _ hc
  obtain ⟨cf, kf, fi, f, hi, hsl⟩ := hSl k hk
  refine W.getf hx hb hown (hts _ hlink) (w_same (D := own) hts hsame _ hi) (u_facts hfc hkC (u_lays hts hin hk) hi).1 q1 (by rw [q3]; exact fun h => by cases h) (v := w) ?_ rfl rfl hd (kk hle hf H locs ls hP hS hl)
  rw [hsl, q4 k (by rw [hN]; exact hk)]
  exact congrArg some hw
theorem r_put0 {ref C : String} {Tb : u_T} {N c ix k a j : Nat} {w : Value} {M1 : Mem} (hin : ∀ w ∈ u_ws C Tb N, w ∈ lw_g) (ty0 : Nat → FieldType) (hty : ∀ k, k < N → parseFieldDescriptor (Tb k).2.2.1 = some (ty0 k)) (hnm : ∀ a, a < N → ∀ b, b < N → a ≠ b → (Tb a).2.1 ≠ (Tb b).2.1) (hc : vwCl[c]? = some (C, Tb, N)) (hN : nfl c = N) (hk : k < N) (hc14 : c < 14)
    (hlink : Cond.fieldLink own ix ref (Tb k).2.1 (Tb k).2.2.1 ∈ lw_g) (hsame : (Tb k).1 = ref ∨ Cond.sameField ref (Tb k).1 (Tb k).2.1 (Tb k).2.2.1 ∈ lw_g) (hfin : (Tb k).2.2.2 = false ∨ ((Tb k).2.2.2 = true ∧ (Tb k).1 = own ∧ ∀ x, X = some x → Zi x)) {ty : FieldType} (hdd : parseFieldDescriptor (Tb k).2.2.1 = some ty) (hn : narrow ty w = w) (hfit : fits ty w = true)
    (e : gK M1 = gK M ∧ gN M1 = gN M ∧ gA M1 = gA M ∧ gB M1 = gB M ∧ gO M1 = gO M ∧ gH M1 = gH M) (eS : gS M1 = gS M) (eE : gE M1 = gE M) (hv : ∀ x d j, x ≠ a → fv M1 d j x = fv M d j x) (hv2 : ∀ i, i < N → fv M1 c i a = if i = k then w else fv M c i a)
    (hj : Kf[j]? = some (a, c + 1)) (hd : decode cc pc = .ok (.putfield ix, 3)) (kk : T X V (own, cc, nL, rt, fr, lo) M1 Kf L st (pc + 3)) : T X V (own, cc, nL, rt, fr, lo) M Kf L (w :: .ref a :: st) pc := by
  refine ⟨by rw [← e.2.2.2.2.2, ← eS]; exact kk.1, fun x hX Z => ?_⟩
  have kk := kk.2 x hX Z
  have hzi := fun h : (Tb k).2.2.2 = true ∧ (Tb k).1 = own ∧ ∀ x, X = some x → Zi x => h.2.2 x hX
  obtain ⟨p, l, e0, R, s, m, args, below, meth, c0, D, ac, M0⟩ := x
  obtain ⟨hx, hb, hr, hml, hown, hts, hKW, -⟩ := Z
  intro hle hf H locs ls hP hS hl
  have hkd : gK M a = c + 1 := (hf _ (List.mem_of_getElem? hj)).1
  have hap := va_apart (own := own) hts hin ty0 hty hnm hKW hc
  obtain ⟨cell, q1, q2, q3, q4⟩ := hP.2.2.1 a c hkd hc14
  rw [hN] at q4
  obtain ⟨hSl, hfc, kC, hkC, hkind⟩ := hKW.1 c _ hc
  obtain ⟨cf, kf, fi, f, hi, hsl⟩ := hSl k hk
  have hst := (u_facts hfc hkC (u_lays hts hin hk) hi).1
  have hlay := hts _ (hin _ (u_in_lay hk))
  have hA : ownM M0 a := hle.2.2.1 a (Or.inl (by show gK M a ≠ 0; omega))
  have fin : ∀ (H1 : Heap), H1[a]? = some (cell.setSlot f.slot w) → H1.size = H.size → (∀ q : Nat, q ≠ a → H1[q]? = H[q]?) → W p l e0 R s m args below meth c0 H1 (locs ++ [⟨a, f.slot⟩]) (gH M - gH M0) (gS M - gS M0) (MQ below (QcG D ac M0 V.1 V.2.1) args s (gH V.2.1 - gH M0) (gS V.2.1 - gS M0) (ownM M0)) (F0 m (pc + 3) ls st) := by
    intro H1 e1 e2 e3
    rw [hsl] at e1
    have r := kk (hle.same e.1 e.2.2.2.2.2 eS eE) (kinds_same e.1 hf) H1 (locs ++ [⟨a, f.slot⟩]) ls (hP.setf hkd hc14 e hv e2 e3 (by
      rw [hN]
      exact t_OB.to (V := updV (fun j => fv M c j a) k w) ⟨_, e1, q2, q3, t_set q4 hap hk w⟩ (fun j hj => by rw [hv2 j hj]; rfl))) (hS.put e2 e3 hA) hl
    rw [e.2.2.2.2.2, eS] at r
    exact r
  rcases hfin with hfin | hfin
  · unfold u_lay at hlay
    rw [if_neg (by rw [hfin]; decide)] at hlay
    have h6 := u_store hfc hkC hkind hlay hi hdd hn hfit
    exact W.putK hx hb (f := f) ⟨hown, hts _ hlink, ⟨_, _, _, w_same (D := own) hts hsame _ hi⟩, hst⟩ (by rw [q2]; exact h6) q1 q3 (by rw [hsl]; exact k2_hasslot (q4 k hk)) rfl rfl hd fin
  · have hzi : meth.name = "<init>" := hzi hfin
    unfold u_lay at hlay
    rw [if_pos hfin.1] at hlay
    have hcf : m.cls = cf := by
      obtain ⟨_, _, c', _, _, _, -, -, hf', -, -, -, hown2, -⟩ := Cond.laysFinal_spec hlay
      have e1 : c' = cf := by have := hi.symm.trans hf'; simp at this; exact this.1.symm
      rw [hfin.2.1] at hown2
      rw [← e1]; exact Option.some.inj (hown.symm.trans hown2)
    have h6 := u_fits hfc hkC hkind (Or.inr hlay) hi hdd hn hfit
    exact W.putFinK hx hb hown (hts _ hlink) (w_same (D := own) hts hsame _ hi) hst hcf hzi (by rw [q2]; exact h6) q1 q3 (by rw [hsl]; exact k2_hasslot (q4 k hk)) rfl rfl hd fin
end MR
theorem code_inj {c i k : Nat} : 100 * c + i = 100 * c + k ↔ i = k := by omega
section MR2
variable {X : Option Cx} {V : Option Value × Mem × EG} {own : String} {cc : ByteArray} {nL : Nat} {rt : Option FieldType} {fr lo : Nat} {pc : Nat} {M : Mem} {Kf : List (Nat × Nat)} {L : List (Nat × Value)} {st : List Value}
theorem r_putI {ref C : String} {Tb : u_T} {N c ix k a j f : Nat} {w : Int32} {β : Type} {kq : Mem → Option β} {res : β} (hin : ∀ w ∈ u_ws C Tb N, w ∈ lw_g) (ty0 : Nat → FieldType) (hty : ∀ k, k < N → parseFieldDescriptor (Tb k).2.2.1 = some (ty0 k)) (hnm : ∀ a, a < N → ∀ b, b < N → a ≠ b → (Tb a).2.1 ≠ (Tb b).2.1) (hc : vwCl[c]? = some (C, Tb, N)) (hN : nfl c = N) (hk : k < N) (hc14 : c < 14) (hfk : fkd c k = 0) (hcode : 100 * c + k = f)
    (hlink : Cond.fieldLink own ix ref (Tb k).2.1 (Tb k).2.2.1 ∈ lw_g) (hsame : (Tb k).1 = ref ∨ Cond.sameField ref (Tb k).1 (Tb k).2.1 (Tb k).2.2.1 ∈ lw_g) (hfin : (Tb k).2.2.2 = false ∨ ((Tb k).2.2.2 = true ∧ (Tb k).1 = own ∧ ∀ x, X = some x → Zi x)) {ty : FieldType} (hdd : parseFieldDescriptor (Tb k).2.2.1 = some ty) (hn : narrow ty (.int w) = .int w) (hfit : fits ty (.int w) = true)
    (hj : Kf[j]? = some (a, c + 1)) (hd : decode cc pc = .ok (.putfield ix, 3)) (hF : bnd (sI M f a w) kq = some res) (kk : ∀ M1, kq M1 = some res → T X V (own, cc, nL, rt, fr, lo) M1 Kf L st (pc + 3)) : T X V (own, cc, nL, rt, fr, lo) M Kf L (.int w :: .ref a :: st) pc := by
  subst hcode
  refine r_put0 (M1 := sI M (100 * c + k) a w) hin ty0 hty hnm hc hN hk hc14 hlink hsame hfin hdd hn hfit ⟨rfl, rfl, rfl, rfl, rfl, rfl⟩ rfl rfl (fun x d i hx => ?_) (fun i _ => ?_) hj hd (kk _ hF)
  · show fv (sI M (100 * c + k) a w) d i x = fv M d i x
    unfold fv
    have e : gI (sI M (100 * c + k) a w) (100 * d + i) x = gI M (100 * d + i) x := if_neg (fun h => hx h.2)
    rw [e]
    rfl
  · show fv (sI M (100 * c + k) a w) c i a = _
    by_cases hi : i = k
    · subst hi
      rw [if_pos rfl]
      unfold fv
      rw [if_pos hfk]
      exact congrArg Value.int (if_pos ⟨rfl, rfl⟩)
    · rw [if_neg hi]
      unfold fv
      have e : gI (sI M (100 * c + k) a w) (100 * c + i) a = gI M (100 * c + i) a := if_neg (fun h => hi (by omega))
      rw [e]
      rfl
theorem r_putJ {ref C : String} {Tb : u_T} {N c ix k a j f : Nat} {w : Int64} {β : Type} {kq : Mem → Option β} {res : β} (hin : ∀ w ∈ u_ws C Tb N, w ∈ lw_g) (ty0 : Nat → FieldType) (hty : ∀ k, k < N → parseFieldDescriptor (Tb k).2.2.1 = some (ty0 k)) (hnm : ∀ a, a < N → ∀ b, b < N → a ≠ b → (Tb a).2.1 ≠ (Tb b).2.1) (hc : vwCl[c]? = some (C, Tb, N)) (hN : nfl c = N) (hk : k < N) (hc14 : c < 14) (hfk : fkd c k = 1) (hcode : 100 * c + k = f)
    (hlink : Cond.fieldLink own ix ref (Tb k).2.1 (Tb k).2.2.1 ∈ lw_g) (hsame : (Tb k).1 = ref ∨ Cond.sameField ref (Tb k).1 (Tb k).2.1 (Tb k).2.2.1 ∈ lw_g) (hfin : (Tb k).2.2.2 = false ∨ ((Tb k).2.2.2 = true ∧ (Tb k).1 = own ∧ ∀ x, X = some x → Zi x)) {ty : FieldType} (hdd : parseFieldDescriptor (Tb k).2.2.1 = some ty) (hn : narrow ty (.long w) = .long w) (hfit : fits ty (.long w) = true)
    (hj : Kf[j]? = some (a, c + 1)) (hd : decode cc pc = .ok (.putfield ix, 3)) (hF : bnd (sJ M f a w) kq = some res) (kk : ∀ M1, kq M1 = some res → T X V (own, cc, nL, rt, fr, lo) M1 Kf L st (pc + 3)) : T X V (own, cc, nL, rt, fr, lo) M Kf L (.long w :: .ref a :: st) pc := by
  subst hcode
  have hne : ¬ fkd c k = 0 := by rw [hfk]; decide
  refine r_put0 (M1 := sJ M (100 * c + k) a w) hin ty0 hty hnm hc hN hk hc14 hlink hsame hfin hdd hn hfit ⟨rfl, rfl, rfl, rfl, rfl, rfl⟩ rfl rfl (fun x d i hx => ?_) (fun i _ => ?_) hj hd (kk _ hF)
  · show fv (sJ M (100 * c + k) a w) d i x = fv M d i x
    unfold fv
    have e : gJ (sJ M (100 * c + k) a w) (100 * d + i) x = gJ M (100 * d + i) x := if_neg (fun h => hx h.2)
    rw [e]
    rfl
  · show fv (sJ M (100 * c + k) a w) c i a = _
    by_cases hi : i = k
    · subst hi
      rw [if_pos rfl]
      unfold fv
      rw [if_neg hne, if_pos hfk]
      exact congrArg Value.long (if_pos ⟨rfl, rfl⟩)
    · rw [if_neg hi]
      unfold fv
      have e : gJ (sJ M (100 * c + k) a w) (100 * c + i) a = gJ M (100 * c + i) a := if_neg (fun h => hi (by omega))
      rw [e]
      rfl
theorem r_putR {ref C : String} {Tb : u_T} {N c ix k a j f : Nat} {w : Option Nat} {β : Type} {kq : Mem → Option β} {res : β} (hin : ∀ w ∈ u_ws C Tb N, w ∈ lw_g) (ty0 : Nat → FieldType) (hty : ∀ k, k < N → parseFieldDescriptor (Tb k).2.2.1 = some (ty0 k)) (hnm : ∀ a, a < N → ∀ b, b < N → a ≠ b → (Tb a).2.1 ≠ (Tb b).2.1) (hc : vwCl[c]? = some (C, Tb, N)) (hN : nfl c = N) (hk : k < N) (hc14 : c < 14) (hfk : fkd c k = 2) (hcode : 100 * c + k = f)
    (hlink : Cond.fieldLink own ix ref (Tb k).2.1 (Tb k).2.2.1 ∈ lw_g) (hsame : (Tb k).1 = ref ∨ Cond.sameField ref (Tb k).1 (Tb k).2.1 (Tb k).2.2.1 ∈ lw_g) (hfin : (Tb k).2.2.2 = false ∨ ((Tb k).2.2.2 = true ∧ (Tb k).1 = own ∧ ∀ x, X = some x → Zi x)) {ty : FieldType} (hdd : parseFieldDescriptor (Tb k).2.2.1 = some ty) (hn : narrow ty (va_rf w) = va_rf w) (hfit : fits ty (va_rf w) = true)
    (hj : Kf[j]? = some (a, c + 1)) (hd : decode cc pc = .ok (.putfield ix, 3)) (hF : bnd (sR M f a w) kq = some res) (kk : ∀ M1, kq M1 = some res → T X V (own, cc, nL, rt, fr, lo) M1 Kf L st (pc + 3)) : T X V (own, cc, nL, rt, fr, lo) M Kf L (va_rf w :: .ref a :: st) pc := by
  subst hcode
  have hne : ¬ fkd c k = 0 := by rw [hfk]; decide
  have hne1 : ¬ fkd c k = 1 := by rw [hfk]; decide
  refine r_put0 (M1 := sR M (100 * c + k) a w) hin ty0 hty hnm hc hN hk hc14 hlink hsame hfin hdd hn hfit ⟨rfl, rfl, rfl, rfl, rfl, rfl⟩ rfl rfl (fun x d i hx => ?_) (fun i _ => ?_) hj hd (kk _ hF)
  · show fv (sR M (100 * c + k) a w) d i x = fv M d i x
    unfold fv
    have e : gR (sR M (100 * c + k) a w) (100 * d + i) x = gR M (100 * d + i) x := if_neg (fun h => hx h.2)
    rw [e]
    rfl
  · show fv (sR M (100 * c + k) a w) c i a = _
    by_cases hi : i = k
    · subst hi
      rw [if_pos rfl]
      unfold fv
      rw [if_neg hne, if_neg hne1]
      exact congrArg va_rf (if_pos ⟨rfl, rfl⟩)
    · rw [if_neg hi]
      unfold fv
      have e : gR (sR M (100 * c + k) a w) (100 * c + i) a = gR M (100 * c + i) a := if_neg (fun h => hi (by omega))
      rw [e]
      rfl
end MR2
