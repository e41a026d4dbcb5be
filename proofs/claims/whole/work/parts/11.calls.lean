theorem r_iret {X : Option Cx} {G : EG} {own : String} {cc : ByteArray} {nL : Nat} {fr lo : Nat} {pc : Nat} {M : Mem} {Kf : List (Nat × Nat)} {L : List (Nat × Value)} {w : Int32} {res : Mem × Int32} (hd : decode cc pc = .ok (.ireturn, 1)) (hF : some (M, w) = some res) : T X (RI G res) (own, cc, nL, some .int, fr, lo) M Kf L [.int w] pc := by
  cases hF
  refine ⟨⟨Nat.le_refl _, Nat.le_refl _⟩, fun x hX Z => ?_⟩
  obtain ⟨p, l, e0, R, s, m, args, below, meth, c0, D, ac, M0⟩ := x
  obtain ⟨hx, hb, hr, hml, hown, hts, hKW, hEV, hlk, hR, hgE⟩ := Z
  intro hle hf H locs ls hP hS hl
  exact W.iret (v := w) hx hb hr (fun t ht hW => ⟨rfl, by rw [ht]; exact hP, hS.F ht, hle⟩) hS.2.2 hd (hlocks := hlk)
theorem r_lret {X : Option Cx} {G : EG} {own : String} {cc : ByteArray} {nL : Nat} {fr lo : Nat} {pc : Nat} {M : Mem} {Kf : List (Nat × Nat)} {L : List (Nat × Value)} {w : Int64} {res : Mem × Int64} (hd : decode cc pc = .ok (.lreturn, 1)) (hF : some (M, w) = some res) : T X (RJ G res) (own, cc, nL, some .long, fr, lo) M Kf L [.long w] pc := by
  cases hF
  refine ⟨⟨Nat.le_refl _, Nat.le_refl _⟩, fun x hX Z => ?_⟩
  obtain ⟨p, l, e0, R, s, m, args, below, meth, c0, D, ac, M0⟩ := x
  obtain ⟨hx, hb, hr, hml, hown, hts, hKW, hEV, hlk, hR, hgE⟩ := Z
  intro hle hf H locs ls hP hS hl
  exact W.lret (v := w) hx hb hr (fun t ht hW => ⟨rfl, by rw [ht]; exact hP, hS.F ht, hle⟩) hS.2.2 hd (hlocks := hlk)
theorem r_zret {X : Option Cx} {G : EG} {own : String} {cc : ByteArray} {nL : Nat} {fr lo : Nat} {pc : Nat} {M : Mem} {Kf : List (Nat × Nat)} {L : List (Nat × Value)} {w : Int32} {res : Mem × Int32} (hd : decode cc pc = .ok (.ireturn, 1)) (hF : grd (w = 0 ∨ w = 1) (some (M, w)) = some res) : T X (RI G res) (own, cc, nL, some .boolean, fr, lo) M Kf L [.int w] pc := by
  obtain ⟨h01, hF⟩ := grd_e hF
  cases hF
  refine ⟨⟨Nat.le_refl _, Nat.le_refl _⟩, fun x hX Z => ?_⟩
  obtain ⟨p, l, e0, R, s, m, args, below, meth, c0, D, ac, M0⟩ := x
  obtain ⟨hx, hb, hr, hml, hown, hts, hKW, hEV, hlk, hR, hgE⟩ := Z
  intro hle hf H locs ls hP hS hl
  exact W.zret (v := w) hx hb hr (by rcases h01 with h | h <;> subst h <;> rfl) (fun t ht hW => ⟨rfl, by rw [ht]; exact hP, hS.F ht, hle⟩) hS.2.2 hd (hlocks := hlk)
theorem r_bret {X : Option Cx} {G : EG} {own : String} {cc : ByteArray} {nL : Nat} {fr lo : Nat} {pc : Nat} {M : Mem} {Kf : List (Nat × Nat)} {L : List (Nat × Value)} {w : Int32} {res : Mem × Int32} (hd : decode cc pc = .ok (.ireturn, 1)) (hF : grd (w = 0 ∨ w = 1) (some (M, w)) = some res) : T X (RI G res) (own, cc, nL, some .byte, fr, lo) M Kf L [.int w] pc := by
  obtain ⟨h01, hF⟩ := grd_e hF
  cases hF
  refine ⟨⟨Nat.le_refl _, Nat.le_refl _⟩, fun x hX Z => ?_⟩
  obtain ⟨p, l, e0, R, s, m, args, below, meth, c0, D, ac, M0⟩ := x
  obtain ⟨hx, hb, hr, hml, hown, hts, hKW, hEV, hlk, hR, hgE⟩ := Z
  intro hle hf H locs ls hP hS hl
  exact W.zret (v := w) hx hb hr (by rcases h01 with h | h <;> subst h <;> rfl) (fun t ht hW => ⟨rfl, by rw [ht]; exact hP, hS.F ht, hle⟩) hS.2.2 hd (hlocks := hlk)
theorem r_vret {X : Option Cx} {G : EG} {own : String} {cc : ByteArray} {nL : Nat} {fr lo : Nat} {pc : Nat} {M : Mem} {Kf : List (Nat × Nat)} {L : List (Nat × Value)} {res : Mem × Unit} (hd : decode cc pc = .ok (.return_, 1)) (hF : some (M, ()) = some res) : T X (RV G res) (own, cc, nL, none, fr, lo) M Kf L [] pc := by
  cases hF
  refine ⟨⟨Nat.le_refl _, Nat.le_refl _⟩, fun x hX Z => ?_⟩
  obtain ⟨p, l, e0, R, s, m, args, below, meth, c0, D, ac, M0⟩ := x
  obtain ⟨hx, hb, hr, hml, hown, hts, hKW, hEV, hlk, hR, hgE⟩ := Z
  intro hle hf H locs ls hP hS hl
  exact W.vret hx hb hr (fun t ht hW => ⟨rfl, by rw [ht]; exact hP, hS.F ht, hle⟩) hS.2.2 hd (hlocks := hlk)
theorem r_aret {X : Option Cx} {G : EG} {own : String} {cc : ByteArray} {nL : Nat} {rty : FieldType} {fr lo : Nat} {pc : Nat} {M : Mem} {Kf : List (Nat × Nat)} {L : List (Nat × Value)} {w : Option Nat} {res : Mem × Option Nat} (hrt : (∃ n, rty = .object n) ∨ ∃ t, rty = .array t) (hd : decode cc pc = .ok (.areturn, 1)) (hF : some (M, w) = some res) : T X (RR G res) (own, cc, nL, some rty, fr, lo) M Kf L [va_rf w] pc := by
  cases hF
  refine ⟨⟨Nat.le_refl _, Nat.le_refl _⟩, fun x hX Z => ?_⟩
  obtain ⟨p, l, e0, R, s, m, args, below, meth, c0, D, ac, M0⟩ := x
  obtain ⟨hx, hb, hr, hml, hown, hts, hKW, hEV, hlk, hR, hgE⟩ := Z
  intro hle hf H locs ls hP hS hl
  exact W.aret (v := va_rf w) hx hb hr hrt (by cases w with | none => exact Or.inl rfl | some a => exact Or.inr ⟨a, rfl⟩) (fun t ht hW => ⟨rfl, by rw [ht]; exact hP, hS.F ht, hle⟩) hS.2.2 hd (hlocks := hlk)
/-- the contract of y: from memory M with the kinds Kf and the arguments av it comes to V -/
def Kt (y : MethodName) (P : MP) (M : Mem) (Kf : List (Nat × Nat)) (av : List Value) (V : Option Value × Mem × EG) : Prop :=
  (gH M ≤ gH V.2.1 ∧ gS M ≤ gS V.2.1) ∧ ∀ (l : Launch) (D : va_G) (ac : Nat → ClassId), Met l y (.code y P.2.1 P.2.2.1 P.2.2.2.1 :: lw_g) { frames := P.2.2.2.2.1, cells := gH V.2.1 - gH M, slots := gS V.2.1 - gS M, locals := P.2.2.2.2.2 } (PcG D ac V.2.2 M Kf av) (QcG D ac M V.1 V.2.1) (gH V.2.1 - gH M) (gS V.2.1 - gS M) (ownM M)
theorem Kt.of {y : MethodName} {P : MP} {M : Mem} {Kf : List (Nat × Nat)} {av : List Value} {V : Option Value × Mem × EG} {Lv : List (Nat × Value)} (hy : plainName y.cls = true) (hP1 : y.cls = P.1) (hlen : (lg_sl av).length ≤ P.2.2.1) (hL : lv_args 0 av = Lv)
    (h : ∀ X : Option Cx, (∀ x, X = some x → y.name = "<init>" → Zi x) → T X V P M Kf Lv [] 0) : Kt y P M Kf av V := by
  refine ⟨(h none (fun x hx => by cases hx)).1, fun l D ac => ?_⟩
  refine Met.ofW (cc := P.2.1) (maxL := P.2.2.1) (ret := P.2.2.2.1) hy rfl ?_
  intro p e s m args below meth c s₁ B hml hv
  obtain ⟨rfl, hPW, hKW, hEV, hgE, hkd⟩ := hv
  have hts := atoms_spec (ws := .code y P.2.1 P.2.2.1 P.2.2.2.1 :: lw_g) B.pre
  have hown : s.vm.findClass y.cls = some m.cls := findClass_of_methodNamed B.named
  have k := (h (some (p, l, e, _, s, m, av.toArray, below, meth, c, D, ac, M)) (fun x hx hn => by cases hx; exact (name_of_methodNamed B.named B.method).1.trans hn)).2 _ rfl ⟨B.exec, B.bytes, B.returns, hml, by rw [← hP1]; exact hown, fun w hw => hts w (List.mem_cons_of_mem _ hw), hKW, hEV, B.notSynchronized, rfl, hgE⟩
  have hl := lv_entry av (n := P.2.2.1) hlen
  rw [lg_entry_eq]
  rw [hL] at hl
  have r := k Le.rf hkd s.heap [] _ hPW va_S.rf hl
  rw [Nat.sub_self, Nat.sub_self] at r
  exact r
theorem lw_g_good {c : Cond} (h : c ∈ lw_g) : GoodIn lw_g (c :: lw_g) := fun w hw => by
  have hw : w ∈ lw_g := by
    rcases List.mem_cons.mp hw with rfl | hw
    · exact h
    · exact hw
  exact ⟨hw, good_of_word (List.mem_filter.mp hw).2⟩
theorem good_in {w : Cond} (hw : w ∈ lw_g) : w ∈ lw_g ∧ ((w.onTables && w.keeps) = true ∨ ∃ ty, w = .arrayClass ty) := ⟨hw, good_of_word (List.mem_filter.mp hw).2⟩
theorem wsV_good {own : String} {ix : Nat} {y : MethodName} {c : Cond} (w1 : Cond.methodLink own ix y ∈ lw_g) (w2 : Cond.instanceMethod y ∈ lw_g) (w3 : Cond.selects y.cls y y ∈ lw_g) (w4 : Cond.initialized y.cls ∈ lw_g) (w5 : c ∈ lw_g) : GoodIn lw_g (wsV own ix y.cls y (c :: lw_g)) := fun w hw => by
  unfold wsV at hw
  rcases List.mem_append.mp hw with hw | hw
  · rcases List.mem_cons.mp hw with rfl | hw
    · exact good_in w1
    rcases List.mem_cons.mp hw with rfl | hw
    · exact good_in w2
    rcases List.mem_cons.mp hw with rfl | hw
    · exact good_in w3
    rcases List.mem_cons.mp hw with rfl | hw
    · exact good_in w4
    cases hw
  · exact lw_g_good w5 w hw
theorem g_call {p : Program} {l : Launch} {e : Env} {R : Room} {s : State} {m : MethodId} {args : Array Value} {below : List Frame} {meth : Method} {c : Code} {D : va_G} {ac : Nat → ClassId} {M0 Mc M1 : Mem} {v : Option Value} {H : Heap} {locs : List Loc} {cells slots mc ms : Nat} {Q : State → Prop} {pc : Nat} {ls : Array Slot} {rest st0 : List Value} {a : Array Value}
    (hr : va_Run p l e R s m args below meth c H locs cells slots mc ms (F0 m pc ls st0) rest (QcG D ac Mc v M1 a) (ownM Mc)) (hS : va_S (ownM M0) s.heap H locs) (hA : ∀ q, ownM Mc q → ownM M0 q)
    (kk : ∀ (H1 : Heap) (locs1 : List Loc), Le Mc M1 → PW D ac M1 H1 → va_S (ownM M0) s.heap H1 locs1 → W p l e R s m args below meth c H1 locs1 (cells + mc) (slots + ms) Q (F0 m (pc + 3) ls (v.toList ++ rest))) : W p l e R s m args below meth c H locs cells slots Q (F0 m pc ls st0) := by
  intro T hT X
  obtain ⟨v', st₀, t, T', L, h0, X', hL, e1, e2, ⟨hv, hp, ⟨hz, hk⟩, hle⟩, st⟩ := hr T hT X
  cases hv
  rw [h0] at hz hk
  obtain ⟨t2, a1, b1⟩ := kk T'.heap (locs ++ L) hle (by rw [e1]; exact hp) ⟨Nat.le_trans hS.1 (by rw [e1]; exact hz), fun q h1 h2 => by rw [e1, hk q (Nat.lt_of_lt_of_le h1 hS.1) (fun z => h2 (hA q z))]; exact hS.2.1 q h1 h2, fun q hq => by
      rcases List.mem_append.mp hq with h | h
      · exact hS.2.2 q h
      · exact hA _ (hL q h)⟩ T' rfl X'
  exact ⟨t2, st t2 a1, b1⟩
theorem PcG.blind {D : va_G} {ac : Nat → ClassId} {G : EG} {M : Mem} {Kf : List (Nat × Nat)} {av : List Value} : FrameBlind (PcG D ac G M Kf av) := fun a U g mk h => by
  obtain ⟨h1, h2, h3, h4, h5⟩ := h
  exact ⟨h1, h2, va_K.moved (u := U) (U := U.calling g mk a) (Vm.Alike.refl U.vm) h3, EV.calling h4 g mk a, h5⟩
theorem PcG.ready {D : va_G} {ac : Nat → ClassId} {G : EG} {M0 M : Mem} {Kf : List (Nat × Nat)} {av : List Value} {s U : State} {H : Heap} {locs : List Loc} (hP : PW D ac M H) (hKW : KW D ac s) (hEV : EV G (ownM M0) s s.heap) (hS : va_S (ownM M0) s.heap H locs) (hle : Le M0 M) (hgE : gE M0 = G.2.2.1) (hk : ∀ q ∈ Kf, gK M q.1 = q.2 ∧ q.2 ≠ 0) (hU : U.heap = H) (hW : s.WarmedH U.vm) : PcG D ac G M Kf av av.toArray U :=
  ⟨rfl, by rw [hU]; exact hP, va_K.moved hW.alike hKW, by rw [hU]; exact ((hEV.kept (fun a h1 h2 => hS.2.1 a h1 h2)).narrow hle.2.2.1).warm hW, by rw [hle.2.2.2.2]; exact hgE, hk⟩
theorem PW.cell {D : va_G} {ac : Nat → ClassId} {M : Mem} {H : Heap} {s : State} {a c N : Nat} {C : String} {Tb : u_T} (hP : PW D ac M H) (hKW : KW D ac s) (hc : vwCl[c]? = some (C, Tb, N)) (hc14 : c < 14) (hk : gK M a = c + 1) : ∃ cell : Cell, H[a]? = some cell ∧ cell.vm.isStatics = false ∧ s.vm.findClass C = some cell.cls := by
  obtain ⟨cell, g1, g2, g3, -⟩ := hP.2.2.1 a c hk hc14
  exact ⟨cell, g1, by rw [g3]; rfl, by rw [g2]; exact (hKW.1 c _ hc).2.1⟩
theorem r_callVS0 {X : Option Cx} {V : Option Value × Mem × EG} {own : String} {cc : ByteArray} {nL : Nat} {rt : Option FieldType} {fr lo : Nat} {pc : Nat} {M : Mem} {Kf : List (Nat × Nat)} {L : List (Nat × Value)} {st : List Value} {y : MethodName} {Py : MP} {n ix : Nat} {i : Nat} {As stk : List Value} {Kfc : List (Nat × Nat)} {vc : Option Value} {M1 : Mem} (hK : Kt y Py M Kfc (.ref (V.2.2.1 i) :: As) (vc, M1, V.2.2)) (hi : i < 7) (hcs : y.cls = "java/lang/String") (w1 : Cond.methodLink own ix y ∈ lw_g) (w2 : Cond.instanceMethod y ∈ lw_g) (w3 : Cond.selects y.cls y y ∈ lw_g) (w4 : Cond.initialized y.cls ∈ lw_g) (w5 : Cond.code y Py.2.1 Py.2.2.1 Py.2.2.2.1 ∈ lw_g) (hd1 : y.cls ≠ "java/lang/invoke/MethodHandle" ∧ y.cls ≠ "java/lang/invoke/VarHandle" ∧ (parseMethodDescriptor y.desc).map (fun d => d.parameters.length) = some n)
    (hroom : Py.2.2.2.2.1 + 1 ≤ fr ∧ 8 + (Py.2.2.1 + 11) + Py.2.2.2.2.2 ≤ lo) (hn : As.length = n) (js : List Nat) (hks : js.filterMap (fun i => Kf[i]?) = Kfc) (hst : stk = As.reverse ++ .ref (V.2.2.1 i) :: st) (hcat : (st.map fun v => v.category).sum ≤ 8) (hd : decode cc pc = .ok (.invokevirtual ix, 3)) (kk : T X V (own, cc, nL, rt, fr, lo) M1 Kf L (vc.toList ++ st) (pc + 3)) : T X V (own, cc, nL, rt, fr, lo) M Kf L stk pc := by
  have h1 := hK.1
  have h2 := kk.1
  dsimp only at h1
  refine ⟨⟨Nat.le_trans h1.1 h2.1, Nat.le_trans h1.2 h2.2⟩, fun x hX Z => ?_⟩
  have kk := kk.2 x hX Z
  obtain ⟨p, l, e0, R, s, m, args, below, meth, c0, D, ac, M0⟩ := x
  obtain ⟨hx, hb, hr, hml, hown, hts, hKW, hEV, hlk, hR, hgE⟩ := Z
  intro hle hf H locs ls hP hS hl
  have l1 := hle.1
  have l2 := hle.2.1
  subst hR
  have hkc : ∀ q ∈ Kfc, gK M q.1 = q.2 ∧ q.2 ≠ 0 := fun q hq => by
    subst hks
    obtain ⟨i, -, hi⟩ := List.mem_filterMap.mp hq
    exact hf q (List.mem_of_getElem? hi)
  refine g_call (M1 := M1) (v := vc) (mc := gH M1 - gH M) (ms := gS M1 - gS M) (rest := st) (va_runV (As := As) (rest := st) ⟨hx, hb, hml, hown, hts⟩ (hK.2 l D ac) (cwV n hts (C := y.cls) (wsV_good w1 w2 w3 w4 w5) rfl rfl rfl ⟨rfl, hd1⟩ hroom) ⟨PcG.blind, (by have h9 := vk_recv hEV.1 hi hS; rw [← hcs] at h9; exact h9), fun U hU hW => PcG.ready hP hKW hEV hS hle hgE hkc hU hW⟩ rfl hn hl.1 hst (lv_room hcat) hd ⟨?_, ?_⟩) hS hle.2.2.1 fun H1 locs1 q1 q2 q3 => ?_
  · show gH M - gH M0 + (gH M1 - gH M) ≤ gH V.2.1 - gH M0
    have := h2.1
    omega
  · show gS M - gS M0 + (gS M1 - gS M) ≤ gS V.2.1 - gS M0
    have := h2.2
    omega
  · have r := kk (hle.tr q1) (fun q hq => ⟨by rw [q1.2.2.2.1 q.1 (by rw [(hf q hq).1]; exact (hf q hq).2)]; exact (hf q hq).1, (hf q hq).2⟩) H1 locs1 ls q2 q3 hl
    have e1 : gH M1 - gH M0 = gH M - gH M0 + (gH M1 - gH M) := by have := h1.1; omega
    have e2 : gS M1 - gS M0 = gS M - gS M0 + (gS M1 - gS M) := by have := h1.2; omega
    rw [e1, e2] at r
    exact r
theorem r_callVS_I {X : Option Cx} {V : Option Value × Mem × EG} {own : String} {cc : ByteArray} {nL : Nat} {rt : Option FieldType} {fr lo : Nat} {pc : Nat} {M : Mem} {Kf : List (Nat × Nat)} {L : List (Nat × Value)} {st : List Value} {y : MethodName} {Py : MP} {n ix : Nat} {i : Nat} {As stk : List Value} {Kfc : List (Nat × Nat)} {o : Option (Mem × Int32)} {β : Type} {kq : Mem → Int32 → Option β} {res : β} (hK : ∀ q, o = some q → Kt y Py M Kfc (.ref (V.2.2.1 i) :: As) (RI V.2.2 q)) (hi : i < 7) (hcs : y.cls = "java/lang/String") (w1 : Cond.methodLink own ix y ∈ lw_g) (w2 : Cond.instanceMethod y ∈ lw_g) (w3 : Cond.selects y.cls y y ∈ lw_g) (w4 : Cond.initialized y.cls ∈ lw_g) (w5 : Cond.code y Py.2.1 Py.2.2.1 Py.2.2.2.1 ∈ lw_g) (hd1 : y.cls ≠ "java/lang/invoke/MethodHandle" ∧ y.cls ≠ "java/lang/invoke/VarHandle" ∧ (parseMethodDescriptor y.desc).map (fun d => d.parameters.length) = some n)
    (hroom : Py.2.2.2.2.1 + 1 ≤ fr ∧ 8 + (Py.2.2.1 + 11) + Py.2.2.2.2.2 ≤ lo) (hn : As.length = n) (js : List Nat) (hks : js.filterMap (fun i => Kf[i]?) = Kfc) (hst : stk = As.reverse ++ .ref (V.2.2.1 i) :: st) (hcat : (st.map fun v => v.category).sum ≤ 8) (hd : decode cc pc = .ok (.invokevirtual ix, 3)) (hF : cl o kq = some res) (kk : ∀ M1 r, kq M1 r = some res → T X V (own, cc, nL, rt, fr, lo) M1 Kf L (.int r :: st) (pc + 3)) : T X V (own, cc, nL, rt, fr, lo) M Kf L stk pc := by
  obtain ⟨M1, r, e, hF⟩ := cl_e hF
  exact r_callVS0 (hK _ e) hi hcs w1 w2 w3 w4 w5 hd1 hroom hn js hks hst hcat hd (kk M1 r hF)
theorem r_callVS_J {X : Option Cx} {V : Option Value × Mem × EG} {own : String} {cc : ByteArray} {nL : Nat} {rt : Option FieldType} {fr lo : Nat} {pc : Nat} {M : Mem} {Kf : List (Nat × Nat)} {L : List (Nat × Value)} {st : List Value} {y : MethodName} {Py : MP} {n ix : Nat} {i : Nat} {As stk : List Value} {Kfc : List (Nat × Nat)} {o : Option (Mem × Int64)} {β : Type} {kq : Mem → Int64 → Option β} {res : β} (hK : ∀ q, o = some q → Kt y Py M Kfc (.ref (V.2.2.1 i) :: As) (RJ V.2.2 q)) (hi : i < 7) (hcs : y.cls = "java/lang/String") (w1 : Cond.methodLink own ix y ∈ lw_g) (w2 : Cond.instanceMethod y ∈ lw_g) (w3 : Cond.selects y.cls y y ∈ lw_g) (w4 : Cond.initialized y.cls ∈ lw_g) (w5 : Cond.code y Py.2.1 Py.2.2.1 Py.2.2.2.1 ∈ lw_g) (hd1 : y.cls ≠ "java/lang/invoke/MethodHandle" ∧ y.cls ≠ "java/lang/invoke/VarHandle" ∧ (parseMethodDescriptor y.desc).map (fun d => d.parameters.length) = some n)
    (hroom : Py.2.2.2.2.1 + 1 ≤ fr ∧ 8 + (Py.2.2.1 + 11) + Py.2.2.2.2.2 ≤ lo) (hn : As.length = n) (js : List Nat) (hks : js.filterMap (fun i => Kf[i]?) = Kfc) (hst : stk = As.reverse ++ .ref (V.2.2.1 i) :: st) (hcat : (st.map fun v => v.category).sum ≤ 8) (hd : decode cc pc = .ok (.invokevirtual ix, 3)) (hF : cl o kq = some res) (kk : ∀ M1 r, kq M1 r = some res → T X V (own, cc, nL, rt, fr, lo) M1 Kf L (.long r :: st) (pc + 3)) : T X V (own, cc, nL, rt, fr, lo) M Kf L stk pc := by
  obtain ⟨M1, r, e, hF⟩ := cl_e hF
  exact r_callVS0 (hK _ e) hi hcs w1 w2 w3 w4 w5 hd1 hroom hn js hks hst hcat hd (kk M1 r hF)
theorem r_callVS_R {X : Option Cx} {V : Option Value × Mem × EG} {own : String} {cc : ByteArray} {nL : Nat} {rt : Option FieldType} {fr lo : Nat} {pc : Nat} {M : Mem} {Kf : List (Nat × Nat)} {L : List (Nat × Value)} {st : List Value} {y : MethodName} {Py : MP} {n ix : Nat} {i : Nat} {As stk : List Value} {Kfc : List (Nat × Nat)} {o : Option (Mem × Option Nat)} {β : Type} {kq : Mem → Option Nat → Option β} {res : β} (hK : ∀ q, o = some q → Kt y Py M Kfc (.ref (V.2.2.1 i) :: As) (RR V.2.2 q)) (hi : i < 7) (hcs : y.cls = "java/lang/String") (w1 : Cond.methodLink own ix y ∈ lw_g) (w2 : Cond.instanceMethod y ∈ lw_g) (w3 : Cond.selects y.cls y y ∈ lw_g) (w4 : Cond.initialized y.cls ∈ lw_g) (w5 : Cond.code y Py.2.1 Py.2.2.1 Py.2.2.2.1 ∈ lw_g) (hd1 : y.cls ≠ "java/lang/invoke/MethodHandle" ∧ y.cls ≠ "java/lang/invoke/VarHandle" ∧ (parseMethodDescriptor y.desc).map (fun d => d.parameters.length) = some n)
    (hroom : Py.2.2.2.2.1 + 1 ≤ fr ∧ 8 + (Py.2.2.1 + 11) + Py.2.2.2.2.2 ≤ lo) (hn : As.length = n) (js : List Nat) (hks : js.filterMap (fun i => Kf[i]?) = Kfc) (hst : stk = As.reverse ++ .ref (V.2.2.1 i) :: st) (hcat : (st.map fun v => v.category).sum ≤ 8) (hd : decode cc pc = .ok (.invokevirtual ix, 3)) (hF : cl o kq = some res) (kk : ∀ M1 r, kq M1 r = some res → T X V (own, cc, nL, rt, fr, lo) M1 Kf L (va_rf r :: st) (pc + 3)) : T X V (own, cc, nL, rt, fr, lo) M Kf L stk pc := by
  obtain ⟨M1, r, e, hF⟩ := cl_e hF
  exact r_callVS0 (hK _ e) hi hcs w1 w2 w3 w4 w5 hd1 hroom hn js hks hst hcat hd (kk M1 r hF)
theorem r_callVS_V {X : Option Cx} {V : Option Value × Mem × EG} {own : String} {cc : ByteArray} {nL : Nat} {rt : Option FieldType} {fr lo : Nat} {pc : Nat} {M : Mem} {Kf : List (Nat × Nat)} {L : List (Nat × Value)} {st : List Value} {y : MethodName} {Py : MP} {n ix : Nat} {i : Nat} {As stk : List Value} {Kfc : List (Nat × Nat)} {o : Option (Mem × Unit)} {β : Type} {kq : Mem → Unit → Option β} {res : β} (hK : ∀ q, o = some q → Kt y Py M Kfc (.ref (V.2.2.1 i) :: As) (RV V.2.2 q)) (hi : i < 7) (hcs : y.cls = "java/lang/String") (w1 : Cond.methodLink own ix y ∈ lw_g) (w2 : Cond.instanceMethod y ∈ lw_g) (w3 : Cond.selects y.cls y y ∈ lw_g) (w4 : Cond.initialized y.cls ∈ lw_g) (w5 : Cond.code y Py.2.1 Py.2.2.1 Py.2.2.2.1 ∈ lw_g) (hd1 : y.cls ≠ "java/lang/invoke/MethodHandle" ∧ y.cls ≠ "java/lang/invoke/VarHandle" ∧ (parseMethodDescriptor y.desc).map (fun d => d.parameters.length) = some n)
    (hroom : Py.2.2.2.2.1 + 1 ≤ fr ∧ 8 + (Py.2.2.1 + 11) + Py.2.2.2.2.2 ≤ lo) (hn : As.length = n) (js : List Nat) (hks : js.filterMap (fun i => Kf[i]?) = Kfc) (hst : stk = As.reverse ++ .ref (V.2.2.1 i) :: st) (hcat : (st.map fun v => v.category).sum ≤ 8) (hd : decode cc pc = .ok (.invokevirtual ix, 3)) (hF : cl o kq = some res) (kk : ∀ M1 r, kq M1 r = some res → T X V (own, cc, nL, rt, fr, lo) M1 Kf L st (pc + 3)) : T X V (own, cc, nL, rt, fr, lo) M Kf L stk pc := by
  obtain ⟨M1, r, e, hF⟩ := cl_e hF
  exact r_callVS0 (hK _ e) hi hcs w1 w2 w3 w4 w5 hd1 hroom hn js hks hst hcat hd (kk M1 r hF)
theorem r_callV0 {X : Option Cx} {V : Option Value × Mem × EG} {own : String} {cc : ByteArray} {nL : Nat} {rt : Option FieldType} {fr lo : Nat} {pc : Nat} {M : Mem} {Kf : List (Nat × Nat)} {L : List (Nat × Value)} {st : List Value} {y : MethodName} {Py : MP} {n ix : Nat} {a : Nat} {As stk : List Value} {Kfc : List (Nat × Nat)} {vc : Option Value} {M1 : Mem} (hK : Kt y Py M Kfc (.ref a :: As) (vc, M1, V.2.2)) {c N j0 : Nat} {Tb : u_T} (hc : vwCl[c]? = some (y.cls, Tb, N)) (hc14 : c < 14) (hj0 : Kf[j0]? = some (a, c + 1)) (w1 : Cond.methodLink own ix y ∈ lw_g) (w2 : Cond.instanceMethod y ∈ lw_g) (w3 : Cond.selects y.cls y y ∈ lw_g) (w4 : Cond.initialized y.cls ∈ lw_g) (w5 : Cond.code y Py.2.1 Py.2.2.1 Py.2.2.2.1 ∈ lw_g) (hd1 : y.cls ≠ "java/lang/invoke/MethodHandle" ∧ y.cls ≠ "java/lang/invoke/VarHandle" ∧ (parseMethodDescriptor y.desc).map (fun d => d.parameters.length) = some n)
    (hroom : Py.2.2.2.2.1 + 1 ≤ fr ∧ 8 + (Py.2.2.1 + 11) + Py.2.2.2.2.2 ≤ lo) (hn : As.length = n) (js : List Nat) (hks : js.filterMap (fun i => Kf[i]?) = Kfc) (hst : stk = As.reverse ++ .ref a :: st) (hcat : (st.map fun v => v.category).sum ≤ 8) (hd : decode cc pc = .ok (.invokevirtual ix, 3)) (kk : T X V (own, cc, nL, rt, fr, lo) M1 Kf L (vc.toList ++ st) (pc + 3)) : T X V (own, cc, nL, rt, fr, lo) M Kf L stk pc := by
  have h1 := hK.1
  have h2 := kk.1
  dsimp only at h1
  refine ⟨⟨Nat.le_trans h1.1 h2.1, Nat.le_trans h1.2 h2.2⟩, fun x hX Z => ?_⟩
  have kk := kk.2 x hX Z
  obtain ⟨p, l, e0, R, s, m, args, below, meth, c0, D, ac, M0⟩ := x
  obtain ⟨hx, hb, hr, hml, hown, hts, hKW, hEV, hlk, hR, hgE⟩ := Z
  intro hle hf H locs ls hP hS hl
  have l1 := hle.1
  have l2 := hle.2.1
  subst hR
  have hkc : ∀ q ∈ Kfc, gK M q.1 = q.2 ∧ q.2 ≠ 0 := fun q hq => by
    subst hks
    obtain ⟨i, -, hi⟩ := List.mem_filterMap.mp hq
    exact hf q (List.mem_of_getElem? hi)
  refine g_call (M1 := M1) (v := vc) (mc := gH M1 - gH M) (ms := gS M1 - gS M) (rest := st) (va_runV (As := As) (rest := st) ⟨hx, hb, hml, hown, hts⟩ (hK.2 l D ac) (cwV n hts (C := y.cls) (wsV_good w1 w2 w3 w4 w5) rfl rfl rfl ⟨rfl, hd1⟩ hroom) ⟨PcG.blind, hP.cell hKW hc hc14 (hf _ (List.mem_of_getElem? hj0)).1, fun U hU hW => PcG.ready hP hKW hEV hS hle hgE hkc hU hW⟩ rfl hn hl.1 hst (lv_room hcat) hd ⟨?_, ?_⟩) hS hle.2.2.1 fun H1 locs1 q1 q2 q3 => ?_
  · show gH M - gH M0 + (gH M1 - gH M) ≤ gH V.2.1 - gH M0
    have := h2.1
    omega
  · show gS M - gS M0 + (gS M1 - gS M) ≤ gS V.2.1 - gS M0
    have := h2.2
    omega
  · have r := kk (hle.tr q1) (fun q hq => ⟨by rw [q1.2.2.2.1 q.1 (by rw [(hf q hq).1]; exact (hf q hq).2)]; exact (hf q hq).1, (hf q hq).2⟩) H1 locs1 ls q2 q3 hl
    have e1 : gH M1 - gH M0 = gH M - gH M0 + (gH M1 - gH M) := by have := h1.1; omega
    have e2 : gS M1 - gS M0 = gS M - gS M0 + (gS M1 - gS M) := by have := h1.2; omega
    rw [e1, e2] at r
    exact r
theorem r_callV_I {X : Option Cx} {V : Option Value × Mem × EG} {own : String} {cc : ByteArray} {nL : Nat} {rt : Option FieldType} {fr lo : Nat} {pc : Nat} {M : Mem} {Kf : List (Nat × Nat)} {L : List (Nat × Value)} {st : List Value} {y : MethodName} {Py : MP} {n ix : Nat} {a : Nat} {As stk : List Value} {Kfc : List (Nat × Nat)} {o : Option (Mem × Int32)} {β : Type} {kq : Mem → Int32 → Option β} {res : β} (hK : ∀ q, o = some q → Kt y Py M Kfc (.ref a :: As) (RI V.2.2 q)) {c N j0 : Nat} {Tb : u_T} (hc : vwCl[c]? = some (y.cls, Tb, N)) (hc14 : c < 14) (hj0 : Kf[j0]? = some (a, c + 1)) (w1 : Cond.methodLink own ix y ∈ lw_g) (w2 : Cond.instanceMethod y ∈ lw_g) (w3 : Cond.selects y.cls y y ∈ lw_g) (w4 : Cond.initialized y.cls ∈ lw_g) (w5 : Cond.code y Py.2.1 Py.2.2.1 Py.2.2.2.1 ∈ lw_g) (hd1 : y.cls ≠ "java/lang/invoke/MethodHandle" ∧ y.cls ≠ "java/lang/invoke/VarHandle" ∧ (parseMethodDescriptor y.desc).map (fun d => d.parameters.length) = some n)
    (hroom : Py.2.2.2.2.1 + 1 ≤ fr ∧ 8 + (Py.2.2.1 + 11) + Py.2.2.2.2.2 ≤ lo) (hn : As.length = n) (js : List Nat) (hks : js.filterMap (fun i => Kf[i]?) = Kfc) (hst : stk = As.reverse ++ .ref a :: st) (hcat : (st.map fun v => v.category).sum ≤ 8) (hd : decode cc pc = .ok (.invokevirtual ix, 3)) (hF : cl o kq = some res) (kk : ∀ M1 r, kq M1 r = some res → T X V (own, cc, nL, rt, fr, lo) M1 Kf L (.int r :: st) (pc + 3)) : T X V (own, cc, nL, rt, fr, lo) M Kf L stk pc := by
  obtain ⟨M1, r, e, hF⟩ := cl_e hF
  exact r_callV0 (hK _ e) hc hc14 hj0 w1 w2 w3 w4 w5 hd1 hroom hn js hks hst hcat hd (kk M1 r hF)
theorem r_callV_J {X : Option Cx} {V : Option Value × Mem × EG} {own : String} {cc : ByteArray} {nL : Nat} {rt : Option FieldType} {fr lo : Nat} {pc : Nat} {M : Mem} {Kf : List (Nat × Nat)} {L : List (Nat × Value)} {st : List Value} {y : MethodName} {Py : MP} {n ix : Nat} {a : Nat} {As stk : List Value} {Kfc : List (Nat × Nat)} {o : Option (Mem × Int64)} {β : Type} {kq : Mem → Int64 → Option β} {res : β} (hK : ∀ q, o = some q → Kt y Py M Kfc (.ref a :: As) (RJ V.2.2 q)) {c N j0 : Nat} {Tb : u_T} (hc : vwCl[c]? = some (y.cls, Tb, N)) (hc14 : c < 14) (hj0 : Kf[j0]? = some (a, c + 1)) (w1 : Cond.methodLink own ix y ∈ lw_g) (w2 : Cond.instanceMethod y ∈ lw_g) (w3 : Cond.selects y.cls y y ∈ lw_g) (w4 : Cond.initialized y.cls ∈ lw_g) (w5 : Cond.code y Py.2.1 Py.2.2.1 Py.2.2.2.1 ∈ lw_g) (hd1 : y.cls ≠ "java/lang/invoke/MethodHandle" ∧ y.cls ≠ "java/lang/invoke/VarHandle" ∧ (parseMethodDescriptor y.desc).map (fun d => d.parameters.length) = some n)
    (hroom : Py.2.2.2.2.1 + 1 ≤ fr ∧ 8 + (Py.2.2.1 + 11) + Py.2.2.2.2.2 ≤ lo) (hn : As.length = n) (js : List Nat) (hks : js.filterMap (fun i => Kf[i]?) = Kfc) (hst : stk = As.reverse ++ .ref a :: st) (hcat : (st.map fun v => v.category).sum ≤ 8) (hd : decode cc pc = .ok (.invokevirtual ix, 3)) (hF : cl o kq = some res) (kk : ∀ M1 r, kq M1 r = some res → T X V (own, cc, nL, rt, fr, lo) M1 Kf L (.long r :: st) (pc + 3)) : T X V (own, cc, nL, rt, fr, lo) M Kf L stk pc := by
  obtain ⟨M1, r, e, hF⟩ := cl_e hF
  exact r_callV0 (hK _ e) hc hc14 hj0 w1 w2 w3 w4 w5 hd1 hroom hn js hks hst hcat hd (kk M1 r hF)
theorem r_callV_R {X : Option Cx} {V : Option Value × Mem × EG} {own : String} {cc : ByteArray} {nL : Nat} {rt : Option FieldType} {fr lo : Nat} {pc : Nat} {M : Mem} {Kf : List (Nat × Nat)} {L : List (Nat × Value)} {st : List Value} {y : MethodName} {Py : MP} {n ix : Nat} {a : Nat} {As stk : List Value} {Kfc : List (Nat × Nat)} {o : Option (Mem × Option Nat)} {β : Type} {kq : Mem → Option Nat → Option β} {res : β} (hK : ∀ q, o = some q → Kt y Py M Kfc (.ref a :: As) (RR V.2.2 q)) {c N j0 : Nat} {Tb : u_T} (hc : vwCl[c]? = some (y.cls, Tb, N)) (hc14 : c < 14) (hj0 : Kf[j0]? = some (a, c + 1)) (w1 : Cond.methodLink own ix y ∈ lw_g) (w2 : Cond.instanceMethod y ∈ lw_g) (w3 : Cond.selects y.cls y y ∈ lw_g) (w4 : Cond.initialized y.cls ∈ lw_g) (w5 : Cond.code y Py.2.1 Py.2.2.1 Py.2.2.2.1 ∈ lw_g) (hd1 : y.cls ≠ "java/lang/invoke/MethodHandle" ∧ y.cls ≠ "java/lang/invoke/VarHandle" ∧ (parseMethodDescriptor y.desc).map (fun d => d.parameters.length) = some n)
    (hroom : Py.2.2.2.2.1 + 1 ≤ fr ∧ 8 + (Py.2.2.1 + 11) + Py.2.2.2.2.2 ≤ lo) (hn : As.length = n) (js : List Nat) (hks : js.filterMap (fun i => Kf[i]?) = Kfc) (hst : stk = As.reverse ++ .ref a :: st) (hcat : (st.map fun v => v.category).sum ≤ 8) (hd : decode cc pc = .ok (.invokevirtual ix, 3)) (hF : cl o kq = some res) (kk : ∀ M1 r, kq M1 r = some res → T X V (own, cc, nL, rt, fr, lo) M1 Kf L (va_rf r :: st) (pc + 3)) : T X V (own, cc, nL, rt, fr, lo) M Kf L stk pc := by
  obtain ⟨M1, r, e, hF⟩ := cl_e hF
  exact r_callV0 (hK _ e) hc hc14 hj0 w1 w2 w3 w4 w5 hd1 hroom hn js hks hst hcat hd (kk M1 r hF)
theorem r_callV_V {X : Option Cx} {V : Option Value × Mem × EG} {own : String} {cc : ByteArray} {nL : Nat} {rt : Option FieldType} {fr lo : Nat} {pc : Nat} {M : Mem} {Kf : List (Nat × Nat)} {L : List (Nat × Value)} {st : List Value} {y : MethodName} {Py : MP} {n ix : Nat} {a : Nat} {As stk : List Value} {Kfc : List (Nat × Nat)} {o : Option (Mem × Unit)} {β : Type} {kq : Mem → Unit → Option β} {res : β} (hK : ∀ q, o = some q → Kt y Py M Kfc (.ref a :: As) (RV V.2.2 q)) {c N j0 : Nat} {Tb : u_T} (hc : vwCl[c]? = some (y.cls, Tb, N)) (hc14 : c < 14) (hj0 : Kf[j0]? = some (a, c + 1)) (w1 : Cond.methodLink own ix y ∈ lw_g) (w2 : Cond.instanceMethod y ∈ lw_g) (w3 : Cond.selects y.cls y y ∈ lw_g) (w4 : Cond.initialized y.cls ∈ lw_g) (w5 : Cond.code y Py.2.1 Py.2.2.1 Py.2.2.2.1 ∈ lw_g) (hd1 : y.cls ≠ "java/lang/invoke/MethodHandle" ∧ y.cls ≠ "java/lang/invoke/VarHandle" ∧ (parseMethodDescriptor y.desc).map (fun d => d.parameters.length) = some n)
    (hroom : Py.2.2.2.2.1 + 1 ≤ fr ∧ 8 + (Py.2.2.1 + 11) + Py.2.2.2.2.2 ≤ lo) (hn : As.length = n) (js : List Nat) (hks : js.filterMap (fun i => Kf[i]?) = Kfc) (hst : stk = As.reverse ++ .ref a :: st) (hcat : (st.map fun v => v.category).sum ≤ 8) (hd : decode cc pc = .ok (.invokevirtual ix, 3)) (hF : cl o kq = some res) (kk : ∀ M1 r, kq M1 r = some res → T X V (own, cc, nL, rt, fr, lo) M1 Kf L st (pc + 3)) : T X V (own, cc, nL, rt, fr, lo) M Kf L stk pc := by
  obtain ⟨M1, r, e, hF⟩ := cl_e hF
  exact r_callV0 (hK _ e) hc hc14 hj0 w1 w2 w3 w4 w5 hd1 hroom hn js hks hst hcat hd (kk M1 r hF)
theorem r_callS0 {X : Option Cx} {V : Option Value × Mem × EG} {own : String} {cc : ByteArray} {nL : Nat} {rt : Option FieldType} {fr lo : Nat} {pc : Nat} {M : Mem} {Kf : List (Nat × Nat)} {L : List (Nat × Value)} {st : List Value} {y : MethodName} {Py : MP} {n ix : Nat} {As stk : List Value} {Kfc : List (Nat × Nat)} {vc : Option Value} {M1 : Mem} (hK : Kt y Py M Kfc As (vc, M1, V.2.2)) (w1 : Cond.methodLink own ix y ∈ lw_g) (w2 : Cond.static y ∈ lw_g) (w4 : Cond.initialized y.cls ∈ lw_g) (w5 : Cond.code y Py.2.1 Py.2.2.1 Py.2.2.2.1 ∈ lw_g) (hd1 : y.cls ≠ "java/lang/invoke/MethodHandle" ∧ y.cls ≠ "java/lang/invoke/VarHandle" ∧ (parseMethodDescriptor y.desc).map (fun d => d.parameters.length) = some n)
    (hroom : Py.2.2.2.2.1 + 1 ≤ fr ∧ 8 + (Py.2.2.1 + 11) + Py.2.2.2.2.2 ≤ lo) (hn : As.length = n) (js : List Nat) (hks : js.filterMap (fun i => Kf[i]?) = Kfc) (hst : stk = As.reverse ++ st) (hcat : (st.map fun v => v.category).sum ≤ 8) (hd : decode cc pc = .ok (.invokestatic ix, 3)) (kk : T X V (own, cc, nL, rt, fr, lo) M1 Kf L (vc.toList ++ st) (pc + 3)) : T X V (own, cc, nL, rt, fr, lo) M Kf L stk pc := by
  have h1 := hK.1
  have h2 := kk.1
  dsimp only at h1
  refine ⟨⟨Nat.le_trans h1.1 h2.1, Nat.le_trans h1.2 h2.2⟩, fun x hX Z => ?_⟩
  have kk := kk.2 x hX Z
  obtain ⟨p, l, e0, R, s, m, args, below, meth, c0, D, ac, M0⟩ := x
  obtain ⟨hx, hb, hr, hml, hown, hts, hKW, hEV, hlk, hR, hgE⟩ := Z
  intro hle hf H locs ls hP hS hl
  have l1 := hle.1
  have l2 := hle.2.1
  subst hR
  have hkc : ∀ q ∈ Kfc, gK M q.1 = q.2 ∧ q.2 ≠ 0 := fun q hq => by
    subst hks
    obtain ⟨i, -, hi⟩ := List.mem_filterMap.mp hq
    exact hf q (List.mem_of_getElem? hi)
  refine g_call (M1 := M1) (v := vc) (mc := gH M1 - gH M) (ms := gS M1 - gS M) (rest := st) (va_runS (As := As) (rest := st) ⟨hx, hb, hml, hown, hts⟩ (hK.2 l D ac) (⟨callB_of n hts (lw_g_good w5) rfl rfl rfl (hts _ w4) (hts _ w1) hd1 hroom, hts _ w2⟩) ⟨PcG.blind, fun U hU hW => PcG.ready hP hKW hEV hS hle hgE hkc hU hW⟩ rfl hn hl.1 hst (lv_room hcat) hd ⟨?_, ?_⟩) hS hle.2.2.1 fun H1 locs1 q1 q2 q3 => ?_
  · show gH M - gH M0 + (gH M1 - gH M) ≤ gH V.2.1 - gH M0
    have := h2.1
    omega
  · show gS M - gS M0 + (gS M1 - gS M) ≤ gS V.2.1 - gS M0
    have := h2.2
    omega
  · have r := kk (hle.tr q1) (fun q hq => ⟨by rw [q1.2.2.2.1 q.1 (by rw [(hf q hq).1]; exact (hf q hq).2)]; exact (hf q hq).1, (hf q hq).2⟩) H1 locs1 ls q2 q3 hl
    have e1 : gH M1 - gH M0 = gH M - gH M0 + (gH M1 - gH M) := by have := h1.1; omega
    have e2 : gS M1 - gS M0 = gS M - gS M0 + (gS M1 - gS M) := by have := h1.2; omega
    rw [e1, e2] at r
    exact r
theorem r_callS_I {X : Option Cx} {V : Option Value × Mem × EG} {own : String} {cc : ByteArray} {nL : Nat} {rt : Option FieldType} {fr lo : Nat} {pc : Nat} {M : Mem} {Kf : List (Nat × Nat)} {L : List (Nat × Value)} {st : List Value} {y : MethodName} {Py : MP} {n ix : Nat} {As stk : List Value} {Kfc : List (Nat × Nat)} {o : Option (Mem × Int32)} {β : Type} {kq : Mem → Int32 → Option β} {res : β} (hK : ∀ q, o = some q → Kt y Py M Kfc As (RI V.2.2 q)) (w1 : Cond.methodLink own ix y ∈ lw_g) (w2 : Cond.static y ∈ lw_g) (w4 : Cond.initialized y.cls ∈ lw_g) (w5 : Cond.code y Py.2.1 Py.2.2.1 Py.2.2.2.1 ∈ lw_g) (hd1 : y.cls ≠ "java/lang/invoke/MethodHandle" ∧ y.cls ≠ "java/lang/invoke/VarHandle" ∧ (parseMethodDescriptor y.desc).map (fun d => d.parameters.length) = some n)
    (hroom : Py.2.2.2.2.1 + 1 ≤ fr ∧ 8 + (Py.2.2.1 + 11) + Py.2.2.2.2.2 ≤ lo) (hn : As.length = n) (js : List Nat) (hks : js.filterMap (fun i => Kf[i]?) = Kfc) (hst : stk = As.reverse ++ st) (hcat : (st.map fun v => v.category).sum ≤ 8) (hd : decode cc pc = .ok (.invokestatic ix, 3)) (hF : cl o kq = some res) (kk : ∀ M1 r, kq M1 r = some res → T X V (own, cc, nL, rt, fr, lo) M1 Kf L (.int r :: st) (pc + 3)) : T X V (own, cc, nL, rt, fr, lo) M Kf L stk pc := by
  obtain ⟨M1, r, e, hF⟩ := cl_e hF
  exact r_callS0 (hK _ e) w1 w2 w4 w5 hd1 hroom hn js hks hst hcat hd (kk M1 r hF)
theorem r_callS_J {X : Option Cx} {V : Option Value × Mem × EG} {own : String} {cc : ByteArray} {nL : Nat} {rt : Option FieldType} {fr lo : Nat} {pc : Nat} {M : Mem} {Kf : List (Nat × Nat)} {L : List (Nat × Value)} {st : List Value} {y : MethodName} {Py : MP} {n ix : Nat} {As stk : List Value} {Kfc : List (Nat × Nat)} {o : Option (Mem × Int64)} {β : Type} {kq : Mem → Int64 → Option β} {res : β} (hK : ∀ q, o = some q → Kt y Py M Kfc As (RJ V.2.2 q)) (w1 : Cond.methodLink own ix y ∈ lw_g) (w2 : Cond.static y ∈ lw_g) (w4 : Cond.initialized y.cls ∈ lw_g) (w5 : Cond.code y Py.2.1 Py.2.2.1 Py.2.2.2.1 ∈ lw_g) (hd1 : y.cls ≠ "java/lang/invoke/MethodHandle" ∧ y.cls ≠ "java/lang/invoke/VarHandle" ∧ (parseMethodDescriptor y.desc).map (fun d => d.parameters.length) = some n)
    (hroom : Py.2.2.2.2.1 + 1 ≤ fr ∧ 8 + (Py.2.2.1 + 11) + Py.2.2.2.2.2 ≤ lo) (hn : As.length = n) (js : List Nat) (hks : js.filterMap (fun i => Kf[i]?) = Kfc) (hst : stk = As.reverse ++ st) (hcat : (st.map fun v => v.category).sum ≤ 8) (hd : decode cc pc = .ok (.invokestatic ix, 3)) (hF : cl o kq = some res) (kk : ∀ M1 r, kq M1 r = some res → T X V (own, cc, nL, rt, fr, lo) M1 Kf L (.long r :: st) (pc + 3)) : T X V (own, cc, nL, rt, fr, lo) M Kf L stk pc := by
  obtain ⟨M1, r, e, hF⟩ := cl_e hF
  exact r_callS0 (hK _ e) w1 w2 w4 w5 hd1 hroom hn js hks hst hcat hd (kk M1 r hF)
theorem r_callS_R {X : Option Cx} {V : Option Value × Mem × EG} {own : String} {cc : ByteArray} {nL : Nat} {rt : Option FieldType} {fr lo : Nat} {pc : Nat} {M : Mem} {Kf : List (Nat × Nat)} {L : List (Nat × Value)} {st : List Value} {y : MethodName} {Py : MP} {n ix : Nat} {As stk : List Value} {Kfc : List (Nat × Nat)} {o : Option (Mem × Option Nat)} {β : Type} {kq : Mem → Option Nat → Option β} {res : β} (hK : ∀ q, o = some q → Kt y Py M Kfc As (RR V.2.2 q)) (w1 : Cond.methodLink own ix y ∈ lw_g) (w2 : Cond.static y ∈ lw_g) (w4 : Cond.initialized y.cls ∈ lw_g) (w5 : Cond.code y Py.2.1 Py.2.2.1 Py.2.2.2.1 ∈ lw_g) (hd1 : y.cls ≠ "java/lang/invoke/MethodHandle" ∧ y.cls ≠ "java/lang/invoke/VarHandle" ∧ (parseMethodDescriptor y.desc).map (fun d => d.parameters.length) = some n)
    (hroom : Py.2.2.2.2.1 + 1 ≤ fr ∧ 8 + (Py.2.2.1 + 11) + Py.2.2.2.2.2 ≤ lo) (hn : As.length = n) (js : List Nat) (hks : js.filterMap (fun i => Kf[i]?) = Kfc) (hst : stk = As.reverse ++ st) (hcat : (st.map fun v => v.category).sum ≤ 8) (hd : decode cc pc = .ok (.invokestatic ix, 3)) (hF : cl o kq = some res) (kk : ∀ M1 r, kq M1 r = some res → T X V (own, cc, nL, rt, fr, lo) M1 Kf L (va_rf r :: st) (pc + 3)) : T X V (own, cc, nL, rt, fr, lo) M Kf L stk pc := by
  obtain ⟨M1, r, e, hF⟩ := cl_e hF
  exact r_callS0 (hK _ e) w1 w2 w4 w5 hd1 hroom hn js hks hst hcat hd (kk M1 r hF)
theorem r_callS_V {X : Option Cx} {V : Option Value × Mem × EG} {own : String} {cc : ByteArray} {nL : Nat} {rt : Option FieldType} {fr lo : Nat} {pc : Nat} {M : Mem} {Kf : List (Nat × Nat)} {L : List (Nat × Value)} {st : List Value} {y : MethodName} {Py : MP} {n ix : Nat} {As stk : List Value} {Kfc : List (Nat × Nat)} {o : Option (Mem × Unit)} {β : Type} {kq : Mem → Unit → Option β} {res : β} (hK : ∀ q, o = some q → Kt y Py M Kfc As (RV V.2.2 q)) (w1 : Cond.methodLink own ix y ∈ lw_g) (w2 : Cond.static y ∈ lw_g) (w4 : Cond.initialized y.cls ∈ lw_g) (w5 : Cond.code y Py.2.1 Py.2.2.1 Py.2.2.2.1 ∈ lw_g) (hd1 : y.cls ≠ "java/lang/invoke/MethodHandle" ∧ y.cls ≠ "java/lang/invoke/VarHandle" ∧ (parseMethodDescriptor y.desc).map (fun d => d.parameters.length) = some n)
    (hroom : Py.2.2.2.2.1 + 1 ≤ fr ∧ 8 + (Py.2.2.1 + 11) + Py.2.2.2.2.2 ≤ lo) (hn : As.length = n) (js : List Nat) (hks : js.filterMap (fun i => Kf[i]?) = Kfc) (hst : stk = As.reverse ++ st) (hcat : (st.map fun v => v.category).sum ≤ 8) (hd : decode cc pc = .ok (.invokestatic ix, 3)) (hF : cl o kq = some res) (kk : ∀ M1 r, kq M1 r = some res → T X V (own, cc, nL, rt, fr, lo) M1 Kf L st (pc + 3)) : T X V (own, cc, nL, rt, fr, lo) M Kf L stk pc := by
  obtain ⟨M1, r, e, hF⟩ := cl_e hF
  exact r_callS0 (hK _ e) w1 w2 w4 w5 hd1 hroom hn js hks hst hcat hd (kk M1 r hF)
theorem r_callI0 {X : Option Cx} {V : Option Value × Mem × EG} {own : String} {cc : ByteArray} {nL : Nat} {rt : Option FieldType} {fr lo : Nat} {pc : Nat} {M : Mem} {Kf : List (Nat × Nat)} {L : List (Nat × Value)} {st : List Value} {y : MethodName} {Py : MP} {n ix : Nat} {a : Nat} {As stk : List Value} {Kfc : List (Nat × Nat)} {vc : Option Value} {M1 : Mem} (hK : Kt y Py M Kfc (.ref a :: As) (vc, M1, V.2.2)) (w1 : Cond.methodLink own ix y ∈ lw_g) (w2 : Cond.instanceMethod y ∈ lw_g) (w4 : Cond.initialized y.cls ∈ lw_g) (w5 : Cond.code y Py.2.1 Py.2.2.1 none ∈ lw_g) (hP4 : Py.2.2.2.1 = none) (hin : y.name = "<init>") (hd1 : y.cls ≠ "java/lang/invoke/MethodHandle" ∧ y.cls ≠ "java/lang/invoke/VarHandle" ∧ (parseMethodDescriptor y.desc).map (fun d => d.parameters.length) = some n)
    (hroom : Py.2.2.2.2.1 + 1 ≤ fr ∧ 8 + (Py.2.2.1 + 11) + Py.2.2.2.2.2 ≤ lo) (hn : As.length = n) (js : List Nat) (hks : js.filterMap (fun i => Kf[i]?) = Kfc) (hst : stk = As.reverse ++ .ref a :: st) (hcat : (st.map fun v => v.category).sum ≤ 8) (hd : decode cc pc = .ok (.invokespecial ix, 3)) (kk : T X V (own, cc, nL, rt, fr, lo) M1 Kf L (vc.toList ++ st) (pc + 3)) : T X V (own, cc, nL, rt, fr, lo) M Kf L stk pc := by
  have h1 := hK.1
  have h2 := kk.1
  dsimp only at h1
  refine ⟨⟨Nat.le_trans h1.1 h2.1, Nat.le_trans h1.2 h2.2⟩, fun x hX Z => ?_⟩
  have kk := kk.2 x hX Z
  obtain ⟨p, l, e0, R, s, m, args, below, meth, c0, D, ac, M0⟩ := x
  obtain ⟨hx, hb, hr, hml, hown, hts, hKW, hEV, hlk, hR, hgE⟩ := Z
  intro hle hf H locs ls hP hS hl
  have l1 := hle.1
  have l2 := hle.2.1
  subst hR
  have hkc : ∀ q ∈ Kfc, gK M q.1 = q.2 ∧ q.2 ≠ 0 := fun q hq => by
    subst hks
    obtain ⟨i, -, hi⟩ := List.mem_filterMap.mp hq
    exact hf q (List.mem_of_getElem? hi)
  refine g_call (M1 := M1) (v := vc) (mc := gH M1 - gH M) (ms := gS M1 - gS M) (rest := st) (va_runI (As := As) (rest := st) ⟨hx, hb, hml, hown, hts⟩ (by have h9 := hK.2 l D ac; rw [hP4] at h9; exact h9) (cwI n hts (lw_g_good w5) rfl rfl rfl (hts _ w4) (hts _ w1) (hts _ w2) hin hd1 hroom) ⟨PcG.blind, fun U hU hW => PcG.ready hP hKW hEV hS hle hgE hkc hU hW⟩ rfl hn hl.1 hst (lv_room hcat) hd ⟨?_, ?_⟩) hS hle.2.2.1 fun H1 locs1 q1 q2 q3 => ?_
  · show gH M - gH M0 + (gH M1 - gH M) ≤ gH V.2.1 - gH M0
    have := h2.1
    omega
  · show gS M - gS M0 + (gS M1 - gS M) ≤ gS V.2.1 - gS M0
    have := h2.2
    omega
  · have r := kk (hle.tr q1) (fun q hq => ⟨by rw [q1.2.2.2.1 q.1 (by rw [(hf q hq).1]; exact (hf q hq).2)]; exact (hf q hq).1, (hf q hq).2⟩) H1 locs1 ls q2 q3 hl
    have e1 : gH M1 - gH M0 = gH M - gH M0 + (gH M1 - gH M) := by have := h1.1; omega
    have e2 : gS M1 - gS M0 = gS M - gS M0 + (gS M1 - gS M) := by have := h1.2; omega
    rw [e1, e2] at r
    exact r
theorem r_callI_V {X : Option Cx} {V : Option Value × Mem × EG} {own : String} {cc : ByteArray} {nL : Nat} {rt : Option FieldType} {fr lo : Nat} {pc : Nat} {M : Mem} {Kf : List (Nat × Nat)} {L : List (Nat × Value)} {st : List Value} {y : MethodName} {Py : MP} {n ix : Nat} {a : Nat} {As stk : List Value} {Kfc : List (Nat × Nat)} {o : Option (Mem × Unit)} {β : Type} {kq : Mem → Unit → Option β} {res : β} (hK : ∀ q, o = some q → Kt y Py M Kfc (.ref a :: As) (RV V.2.2 q)) (w1 : Cond.methodLink own ix y ∈ lw_g) (w2 : Cond.instanceMethod y ∈ lw_g) (w4 : Cond.initialized y.cls ∈ lw_g) (w5 : Cond.code y Py.2.1 Py.2.2.1 none ∈ lw_g) (hP4 : Py.2.2.2.1 = none) (hin : y.name = "<init>") (hd1 : y.cls ≠ "java/lang/invoke/MethodHandle" ∧ y.cls ≠ "java/lang/invoke/VarHandle" ∧ (parseMethodDescriptor y.desc).map (fun d => d.parameters.length) = some n)
    (hroom : Py.2.2.2.2.1 + 1 ≤ fr ∧ 8 + (Py.2.2.1 + 11) + Py.2.2.2.2.2 ≤ lo) (hn : As.length = n) (js : List Nat) (hks : js.filterMap (fun i => Kf[i]?) = Kfc) (hst : stk = As.reverse ++ .ref a :: st) (hcat : (st.map fun v => v.category).sum ≤ 8) (hd : decode cc pc = .ok (.invokespecial ix, 3)) (hF : cl o kq = some res) (kk : ∀ M1 r, kq M1 r = some res → T X V (own, cc, nL, rt, fr, lo) M1 Kf L st (pc + 3)) : T X V (own, cc, nL, rt, fr, lo) M Kf L stk pc := by
  obtain ⟨M1, r, e, hF⟩ := cl_e hF
  exact r_callI0 (hK _ e) w1 w2 w4 w5 hP4 hin hd1 hroom hn js hks hst hcat hd (kk M1 r hF)
theorem r_callSN0 {X : Option Cx} {V : Option Value × Mem × EG} {own : String} {cc : ByteArray} {nL : Nat} {rt : Option FieldType} {fr lo : Nat} {pc : Nat} {M : Mem} {Kf : List (Nat × Nat)} {L : List (Nat × Value)} {st : List Value} {y : MethodName} {Py : MP} {n ix : Nat} {As stk : List Value} {Kfc : List (Nat × Nat)} {vc : Option Value} {M1 : Mem} (hK : Kt y Py M Kfc As (vc, M1, V.2.2)) {host : String} (w1 : Cond.methodLinkNest own ix y host ∈ lw_x) (w2 : Cond.static y ∈ lw_g) (w4 : Cond.initialized y.cls ∈ lw_g) (w5 : Cond.code y Py.2.1 Py.2.2.1 Py.2.2.2.1 ∈ lw_g) (hd1 : y.cls ≠ "java/lang/invoke/MethodHandle" ∧ y.cls ≠ "java/lang/invoke/VarHandle" ∧ (parseMethodDescriptor y.desc).map (fun d => d.parameters.length) = some n)
    (hroom : Py.2.2.2.2.1 + 1 ≤ fr ∧ 8 + (Py.2.2.1 + 11) + Py.2.2.2.2.2 ≤ lo) (hn : As.length = n) (js : List Nat) (hks : js.filterMap (fun i => Kf[i]?) = Kfc) (hst : stk = As.reverse ++ st) (hcat : (st.map fun v => v.category).sum ≤ 8) (hd : decode cc pc = .ok (.invokestatic ix, 3)) (kk : T X V (own, cc, nL, rt, fr, lo) M1 Kf L (vc.toList ++ st) (pc + 3)) : T X V (own, cc, nL, rt, fr, lo) M Kf L stk pc := by
  have h1 := hK.1
  have h2 := kk.1
  dsimp only at h1
  refine ⟨⟨Nat.le_trans h1.1 h2.1, Nat.le_trans h1.2 h2.2⟩, fun x hX Z => ?_⟩
  have kk := kk.2 x hX Z
  obtain ⟨p, l, e0, R, s, m, args, below, meth, c0, D, ac, M0⟩ := x
  obtain ⟨hx, hb, hr, hml, hown, hts, hKW, hEV, hlk, hR, hgE⟩ := Z
  intro hle hf H locs ls hP hS hl
  have l1 := hle.1
  have l2 := hle.2.1
  subst hR
  have hkc : ∀ q ∈ Kfc, gK M q.1 = q.2 ∧ q.2 ≠ 0 := fun q hq => by
    subst hks
    obtain ⟨i, -, hi⟩ := List.mem_filterMap.mp hq
    exact hf q (List.mem_of_getElem? hi)
  refine g_call (M1 := M1) (v := vc) (mc := gH M1 - gH M) (ms := gS M1 - gS M) (rest := st) (va_runSN (host := host) (As := As) (rest := st) ⟨hx, hb, hml, hown, hts⟩ (hK.2 l D ac) (⟨va_cnB n hts (lw_g_good w5) rfl rfl rfl (hEV.2.2.2.2.2.2.1 _ w1) (hts _ w4) hd1 hroom, hts _ w2, trivial⟩) ⟨PcG.blind, fun U hU hW => PcG.ready hP hKW hEV hS hle hgE hkc hU hW⟩ rfl hn hl.1 hst (lv_room hcat) hd ⟨?_, ?_⟩) hS hle.2.2.1 fun H1 locs1 q1 q2 q3 => ?_
  · show gH M - gH M0 + (gH M1 - gH M) ≤ gH V.2.1 - gH M0
    have := h2.1
    omega
  · show gS M - gS M0 + (gS M1 - gS M) ≤ gS V.2.1 - gS M0
    have := h2.2
    omega
  · have r := kk (hle.tr q1) (fun q hq => ⟨by rw [q1.2.2.2.1 q.1 (by rw [(hf q hq).1]; exact (hf q hq).2)]; exact (hf q hq).1, (hf q hq).2⟩) H1 locs1 ls q2 q3 hl
    have e1 : gH M1 - gH M0 = gH M - gH M0 + (gH M1 - gH M) := by have := h1.1; omega
    have e2 : gS M1 - gS M0 = gS M - gS M0 + (gS M1 - gS M) := by have := h1.2; omega
    rw [e1, e2] at r
    exact r
theorem r_callSN_I {X : Option Cx} {V : Option Value × Mem × EG} {own : String} {cc : ByteArray} {nL : Nat} {rt : Option FieldType} {fr lo : Nat} {pc : Nat} {M : Mem} {Kf : List (Nat × Nat)} {L : List (Nat × Value)} {st : List Value} {y : MethodName} {Py : MP} {n ix : Nat} {As stk : List Value} {Kfc : List (Nat × Nat)} {o : Option (Mem × Int32)} {β : Type} {kq : Mem → Int32 → Option β} {res : β} (hK : ∀ q, o = some q → Kt y Py M Kfc As (RI V.2.2 q)) {host : String} (w1 : Cond.methodLinkNest own ix y host ∈ lw_x) (w2 : Cond.static y ∈ lw_g) (w4 : Cond.initialized y.cls ∈ lw_g) (w5 : Cond.code y Py.2.1 Py.2.2.1 Py.2.2.2.1 ∈ lw_g) (hd1 : y.cls ≠ "java/lang/invoke/MethodHandle" ∧ y.cls ≠ "java/lang/invoke/VarHandle" ∧ (parseMethodDescriptor y.desc).map (fun d => d.parameters.length) = some n)
    (hroom : Py.2.2.2.2.1 + 1 ≤ fr ∧ 8 + (Py.2.2.1 + 11) + Py.2.2.2.2.2 ≤ lo) (hn : As.length = n) (js : List Nat) (hks : js.filterMap (fun i => Kf[i]?) = Kfc) (hst : stk = As.reverse ++ st) (hcat : (st.map fun v => v.category).sum ≤ 8) (hd : decode cc pc = .ok (.invokestatic ix, 3)) (hF : cl o kq = some res) (kk : ∀ M1 r, kq M1 r = some res → T X V (own, cc, nL, rt, fr, lo) M1 Kf L (.int r :: st) (pc + 3)) : T X V (own, cc, nL, rt, fr, lo) M Kf L stk pc := by
  obtain ⟨M1, r, e, hF⟩ := cl_e hF
  exact r_callSN0 (hK _ e) w1 w2 w4 w5 hd1 hroom hn js hks hst hcat hd (kk M1 r hF)
theorem r_callSN_J {X : Option Cx} {V : Option Value × Mem × EG} {own : String} {cc : ByteArray} {nL : Nat} {rt : Option FieldType} {fr lo : Nat} {pc : Nat} {M : Mem} {Kf : List (Nat × Nat)} {L : List (Nat × Value)} {st : List Value} {y : MethodName} {Py : MP} {n ix : Nat} {As stk : List Value} {Kfc : List (Nat × Nat)} {o : Option (Mem × Int64)} {β : Type} {kq : Mem → Int64 → Option β} {res : β} (hK : ∀ q, o = some q → Kt y Py M Kfc As (RJ V.2.2 q)) {host : String} (w1 : Cond.methodLinkNest own ix y host ∈ lw_x) (w2 : Cond.static y ∈ lw_g) (w4 : Cond.initialized y.cls ∈ lw_g) (w5 : Cond.code y Py.2.1 Py.2.2.1 Py.2.2.2.1 ∈ lw_g) (hd1 : y.cls ≠ "java/lang/invoke/MethodHandle" ∧ y.cls ≠ "java/lang/invoke/VarHandle" ∧ (parseMethodDescriptor y.desc).map (fun d => d.parameters.length) = some n)
    (hroom : Py.2.2.2.2.1 + 1 ≤ fr ∧ 8 + (Py.2.2.1 + 11) + Py.2.2.2.2.2 ≤ lo) (hn : As.length = n) (js : List Nat) (hks : js.filterMap (fun i => Kf[i]?) = Kfc) (hst : stk = As.reverse ++ st) (hcat : (st.map fun v => v.category).sum ≤ 8) (hd : decode cc pc = .ok (.invokestatic ix, 3)) (hF : cl o kq = some res) (kk : ∀ M1 r, kq M1 r = some res → T X V (own, cc, nL, rt, fr, lo) M1 Kf L (.long r :: st) (pc + 3)) : T X V (own, cc, nL, rt, fr, lo) M Kf L stk pc := by
  obtain ⟨M1, r, e, hF⟩ := cl_e hF
  exact r_callSN0 (hK _ e) w1 w2 w4 w5 hd1 hroom hn js hks hst hcat hd (kk M1 r hF)
theorem r_callSN_R {X : Option Cx} {V : Option Value × Mem × EG} {own : String} {cc : ByteArray} {nL : Nat} {rt : Option FieldType} {fr lo : Nat} {pc : Nat} {M : Mem} {Kf : List (Nat × Nat)} {L : List (Nat × Value)} {st : List Value} {y : MethodName} {Py : MP} {n ix : Nat} {As stk : List Value} {Kfc : List (Nat × Nat)} {o : Option (Mem × Option Nat)} {β : Type} {kq : Mem → Option Nat → Option β} {res : β} (hK : ∀ q, o = some q → Kt y Py M Kfc As (RR V.2.2 q)) {host : String} (w1 : Cond.methodLinkNest own ix y host ∈ lw_x) (w2 : Cond.static y ∈ lw_g) (w4 : Cond.initialized y.cls ∈ lw_g) (w5 : Cond.code y Py.2.1 Py.2.2.1 Py.2.2.2.1 ∈ lw_g) (hd1 : y.cls ≠ "java/lang/invoke/MethodHandle" ∧ y.cls ≠ "java/lang/invoke/VarHandle" ∧ (parseMethodDescriptor y.desc).map (fun d => d.parameters.length) = some n)
    (hroom : Py.2.2.2.2.1 + 1 ≤ fr ∧ 8 + (Py.2.2.1 + 11) + Py.2.2.2.2.2 ≤ lo) (hn : As.length = n) (js : List Nat) (hks : js.filterMap (fun i => Kf[i]?) = Kfc) (hst : stk = As.reverse ++ st) (hcat : (st.map fun v => v.category).sum ≤ 8) (hd : decode cc pc = .ok (.invokestatic ix, 3)) (hF : cl o kq = some res) (kk : ∀ M1 r, kq M1 r = some res → T X V (own, cc, nL, rt, fr, lo) M1 Kf L (va_rf r :: st) (pc + 3)) : T X V (own, cc, nL, rt, fr, lo) M Kf L stk pc := by
  obtain ⟨M1, r, e, hF⟩ := cl_e hF
  exact r_callSN0 (hK _ e) w1 w2 w4 w5 hd1 hroom hn js hks hst hcat hd (kk M1 r hF)
theorem r_callSN_V {X : Option Cx} {V : Option Value × Mem × EG} {own : String} {cc : ByteArray} {nL : Nat} {rt : Option FieldType} {fr lo : Nat} {pc : Nat} {M : Mem} {Kf : List (Nat × Nat)} {L : List (Nat × Value)} {st : List Value} {y : MethodName} {Py : MP} {n ix : Nat} {As stk : List Value} {Kfc : List (Nat × Nat)} {o : Option (Mem × Unit)} {β : Type} {kq : Mem → Unit → Option β} {res : β} (hK : ∀ q, o = some q → Kt y Py M Kfc As (RV V.2.2 q)) {host : String} (w1 : Cond.methodLinkNest own ix y host ∈ lw_x) (w2 : Cond.static y ∈ lw_g) (w4 : Cond.initialized y.cls ∈ lw_g) (w5 : Cond.code y Py.2.1 Py.2.2.1 Py.2.2.2.1 ∈ lw_g) (hd1 : y.cls ≠ "java/lang/invoke/MethodHandle" ∧ y.cls ≠ "java/lang/invoke/VarHandle" ∧ (parseMethodDescriptor y.desc).map (fun d => d.parameters.length) = some n)
    (hroom : Py.2.2.2.2.1 + 1 ≤ fr ∧ 8 + (Py.2.2.1 + 11) + Py.2.2.2.2.2 ≤ lo) (hn : As.length = n) (js : List Nat) (hks : js.filterMap (fun i => Kf[i]?) = Kfc) (hst : stk = As.reverse ++ st) (hcat : (st.map fun v => v.category).sum ≤ 8) (hd : decode cc pc = .ok (.invokestatic ix, 3)) (hF : cl o kq = some res) (kk : ∀ M1 r, kq M1 r = some res → T X V (own, cc, nL, rt, fr, lo) M1 Kf L st (pc + 3)) : T X V (own, cc, nL, rt, fr, lo) M Kf L stk pc := by
  obtain ⟨M1, r, e, hF⟩ := cl_e hF
  exact r_callSN0 (hK _ e) w1 w2 w4 w5 hd1 hroom hn js hks hst hcat hd (kk M1 r hF)
theorem r_callIN0 {X : Option Cx} {V : Option Value × Mem × EG} {own : String} {cc : ByteArray} {nL : Nat} {rt : Option FieldType} {fr lo : Nat} {pc : Nat} {M : Mem} {Kf : List (Nat × Nat)} {L : List (Nat × Value)} {st : List Value} {y : MethodName} {Py : MP} {n ix : Nat} {a : Nat} {As stk : List Value} {Kfc : List (Nat × Nat)} {vc : Option Value} {M1 : Mem} (hK : Kt y Py M Kfc (.ref a :: As) (vc, M1, V.2.2)) {host : String} (w1 : Cond.methodLinkNest own ix y host ∈ lw_x) (w2 : Cond.instanceMethod y ∈ lw_g) (w4 : Cond.initialized y.cls ∈ lw_g) (w5 : Cond.code y Py.2.1 Py.2.2.1 none ∈ lw_g) (hP4 : Py.2.2.2.1 = none) (hin : y.name = "<init>") (hd1 : y.cls ≠ "java/lang/invoke/MethodHandle" ∧ y.cls ≠ "java/lang/invoke/VarHandle" ∧ (parseMethodDescriptor y.desc).map (fun d => d.parameters.length) = some n)
    (hroom : Py.2.2.2.2.1 + 1 ≤ fr ∧ 8 + (Py.2.2.1 + 11) + Py.2.2.2.2.2 ≤ lo) (hn : As.length = n) (js : List Nat) (hks : js.filterMap (fun i => Kf[i]?) = Kfc) (hst : stk = As.reverse ++ .ref a :: st) (hcat : (st.map fun v => v.category).sum ≤ 8) (hd : decode cc pc = .ok (.invokespecial ix, 3)) (kk : T X V (own, cc, nL, rt, fr, lo) M1 Kf L (vc.toList ++ st) (pc + 3)) : T X V (own, cc, nL, rt, fr, lo) M Kf L stk pc := by
  have h1 := hK.1
  have h2 := kk.1
  dsimp only at h1
  refine ⟨⟨Nat.le_trans h1.1 h2.1, Nat.le_trans h1.2 h2.2⟩, fun x hX Z => ?_⟩
  have kk := kk.2 x hX Z
  obtain ⟨p, l, e0, R, s, m, args, below, meth, c0, D, ac, M0⟩ := x
  obtain ⟨hx, hb, hr, hml, hown, hts, hKW, hEV, hlk, hR, hgE⟩ := Z
  intro hle hf H locs ls hP hS hl
  have l1 := hle.1
  have l2 := hle.2.1
  subst hR
  have hkc : ∀ q ∈ Kfc, gK M q.1 = q.2 ∧ q.2 ≠ 0 := fun q hq => by
    subst hks
    obtain ⟨i, -, hi⟩ := List.mem_filterMap.mp hq
    exact hf q (List.mem_of_getElem? hi)
  refine g_call (M1 := M1) (v := vc) (mc := gH M1 - gH M) (ms := gS M1 - gS M) (rest := st) (va_runIN (host := host) (As := As) (rest := st) ⟨hx, hb, hml, hown, hts⟩ (by have h9 := hK.2 l D ac; rw [hP4] at h9; exact h9) (⟨va_cnB n hts (lw_g_good w5) rfl rfl rfl (hEV.2.2.2.2.2.2.1 _ w1) (hts _ w4) hd1 hroom, hin, hts _ w2⟩) ⟨PcG.blind, fun U hU hW => PcG.ready hP hKW hEV hS hle hgE hkc hU hW⟩ rfl hn hl.1 hst (lv_room hcat) hd ⟨?_, ?_⟩) hS hle.2.2.1 fun H1 locs1 q1 q2 q3 => ?_
  · show gH M - gH M0 + (gH M1 - gH M) ≤ gH V.2.1 - gH M0
    have := h2.1
    omega
  · show gS M - gS M0 + (gS M1 - gS M) ≤ gS V.2.1 - gS M0
    have := h2.2
    omega
  · have r := kk (hle.tr q1) (fun q hq => ⟨by rw [q1.2.2.2.1 q.1 (by rw [(hf q hq).1]; exact (hf q hq).2)]; exact (hf q hq).1, (hf q hq).2⟩) H1 locs1 ls q2 q3 hl
    have e1 : gH M1 - gH M0 = gH M - gH M0 + (gH M1 - gH M) := by have := h1.1; omega
    have e2 : gS M1 - gS M0 = gS M - gS M0 + (gS M1 - gS M) := by have := h1.2; omega
    rw [e1, e2] at r
    exact r
theorem r_callIN_V {X : Option Cx} {V : Option Value × Mem × EG} {own : String} {cc : ByteArray} {nL : Nat} {rt : Option FieldType} {fr lo : Nat} {pc : Nat} {M : Mem} {Kf : List (Nat × Nat)} {L : List (Nat × Value)} {st : List Value} {y : MethodName} {Py : MP} {n ix : Nat} {a : Nat} {As stk : List Value} {Kfc : List (Nat × Nat)} {o : Option (Mem × Unit)} {β : Type} {kq : Mem → Unit → Option β} {res : β} (hK : ∀ q, o = some q → Kt y Py M Kfc (.ref a :: As) (RV V.2.2 q)) {host : String} (w1 : Cond.methodLinkNest own ix y host ∈ lw_x) (w2 : Cond.instanceMethod y ∈ lw_g) (w4 : Cond.initialized y.cls ∈ lw_g) (w5 : Cond.code y Py.2.1 Py.2.2.1 none ∈ lw_g) (hP4 : Py.2.2.2.1 = none) (hin : y.name = "<init>") (hd1 : y.cls ≠ "java/lang/invoke/MethodHandle" ∧ y.cls ≠ "java/lang/invoke/VarHandle" ∧ (parseMethodDescriptor y.desc).map (fun d => d.parameters.length) = some n)
    (hroom : Py.2.2.2.2.1 + 1 ≤ fr ∧ 8 + (Py.2.2.1 + 11) + Py.2.2.2.2.2 ≤ lo) (hn : As.length = n) (js : List Nat) (hks : js.filterMap (fun i => Kf[i]?) = Kfc) (hst : stk = As.reverse ++ .ref a :: st) (hcat : (st.map fun v => v.category).sum ≤ 8) (hd : decode cc pc = .ok (.invokespecial ix, 3)) (hF : cl o kq = some res) (kk : ∀ M1 r, kq M1 r = some res → T X V (own, cc, nL, rt, fr, lo) M1 Kf L st (pc + 3)) : T X V (own, cc, nL, rt, fr, lo) M Kf L stk pc := by
  obtain ⟨M1, r, e, hF⟩ := cl_e hF
  exact r_callIN0 (hK _ e) w1 w2 w4 w5 hP4 hin hd1 hroom hn js hks hst hcat hd (kk M1 r hF)
