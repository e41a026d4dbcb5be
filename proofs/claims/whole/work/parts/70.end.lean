def lw_P (b : Addr) (xs : List Int32) (args : Array Value) (s : State) : Prop := args = #[.ref b] ∧ s.IntsAt b xs ∧ xs.length ≤ 3072 ∧ (Jvm.Cond.and given_1 narrow_1).before args s = true
def lw_At (p : Program) (s : State) (m : MethodId) (meth : Method) (c : Code) (b L : Nat) (xs : Nat → Int32) : Prop :=
  p.tables.exec = Jvm.exec ∧ c.code = code ∧ meth.sig.returnType = ret ∧ c.maxLocals = 4 ∧ s.vm.findClass R_law = some m.cls ∧ (∀ w ∈ lw_tbl, w.before #[Value.ref b] s = true) ∧ va_X b L xs s s.heap ∧ b < s.heap.size ∧ meth.locks = false ∧ (Jvm.Cond.and given_1 narrow_1).before #[Value.ref b] s = true
theorem arrC {ty : FieldType} {args : Array Value} {s : State} (h : (Cond.arrayClass ty).before args s = true) : ∃ c, ArrOfT s c ty ∧ s.vm.findClass ("[" ++ ty.toString) = some c := by
  obtain ⟨c, k, comp, h1, h2, h3⟩ := Cond.arrayClass_spec h
  exact ⟨c, fun N z => ⟨(fun k h => by cases h), k, h2, comp, h3⟩, h1⟩
theorem lt14 : ∀ k, k < 14 → (k = 0 ∨ k = 1 ∨ k = 2 ∨ k = 3 ∨ k = 4 ∨ k = 5 ∨ k = 6 ∨ k = 7 ∨ k = 8 ∨ k = 9 ∨ k = 10 ∨ k = 11 ∨ k = 12 ∨ k = 13) := by decide
theorem lt7 : ∀ k, k < 7 → (k = 0 ∨ k = 1 ∨ k = 2 ∨ k = 3 ∨ k = 4 ∨ k = 5 ∨ k = 6) := by decide
theorem stD {args : Array Value} {s : State} (hts : ∀ w ∈ lw_g, w.before args s = true) : ∃ D : va_G, ∀ (c : Nat) (q : vw_C), vwCl[c]? = some q → u_Kn s q.1 q.2.1 q.2.2 (D.1 c) (D.2 c) := by
  have h : ∀ c : Nat, ∃ z : ClassId × (Nat → Nat), ∀ q : vw_C, vwCl[c]? = some q → u_Kn s q.1 q.2.1 q.2.2 z.1 z.2 := by
    intro c
    by_cases hc : c < 14
    · rcases lt14 c hc with rfl | rfl | rfl | rfl | rfl | rfl | rfl | rfl | rfl | rfl | rfl | rfl | rfl | rfl
      · obtain ⟨a, b, k⟩ := u_known (C := RJx4a65c) (T := TJx4a65c) (N := 3) (n := 3) hts tin_Jx4a65c (hts _ tw_102)
        exact ⟨(a, b), fun q hq => by cases hq; exact k⟩
      · obtain ⟨a, b, k⟩ := u_known (C := RX0) (T := TX0) (N := 11) (n := 11) hts tin_X0 (hts _ tw_472)
        exact ⟨(a, b), fun q hq => by cases hq; exact k⟩
      · obtain ⟨a, b, k⟩ := u_known (C := RX1) (T := TX1) (N := 7) (n := 7) hts tin_X1 (hts _ tw_246)
        exact ⟨(a, b), fun q hq => by cases hq; exact k⟩
      · obtain ⟨a, b, k⟩ := u_known (C := RX2) (T := TX2) (N := 5) (n := 5) hts tin_X2 (hts _ tw_666)
        exact ⟨(a, b), fun q hq => by cases hq; exact k⟩
      · obtain ⟨a, b, k⟩ := u_known (C := RX3) (T := TX3) (N := 3) (n := 3) hts tin_X3 (hts _ tw_1041)
        exact ⟨(a, b), fun q hq => by cases hq; exact k⟩
      · obtain ⟨a, b, k⟩ := u_known (C := RX4) (T := TX4) (N := 5) (n := 5) hts tin_X4 (hts _ tw_479)
        exact ⟨(a, b), fun q hq => by cases hq; exact k⟩
      · obtain ⟨a, b, k⟩ := u_known (C := RX5) (T := TX5) (N := 4) (n := 4) hts tin_X5 (hts _ tw_894)
        exact ⟨(a, b), fun q hq => by cases hq; exact k⟩
      · obtain ⟨a, b, k⟩ := u_known (C := RX6) (T := TX6) (N := 3) (n := 3) hts tin_X6 (hts _ tw_168)
        exact ⟨(a, b), fun q hq => by cases hq; exact k⟩
      · obtain ⟨a, b, k⟩ := u_known (C := RX7) (T := TX7) (N := 3) (n := 3) hts tin_X7 (hts _ tw_151)
        exact ⟨(a, b), fun q hq => by cases hq; exact k⟩
      · obtain ⟨a, b, k⟩ := u_known (C := RX8) (T := TX8) (N := 6) (n := 6) hts tin_X8 (hts _ tw_216)
        exact ⟨(a, b), fun q hq => by cases hq; exact k⟩
      · obtain ⟨a, b, k⟩ := u_known (C := RX9) (T := TX9) (N := 6) (n := 6) hts tin_X9 (hts _ tw_188)
        exact ⟨(a, b), fun q hq => by cases hq; exact k⟩
      · obtain ⟨a, b, k⟩ := u_known (C := RX10) (T := TX10) (N := 4) (n := 4) hts tin_X10 (hts _ tw_96)
        exact ⟨(a, b), fun q hq => by cases hq; exact k⟩
      · obtain ⟨a, b, k⟩ := u_known (C := RX11) (T := TX11) (N := 11) (n := 11) hts tin_X11 (hts _ tw_88)
        exact ⟨(a, b), fun q hq => by cases hq; exact k⟩
      · obtain ⟨a, b, k⟩ := u_known (C := RX12) (T := TX12) (N := 58) (n := 58) hts tin_X12 (hts _ tw_1081)
        exact ⟨(a, b), fun q hq => by cases hq; exact k⟩
    · exact ⟨(0, fun _ => 0), fun q hq => absurd (List.getElem?_eq_some_iff.mp hq).1 hc⟩
  exact ⟨(fun c => (h c).choose.1, fun c => (h c).choose.2), fun c q hq => (h c).choose_spec q hq⟩
theorem stA {args : Array Value} {s : State} (hts : ∀ w ∈ lw_tbl, w.before args s = true) : ∃ ac : Nat → ClassId, ∀ (k : Nat) (q : ClassId × FieldType), ([(ac 0, .int), (ac 1, .long), (ac 2, .boolean), (ac 3, .object "java/lang/Object"), (ac 4, .array .long)] : List (ClassId × FieldType))[k]? = some q → ArrOfT s q.1 q.2 ∧ va_RA s q.1 q.2 := by
  obtain ⟨c0, a0, b0⟩ := arrC (hts _ (lw_gi tw_149))
  obtain ⟨c1, a1, b1⟩ := arrC (hts _ (lw_gi tw_186))
  obtain ⟨c2, a2, b2⟩ := arrC (hts _ (lw_gi tw_1261))
  obtain ⟨p3, c3, k3, f1, -, f2, f3, f4⟩ := Cond.arrayOver_spec (hts _ tw_561)
  have hJ : AOJ s := hts _ tw_222
  obtain ⟨p4, c4, k4, g1, -, g2, g3, g4⟩ := AOJ.spec hJ
  refine ⟨fun k => [c0, c1, c2, c3, c4].getD k 0, fun k q hq => ?_⟩
  have hk : k < 5 := (List.getElem?_eq_some_iff.mp hq).1
  rcases (show k = 0 ∨ k = 1 ∨ k = 2 ∨ k = 3 ∨ k = 4 by omega) with rfl | rfl | rfl | rfl | rfl
  · cases hq
    exact ⟨a0, b0⟩
  · cases hq
    exact ⟨a1, b1⟩
  · cases hq
    exact ⟨a2, b2⟩
  · cases hq
    exact ⟨fun N z => ⟨(fun k h => by cases h), k3, f2, p3, f3⟩, k3, p3, f2, f3, f1, f4⟩
  · cases hq
    exact ⟨fun N z => ⟨(fun k h => by cases h), k4, g2, p4, g3⟩, g4⟩
theorem stE {args : Array Value} {s : State} (hts : ∀ w ∈ lw_tbl, w.before args s = true) (hgv : (Jvm.Cond.and given_1 narrow_1).before args s = true) : ∃ G : EG, EV G (fun q => s.heap.size ≤ q) s s.heap ∧ G.2.2.1 < s.heap.size := by
  have hs := flat_of_before _ hgv
  have hA : ∀ a : Nat, a < s.heap.size → ¬ (fun q => s.heap.size ≤ q) a := fun a h k => Nat.not_le.mpr h k
  have m1 : ∀ i, i < 7 → Cond.exactly (Term.string "RockHeat$Tape" (spl.getD i (0, "")).1) "java/lang/String" ∈ flatC (Cond.and given_1 narrow_1) := by decide +kernel
  have m2 : ∀ i, i < 7 → Cond.eq (.field (Term.string "RockHeat$Tape" (spl.getD i (0, "")).1) "java/lang/String" "coder" "B") (.int 0) ∈ flatC (Cond.and given_1 narrow_1) := by decide +kernel
  have m3 : ∀ i, i < 7 → Cond.arrayOf (.field (Term.string "RockHeat$Tape" (spl.getD i (0, "")).1) "java/lang/String" "value" "[B") .byte ∈ flatC (Cond.and given_1 narrow_1) := by decide +kernel
  have m4 : ∀ i, i < 7 → Cond.eq (.length (.field (Term.string "RockHeat$Tape" (spl.getD i (0, "")).1) "java/lang/String" "value" "[B")) (.int (Int32.ofNat (slen.getD i 0))) ∈ flatC (Cond.and given_1 narrow_1) := by decide +kernel
  have m5 : ∀ i, i < 7 → ∀ j, j < slen.getD i 0 → Cond.eq (.elem (.field (Term.string "RockHeat$Tape" (spl.getD i (0, "")).1) "java/lang/String" "value" "[B") (.int (Int32.ofNat j))) (.int ((sbyt.getD i []).getD j 0)) ∈ flatC (Cond.and given_1 narrow_1) := by decide +kernel
  have m6 : ∀ i, i < 7 → ∀ j, j < 7 → i ≠ j → Cond.not (Cond.eq (Term.string "RockHeat$Tape" (spl.getD i (0, "")).1) (Term.string "RockHeat$Tape" (spl.getD j (0, "")).1)) ∈ flatC (Cond.and given_1 narrow_1) ∨ Cond.not (Cond.eq (Term.string "RockHeat$Tape" (spl.getD j (0, "")).1) (Term.string "RockHeat$Tape" (spl.getD i (0, "")).1)) ∈ flatC (Cond.and given_1 narrow_1) := by decide +kernel
  obtain ⟨adK, adV, hS, hR⟩ := vk_Sof (args := args) (N := 7) (tm := fun i => (Term.string "RockHeat$Tape" (spl.getD i (0, "")).1)) (len := slen) (byt := sbyt) (A := fun q => s.heap.size ≤ q) (by decide) (fun i hi => hs _ (m1 i hi)) (fun i hi => hs _ (m2 i hi)) (fun i hi => hs _ (m3 i hi)) (fun i hi => hs _ (m4 i hi)) (fun i hi j hj => hs _ (m5 i hi j hj)) (fun i j hi hj hij => (m6 i hi j hj hij).imp (fun h => hs _ h) (fun h => hs _ h)) hA
  have hR2 : ∀ i, i < 7 → vk_R "RockHeat$Tape" (spl.getD i (0, "")).1 (spl.getD i (0, "")).2 (adK i) s := fun i hi => by
    have hh := hR i hi
    rcases lt7 i hi with rfl | rfl | rfl | rfl | rfl | rfl | rfl
    · exact vk_R.of (A := args) (hts _ tw_892) hh
    · exact vk_R.of (A := args) (hts _ tw_891) hh
    · exact vk_R.of (A := args) (hts _ tw_788) hh
    · exact vk_R.of (A := args) (hts _ tw_875) hh
    · exact vk_R.of (A := args) (hts _ tw_880) hh
    · exact vk_R.of (A := args) (hts _ tw_886) hh
    · exact vk_R.of (A := args) (hts _ tw_885) hh
  have hz : va_Z "java/lang/String" "COMPACT_STRINGS" "Z" (.int 1) (fun q => s.heap.size ≤ q) s s.heap := va_Zof (args := args) (hts _ (lw_c4 _ (List.mem_of_getElem? (i := 27) (by rfl)))) (hts _ (lw_gi tw_80)) (va_eqt (hs _ (by decide +kernel))) hA
  obtain ⟨t, ht, hT⟩ := va_Tof (args := args) (N := 0) (tm := .static "java/util/ArrayList" "DEFAULTCAPACITY_EMPTY_ELEMENTDATA" "[Ljava/lang/Object;") (ty := .object "java/lang/Object") (f := fun _ => .null) (A := fun q => s.heap.size ≤ q) (by decide) (hs _ (by decide +kernel)) (va_eqt (hs _ (by decide +kernel))) (fun j hj => absurd hj (Nat.not_lt_zero _)) hA
  have hze : va_Z "java/util/ArrayList" "DEFAULTCAPACITY_EMPTY_ELEMENTDATA" "[Ljava/lang/Object;" (.ref t) (fun q => s.heap.size ≤ q) s s.heap := va_Zof (args := args) (hts _ (lw_c1 _ (List.mem_of_getElem? (i := 55) (by rfl)))) (hts _ (lw_gi tw_64)) ht hA
  obtain ⟨mi, hmi⟩ := va_Mi.of (args := args) (C := "[Ljava/lang/Object;") (hs _ (by decide +kernel))
  have hx : ∀ w ∈ lw_x, va_Nw w s := fun w hw => va_Nw.of (A := args) (by
    have h2 := (List.mem_filter.mp hw).2
    cases w <;> first | rfl | cases h2) (hts _ (List.mem_filter.mp hw).1)
  have hJ : AOJ s := hts _ tw_222
  refine ⟨(adK, adV, t, mi), ⟨hS, hR2, hz, hze, hT, hmi, hx, va_AO.of (A := args) (hts _ tw_561), va_Dc.of (A := args) (hts _ tw_1562), hJ⟩, ?_⟩
  obtain ⟨cell, h1, -⟩ := hT
  exact (Array.getElem?_eq_some_iff.mp h1).1
set_option maxRecDepth 100000 in
theorem whole_start {p : Program} {e : Env} {s : State} {m : MethodId} {below : List Frame} {meth : Method} {c : Code} (l : Launch) (hflags : l.flags = flags0) {b L : Nat} {xs : Nat → Int32} (hL : L ≤ 3072) (C0 : lw_At p s m meth c b L xs) : W p l e room_1 s m #[Value.ref b] below meth c s.heap [] 0 0 (lw_Z below #[Value.ref b] s) (entryFrame m ([Value.ref b] : List Value).toArray 4) := by
  obtain ⟨hx, hb, hr, hml, hown, hts, hX, hbl, hlk, hgv⟩ := C0
  have hg : ∀ w ∈ lw_g, w.before #[Value.ref b] s = true := fun w hw => hts w (lw_gi hw)
  obtain ⟨D, hD⟩ := stD hg
  obtain ⟨ac, hac⟩ := stA hts
  obtain ⟨G, hE, he⟩ := stE hts hgv
  have hl := lv_entry ([.ref b]) (n := 4) (Nat.le_of_ble_eq_true rfl)
  rw [lg_entry_eq]
  generalize (lg_sl ([.ref b]) ++ List.replicate (4 - (lg_sl ([.ref b])).length) Slot.unset).toArray = ls at hl ⊢
  have hl : lv_has ls 4 [(0, .ref b)] := hl
  have hP : PW D ac (M00 s.heap.size G.2.2.1) s.heap := ⟨rfl, fun a h => absurd rfl h, fun a c h _ => absurd (show 0 = c + 1 from h) (Nat.succ_ne_zero c).symm, fun a h => absurd (show 0 = 20 from h) (by decide), fun a h => absurd (show 0 = 21 from h) (by decide), fun a h => absurd (show 0 = 22 from h) (by decide), fun a h => absurd (show 0 = 23 from h) (by decide), fun a h => absurd (show 0 = 24 from h) (by decide)⟩
  have ho : ∀ q, ownM (M00 s.heap.size G.2.2.1) q → s.heap.size ≤ q := fun q hq => hq.resolve_left (fun h => h rfl)
  have w := w_law (z := (p, l, e, s, m, below, meth, c, D, ac, G, b, L, xs)) (res := ()) (M00 s.heap.size G.2.2.1) (M00 s.heap.size G.2.2.1) (F_law_ok s.heap.size L G.2.2.1 hL he xs) ⟨hx, hb, hr, hml, hown, hg, hX, hbl, hlk, ⟨hD, hac⟩, hE, hL⟩ ⟨rfl, rfl, Nat.le_refl _, Nat.le_add_right _ _, Nat.zero_le _, ho, ho, fun q h => absurd rfl h, rfl, rfl⟩ s.heap [] ls hP hP va_S.rf hl
  have e1 : gH (M00 s.heap.size G.2.2.1) - s.heap.size = 0 := Nat.sub_self _
  rw [e1] at w
  exact w
set_option maxHeartbeats 4000000 in
theorem lw_walk (l : Launch) (hflags : l.flags = flags0) (b : Addr) (xs : List Int32) : MetFree l x (headSpec (Jvm.Cond.code x code maxLocals ret :: tables_1) room_1) (lw_P b xs) (fun _ _ _ _ _ => True) lw_Q := by
  refine MetFree.of_bodyS (code := code) (maxLocals := maxLocals) (ret := ret) (by decide) ?_ ?_
  · intro args s m h hn
    obtain ⟨meth, c, h1, h2, h3, h4, h5, h6, -, -⟩ := Cond.code_spec hn (atoms_spec (ws := Jvm.Cond.code x code maxLocals ret :: tables_1) h _ List.mem_cons_self)
    exact ⟨meth, c, h1, h2, h3, h4, h5, h6⟩
  · intro p e s m args below meth c s₁ B hml0 hP _
    obtain ⟨rfl, hx, hbd, hgv⟩ := hP
    obtain ⟨scr, harrAt, hlist, hof, hsmall⟩ := hx
    obtain ⟨hcb, hkn, -, -⟩ := State.arrayAt?_spec harrAt
    have hown : s.vm.findClass R_law = some m.cls := findClass_of_methodNamed B.named
    have hts0 : ∀ c ∈ (Jvm.Cond.code x code maxLocals ret :: tables_1), c.before #[Value.ref b] s = true := atoms_spec (ws := Jvm.Cond.code x code maxLocals ret :: tables_1) B.pre
    have hts : ∀ w ∈ lw_tbl, w.before #[Value.ref b] s = true := k2_hts_sels lw_privs (fun w hw => hts0 w (List.mem_cons_of_mem _ hw)) lw_privs_ok
    have hml : c.maxLocals = 4 := B.maxLocals_eq (hts0 _ List.mem_cons_self)
    have X₀ : Stand p l e room_1 s m #[Value.ref b] below meth c s₁ [] 0 0 := Stand.of_body B
    have hh0 : s₁.heap = s.heap := by rw [B.state]; rfl
    have hsz : scr.slots.size = xs.length := by rw [← Array.length_toList, hlist, List.length_map]
    have hval : ∀ j : Nat, j < xs.length → scr.slots[j]? = some (.int (xs.getD j 0)) := fun j hj => by
      rw [← Array.getElem?_toList, hlist]
      simp [hj]
    have hbl : b < s.heap.size := (Array.getElem?_eq_some_iff.mp hcb).1
    have hX : va_X b xs.length (fun j => xs.getD j 0) s s.heap := ⟨scr, hcb, hof, hkn, hsz, hval⟩
    have K : W p l e room_1 s m #[Value.ref b] below meth c s₁.heap [] 0 0 (lw_Z below #[Value.ref b] s) (entryFrame m ([Value.ref b] : List Value).toArray 4) := by
      rw [hh0]
      exact whole_start l hflags hbd ⟨B.exec, B.bytes, B.returns, hml, hown, hts, hX, hbl, B.notSynchronized, hgv⟩
    obtain ⟨t, a1, o, b1, b2, b3⟩ := K s₁ rfl X₀
    exact ⟨t, o, a1, b1, b2, b3⟩
theorem lw_pre_spec {args : Array Value} {s : State} (h : (Jvm.Cond.and given_1 narrow_1).before args s = true) (hr : rest_1_c.before args s = true) : ∃ (b : Addr) (xs : List Int32), lw_P b xs args s := by
  have hs := flat_of_before _ h
  have hq := flat_of_before _ hr
  have hc : (Cond.count 1).before args s = true := hs _ (by decide +kernel)
  have harr : (Cond.arrayOf (.arg 0) .int).before args s = true := hs _ (by decide +kernel)
  have hle : (Cond.le (.length (.arg 0)) (.int 3072)).before args s = true := hs _ (by decide +kernel)
  have hlen : (Cond.isInt (.length (.arg 0))).before args s = true := hq _ (by decide +kernel)
  have hall : (Cond.all (.arg 0) (.isInt (.elem (.arg 0) (.index 0)))).before args s = true := hq _ (by decide +kernel)
  obtain ⟨b, xs, hb, hx⟩ := State.ints_of_pre rfl harr hlen hall
  have hsm : xs.length < 2 ^ 31 := hx.choose_spec.2.2.2
  have hev : (Term.length (.arg 0)).eval args s none [] s = some (.int xs.length.toInt32) := hx.length_eval hb
  have hv := Cond.le_ints hev (show (Term.int 3072).eval args s none [] s = some (.int 3072) from rfl)
  have hd : xs.length.toInt32 ≤ 3072 := by
    simpa [Cond.before, Cond.holds, hv] using hle
  have hN : xs.length ≤ 3072 := (Int32.ofNat_le_ofNat hsm (by decide)).mp (show Int32.ofNat xs.length ≤ Int32.ofNat 3072 from hd)
  exact ⟨b, xs, Cond.one_arg hc (show args[0]? = some (.ref b) from hb), hx, hN, h⟩
theorem lw_comes (l : Launch) (hflags : l.flags = flags0) : Comes l x (Jvm.Cond.code x code maxLocals ret :: tables_1) room_1 (fun tb e args s => Calls_1 tb e args s ∧ rest_1 tb e args s ∧ Pre_1 tb e args s)
    (fun _ _ args s o t => lw_Q args s o t) := by
  intro p e ha hc hk s m args below hf hfit hheap happ hpre
  obtain ⟨b, xs, hP⟩ := lw_pre_spec hpre.2.2 hpre.2.1
  obtain ⟨k, o, h1, h2, h3, hQ⟩ := lw_walk l hflags b xs p e ha hc hk s m args below hf ((Spec.applies_iff_loose hf).mp happ).1 hP trivial
  exact ⟨k, o, h1, h2, h3, hQ⟩
theorem lw_frame {s t : State} {o : Outcome} {args : Array Value} (h : Framed s o t [] 600000 7302250) :
    Framed s o t (fieldLocs frame_1_writes args s ++ arrayLocs frame_1_arrays args s ++ staticLocs frame_1_statics s) 600000 7302250 := h
theorem lw_limb (L : Cond) (hL : ∀ (args : Array Value) (s t : State), L.after args s (.returned (some (.int 1))) t = true) :
    ArmFor flags0 classFile x code maxLocals ret World_1 tables_1 room_1 Calls_1 rest_1 Pre_1
      (fun tb e a s o t => postC L tb e a s o t ∧ Framed s o t (fieldLocs frame_1_writes a s ++ arrayLocs frame_1_arrays a s ++ staticLocs frame_1_statics s) 600000 7302250) := by
  intro l hflags _ _ p e ha hc hk s m args below hf hfit hheap happ hpre
  obtain ⟨k, o, h1, h2, h3, rfl, hF⟩ := lw_comes l hflags p e ha hc hk s m args below hf hfit hheap happ hpre
  exact ⟨k, _, h1, h2, h3, hL args s _, lw_frame hF⟩
theorem i_vc : Claimed_1_1 ∧ Claimed_1_2 := ⟨lw_limb limb_1_1 (fun args s t => by simp [limb_1_1, Cond.after, Cond.holds, Cond.value]), lw_limb limb_1_2 (fun args s t => Cond.after_iff.mpr (by
  first | (rw [show limb_1_2 = Cond.eq .result (.int 1) from rfl, Cond.eq_ints (x := 1) (y := 1) rfl rfl]; simp; done) | (simp [limb_1_2, Cond.value, Term.eval]; done)))⟩

