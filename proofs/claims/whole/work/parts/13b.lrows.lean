theorem kinds_one {M : Mem} {a c : Nat} (hk : gK M a = c + 1) : ∀ q ∈ [(a, c + 1)], gK M q.1 = q.2 ∧ q.2 ≠ 0 := fun q hq => by
  have hq := List.mem_singleton.mp hq
  subst hq
  exact ⟨hk, Nat.succ_ne_zero _⟩
def R_law : String := "RockHeatLaw"
def lw_Q (_ : Array Value) (s : State) (o : Outcome) (t : State) : Prop := o = .returned (some (.int 1)) ∧ Framed s o t [] 600000 7302250
def lw_Z (below : List Frame) (a : Array Value) (s : State) : State → Prop := fun t => ∃ o, t.status = .running ∧ Ended t below o ∧ lw_Q a s o t
theorem lw_ret {p : Program} {l : Launch} {e : Env} {s : State} {m : MethodId} {below : List Frame} {meth : Method} {c : Code} {b : Nat} (hx : p.tables.exec = Jvm.exec) (hb : c.code = code) (hr : meth.sig.returnType = ret) (hlocks : meth.locks = false) {pc : Nat} {H : Heap} {ls : Array Slot} (hdg : decode code pc = .ok (.ireturn, 1)) : W p l e room_1 s m #[Value.ref b] below meth c H [] 600000 7302250 (lw_Z below #[Value.ref b] s) (F0 m pc ls [.int 1]) := by
  intro T hT X
  obtain ⟨fs, hret, hrun, hended, hW, hframe⟩ := X.leave (v := some (.int 1)) (hlocks := hlocks) (fun h => by rw [hr] at h; cases h)
  have hmeth' : T.vm.method? m = some meth := X.method'
  refine ⟨T.setFrames fs, ?_, .returned (some (.int 1)), hrun, hended, rfl, ⟨_, rfl⟩, hW, hframe⟩
  jvm_step X.here [X.here.top, hx, hb, hdg, hmeth', hr, ret, narrow_b1]
  (try refine ⟨rfl, ?_⟩); (try refine ⟨rfl, ?_⟩)
  first | (intro acts; rw [hret _ acts rfl rfl rfl]) | rw [hret _ _ rfl rfl rfl]
  exact Steps.refl _
abbrev LX : Type := Program × Launch × Env × State × MethodId × List Frame × Method × Code × va_G × (Nat → ClassId) × EG × Nat × Nat × (Nat → Int32)
/-- the surroundings of the law's walk -/
def LZ (z : LX) : Prop := match z with
  | (p, l, e, s, m, below, meth, c, D, ac, G, b, Ln, xs) => p.tables.exec = Jvm.exec ∧ c.code = code ∧ meth.sig.returnType = ret ∧ c.maxLocals = 4 ∧ s.vm.findClass R_law = some m.cls ∧ (∀ w ∈ lw_g, w.before #[Value.ref b] s = true) ∧ va_X b Ln xs s s.heap ∧ b < s.heap.size ∧ meth.locks = false ∧ KW D ac s ∧ EV G (fun q => s.heap.size ≤ q) s s.heap ∧ Ln ≤ 3072
/-- what holds of the two memories at every place of the law -/
def LI (h0 : Nat) (G : EG) (M1 M2 : Mem) : Prop := gH M1 = gH M2 ∧ gS M1 = gS M2 ∧ h0 ≤ gH M1 ∧ gH M1 ≤ h0 + 600000 ∧ gS M1 ≤ 7302250 ∧ (∀ q, ownM M1 q → h0 ≤ q) ∧ (∀ q, ownM M2 q → h0 ≤ q) ∧ (∀ q, gK M1 q ≠ 0 → gK M2 q = 0) ∧ gE M1 = G.2.2.1 ∧ gE M2 = G.2.2.1
def lxH (z : LX) : Nat := z.2.2.2.1.heap.size
def lxS (z : LX) : Nat → Int32 := z.2.2.2.2.2.2.2.2.2.2.2.2.2
def lxN (z : LX) : Nat := z.2.2.2.2.2.2.2.2.2.2.2.2.1
def lxB (z : LX) : Nat := z.2.2.2.2.2.2.2.2.2.2.2.1
def lxG (z : LX) : EG := z.2.2.2.2.2.2.2.2.2.2.1
def TL (z : LX) (M1 M2 : Mem) (L : List (Nat × Value)) (st : List Value) (pc : Nat) : Prop := LZ z → match z with
  | (p, l, e, s, m, below, meth, c, D, ac, G, b, Ln, xs) => LI s.heap.size G M1 M2 → ∀ (H : Heap) (locs : List Loc) (ls : Array Slot), PW D ac M1 H → PW D ac M2 H → va_S (fun q => s.heap.size ≤ q) s.heap H locs → lv_has ls 4 L →
      W p l e room_1 s m #[Value.ref b] below meth c H locs (gH M1 - s.heap.size) (gS M1) (lw_Z below #[Value.ref b] s) (F0 m pc ls st)
theorem TL.sub {z : LX} {M1 M2 : Mem} {L L' : List (Nat × Value)} {st : List Value} {pc : Nat} (kk : TL z M1 M2 L' st pc) (ls : List Nat) (hl : lv_pick L ls = L') : TL z M1 M2 L st pc := by
  intro Z
  have kk := kk Z
  obtain ⟨p, l, e, s, m, below, meth, c, D, ac, G, b, Ln, xs⟩ := z
  exact fun hI H locs l2 h1 h2 hS hl2 => kk hI H locs l2 h1 h2 hS (lv_sub hl2 ls hl)
theorem l_iconst {z : LX} {pc : Nat} {M1 M2 : Mem} {L : List (Nat × Value)} {st : List Value} {n : Int} {w : Int32} (hd : decode code pc = .ok (.iconst n, 1)) (hv : Int32.ofInt n = w) (kk : TL z M1 M2 L (.int w :: st) (pc + 1)) : TL z M1 M2 L st pc := by
  intro Z
  have kk := kk Z
  obtain ⟨p, l, e, s, m, below, meth, c, D, ac, G, b, Ln, xs⟩ := z
  exact fun hI H locs ls h1 h2 hS hl => lv_iconst Z.1 Z.2.1 hd hv (kk hI H locs ls h1 h2 hS hl)
theorem l_bipush {z : LX} {pc : Nat} {M1 M2 : Mem} {L : List (Nat × Value)} {st : List Value} {n : Int} {w : Int32} (hd : decode code pc = .ok (.bipush n, 2)) (hv : (Int8.ofInt n).toInt32 = w) (kk : TL z M1 M2 L (.int w :: st) (pc + 2)) : TL z M1 M2 L st pc := by
  intro Z
  have kk := kk Z
  obtain ⟨p, l, e, s, m, below, meth, c, D, ac, G, b, Ln, xs⟩ := z
  exact fun hI H locs ls h1 h2 hS hl => lv_bipush Z.1 Z.2.1 hd hv (kk hI H locs ls h1 h2 hS hl)
theorem l_ldc2 {z : LX} {pc : Nat} {M1 M2 : Mem} {L : List (Nat × Value)} {st : List Value} {ix : Nat} {w : Int64} (hcw : Cond.constantLong R_law ix w ∈ lw_g) (hd : decode code pc = .ok (.ldc2_w ix, 3)) (kk : TL z M1 M2 L (.long w :: st) (pc + 3)) : TL z M1 M2 L st pc := by
  intro Z
  have kk := kk Z
  obtain ⟨p, l, e, s, m, below, meth, c, D, ac, G, b, Ln, xs⟩ := z
  exact fun hI H locs ls h1 h2 hS hl => lv_ldc2 Z.1 Z.2.1 Z.2.2.2.2.1 (Z.2.2.2.2.2.1 _ hcw) hd (kk hI H locs ls h1 h2 hS hl)
theorem l_iload_n {z : LX} {pc : Nat} {M1 M2 : Mem} {L : List (Nat × Value)} {st : List Value} {k : Fin 4} {i : Nat} {x : Int32} (j : Nat) (hd : decode code pc = .ok (.iload_n k, 1)) (hi : (k : Nat) = i) (hj : L[j]? = some (i, .int x)) (kk : TL z M1 M2 L (.int x :: st) (pc + 1)) : TL z M1 M2 L st pc := by
  intro Z
  have kk := kk Z
  obtain ⟨p, l, e, s, m, below, meth, c, D, ac, G, b, Ln, xs⟩ := z
  exact fun hI H locs ls h1 h2 hS hl => lv_iload_n Z.1 Z.2.1 hd hi (lv_at hl j hj) (kk hI H locs ls h1 h2 hS hl)
theorem l_aload_n {z : LX} {pc : Nat} {M1 M2 : Mem} {L : List (Nat × Value)} {st : List Value} {k : Fin 4} {i : Nat} {x : Nat} (j : Nat) (hd : decode code pc = .ok (.aload_n k, 1)) (hi : (k : Nat) = i) (hj : L[j]? = some (i, .ref x)) (kk : TL z M1 M2 L (.ref x :: st) (pc + 1)) : TL z M1 M2 L st pc := by
  intro Z
  have kk := kk Z
  obtain ⟨p, l, e, s, m, below, meth, c, D, ac, G, b, Ln, xs⟩ := z
  exact fun hI H locs ls h1 h2 hS hl => lv_aload_n Z.1 Z.2.1 hd hi (lv_at hl j hj) (kk hI H locs ls h1 h2 hS hl)
theorem l_istore_n {z : LX} {pc : Nat} {M1 M2 : Mem} {L : List (Nat × Value)} {st : List Value} {k : Fin 4} {i : Nat} {x : Int32} {L1 : List (Nat × Value)} (hd : decode code pc = .ok (.istore_n k, 1)) (hi : (k : Nat) = i) (hn : i < 4) (hl1 : (i, Value.int x) :: L.filter (fun q => !(q.1 == i) && !(q.1 + 1 == i && q.2.category == 2)) = L1) (kk : TL z M1 M2 L1 st (pc + 1)) : TL z M1 M2 L (.int x :: st) pc := by
  intro Z
  have kk := kk Z
  obtain ⟨p, l, e, s, m, below, meth, c, D, ac, G, b, Ln, xs⟩ := z
  exact fun hI H locs ls h1 h2 hS hl => lv_istore_n Z.1 Z.2.1 hd hi hl hn hl1 (fun ls1 hl2 => kk hI H locs ls1 h1 h2 hS hl2)
theorem l_astore_n {z : LX} {pc : Nat} {M1 M2 : Mem} {L : List (Nat × Value)} {st : List Value} {k : Fin 4} {i : Nat} {x : Nat} {L1 : List (Nat × Value)} (hd : decode code pc = .ok (.astore_n k, 1)) (hi : (k : Nat) = i) (hn : i < 4) (hl1 : (i, Value.ref x) :: L.filter (fun q => !(q.1 == i) && !(q.1 + 1 == i && q.2.category == 2)) = L1) (kk : TL z M1 M2 L1 st (pc + 1)) : TL z M1 M2 L (.ref x :: st) pc := by
  intro Z
  have kk := kk Z
  obtain ⟨p, l, e, s, m, below, meth, c, D, ac, G, b, Ln, xs⟩ := z
  exact fun hI H locs ls h1 h2 hS hl => lv_astore_n Z.1 Z.2.1 hd hi hl hn hl1 (fun ls1 hl2 => kk hI H locs ls1 h1 h2 hS hl2)
theorem l_iinc {z : LX} {pc : Nat} {M1 M2 : Mem} {L : List (Nat × Value)} {st : List Value} {i k : Nat} {n : Int} {x w : Int32} {L1 : List (Nat × Value)} (hd : decode code pc = .ok (.iinc i n, 3)) (hk : L[k]? = some (i, .int x)) (hv : x + Int32.ofInt n = w) (hn : i < 4) (hl1 : (i, Value.int w) :: L.filter (fun q => !(q.1 == i) && !(q.1 + 1 == i && q.2.category == 2)) = L1) (kk : TL z M1 M2 L1 st (pc + 3)) : TL z M1 M2 L st pc := by
  intro Z
  have kk := kk Z
  obtain ⟨p, l, e, s, m, below, meth, c, D, ac, G, b, Ln, xs⟩ := z
  exact fun hI H locs ls h1 h2 hS hl => lv_iinc Z.1 Z.2.1 hd hl hk hv hn hl1 (fun ls1 hl2 => kk hI H locs ls1 h1 h2 hS hl2)
theorem l_iadd {z : LX} {pc : Nat} {M1 M2 : Mem} {L : List (Nat × Value)} {st : List Value} {x y : Int32} (hd : decode code pc = .ok (.iadd, 1)) (kk : TL z M1 M2 L (.int (x + y) :: st) (pc + 1)) : TL z M1 M2 L (.int y :: .int x :: st) pc := by
  intro Z
  have kk := kk Z
  obtain ⟨p, l, e, s, m, below, meth, c, D, ac, G, b, Ln, xs⟩ := z
  exact fun hI H locs ls h1 h2 hS hl => lv_iadd Z.1 Z.2.1 hd (kk hI H locs ls h1 h2 hS hl)
theorem l_isub {z : LX} {pc : Nat} {M1 M2 : Mem} {L : List (Nat × Value)} {st : List Value} {x y : Int32} (hd : decode code pc = .ok (.isub, 1)) (kk : TL z M1 M2 L (.int (x - y) :: st) (pc + 1)) : TL z M1 M2 L (.int y :: .int x :: st) pc := by
  intro Z
  have kk := kk Z
  obtain ⟨p, l, e, s, m, below, meth, c, D, ac, G, b, Ln, xs⟩ := z
  exact fun hI H locs ls h1 h2 hS hl => lv_isub Z.1 Z.2.1 hd (kk hI H locs ls h1 h2 hS hl)
theorem l_iand {z : LX} {pc : Nat} {M1 M2 : Mem} {L : List (Nat × Value)} {st : List Value} {x y : Int32} (hd : decode code pc = .ok (.iand, 1)) (kk : TL z M1 M2 L (.int (x &&& y) :: st) (pc + 1)) : TL z M1 M2 L (.int y :: .int x :: st) pc := by
  intro Z
  have kk := kk Z
  obtain ⟨p, l, e, s, m, below, meth, c, D, ac, G, b, Ln, xs⟩ := z
  exact fun hI H locs ls h1 h2 hS hl => lv_iand Z.1 Z.2.1 hd (kk hI H locs ls h1 h2 hS hl)
theorem l_land {z : LX} {pc : Nat} {M1 M2 : Mem} {L : List (Nat × Value)} {st : List Value} {x y : Int64} (hd : decode code pc = .ok (.land, 1)) (kk : TL z M1 M2 L (.long (x &&& y) :: st) (pc + 1)) : TL z M1 M2 L (.long y :: .long x :: st) pc := by
  intro Z
  have kk := kk Z
  obtain ⟨p, l, e, s, m, below, meth, c, D, ac, G, b, Ln, xs⟩ := z
  exact fun hI H locs ls h1 h2 hS hl => lv_land Z.1 Z.2.1 hd (kk hI H locs ls h1 h2 hS hl)
theorem l_lor {z : LX} {pc : Nat} {M1 M2 : Mem} {L : List (Nat × Value)} {st : List Value} {x y : Int64} (hd : decode code pc = .ok (.lor, 1)) (kk : TL z M1 M2 L (.long (x ||| y) :: st) (pc + 1)) : TL z M1 M2 L (.long y :: .long x :: st) pc := by
  intro Z
  have kk := kk Z
  obtain ⟨p, l, e, s, m, below, meth, c, D, ac, G, b, Ln, xs⟩ := z
  exact fun hI H locs ls h1 h2 hS hl => lv_lor Z.1 Z.2.1 hd (kk hI H locs ls h1 h2 hS hl)
theorem l_lshl {z : LX} {pc : Nat} {M1 M2 : Mem} {L : List (Nat × Value)} {st : List Value} {x : Int64} {y : Int32} (hd : decode code pc = .ok (.lshl, 1)) (kk : TL z M1 M2 L (.long (x <<< (y.toInt64 &&& 63)) :: st) (pc + 1)) : TL z M1 M2 L (.int y :: .long x :: st) pc := by
  intro Z
  have kk := kk Z
  obtain ⟨p, l, e, s, m, below, meth, c, D, ac, G, b, Ln, xs⟩ := z
  exact fun hI H locs ls h1 h2 hS hl => lv_lshl Z.1 Z.2.1 hd rfl (kk hI H locs ls h1 h2 hS hl)
theorem l_i2l {z : LX} {pc : Nat} {M1 M2 : Mem} {L : List (Nat × Value)} {st : List Value} {x : Int32} (hd : decode code pc = .ok (.i2l, 1)) (kk : TL z M1 M2 L (.long x.toInt64 :: st) (pc + 1)) : TL z M1 M2 L (.int x :: st) pc := by
  intro Z
  have kk := kk Z
  obtain ⟨p, l, e, s, m, below, meth, c, D, ac, G, b, Ln, xs⟩ := z
  exact fun hI H locs ls h1 h2 hS hl => lv_i2l Z.1 Z.2.1 hd rfl (kk hI H locs ls h1 h2 hS hl)
theorem l_dup {z : LX} {pc : Nat} {M1 M2 : Mem} {L : List (Nat × Value)} {st : List Value} {va : Value} (hd : decode code pc = .ok (.dup, 1)) (hcat : va.category = 1) (kk : TL z M1 M2 L (va :: va :: st) (pc + 1)) : TL z M1 M2 L (va :: st) pc := by
  intro Z
  have kk := kk Z
  obtain ⟨p, l, e, s, m, below, meth, c, D, ac, G, b, Ln, xs⟩ := z
  exact fun hI H locs ls h1 h2 hS hl => lv_dup Z.1 Z.2.1 hd hcat (kk hI H locs ls h1 h2 hS hl)
theorem l_lcmp {z : LX} {pc : Nat} {M1 M2 : Mem} {L : List (Nat × Value)} {st : List Value} {x y : Int64} (hd : decode code pc = .ok (.lcmp, 1)) (kk : TL z M1 M2 L (.int (lg_cmp x y) :: st) (pc + 1)) : TL z M1 M2 L (.long y :: .long x :: st) pc := by
  intro Z
  have kk := kk Z
  obtain ⟨p, l, e, s, m, below, meth, c, D, ac, G, b, Ln, xs⟩ := z
  exact fun hI H locs ls h1 h2 hS hl => W.lcmp Z.1 Z.2.1 hd (kk hI H locs ls h1 h2 hS hl)
theorem l_goto {z : LX} {pc : Nat} {M1 M2 : Mem} {L : List (Nat × Value)} {st : List Value} {off : Int} {tgt : Nat} (hd : decode code pc = .ok (.goto off, 3)) (ht : (pc : Int) + off = (tgt : Int)) (kk : TL z M1 M2 L st tgt) : TL z M1 M2 L st pc := by
  intro Z
  have kk := kk Z
  obtain ⟨p, l, e, s, m, below, meth, c, D, ac, G, b, Ln, xs⟩ := z
  exact fun hI H locs ls h1 h2 hS hl => lv_goto Z.1 Z.2.1 hd ht (kk hI H locs ls h1 h2 hS hl)
theorem l_if_eq {z : LX} {pc : Nat} {M1 M2 : Mem} {L : List (Nat × Value)} {st : List Value} {x : Int32} {off : Int} {tgt : Nat} {β : Type} {a b0 : Option β} {res : β} (hd : decode code pc = .ok (.ifCond .eq off, 3)) (ht : (pc : Int) + off = (tgt : Int)) (hF : (if x = 0 then a else b0) = some res) (kt : a = some res → TL z M1 M2 L st tgt) (kf : b0 = some res → TL z M1 M2 L st (pc + 3)) : TL z M1 M2 L (.int x :: st) pc := by
  rcases ite_e hF with ⟨hp, h⟩ | ⟨hp, h⟩
  · have kt := kt h
    intro Z
    have kt := kt Z
    obtain ⟨p, l, e, s, m, below, meth, c, D, ac, G, b, Ln, xs⟩ := z
    exact fun hI H locs ls h1 h2 hS hl => lv_if_eq Z.1 Z.2.1 hd ht (fun _ => kt hI H locs ls h1 h2 hS hl) (fun h9 => absurd hp h9)
  · have kf := kf h
    intro Z
    have kf := kf Z
    obtain ⟨p, l, e, s, m, below, meth, c, D, ac, G, b, Ln, xs⟩ := z
    exact fun hI H locs ls h1 h2 hS hl => lv_if_eq Z.1 Z.2.1 hd ht (fun h9 => absurd h9 hp) (fun _ => kf hI H locs ls h1 h2 hS hl)
theorem l_icmp_eq {z : LX} {pc : Nat} {M1 M2 : Mem} {L : List (Nat × Value)} {st : List Value} {x y : Int32} {off : Int} {tgt : Nat} {β : Type} {a b0 : Option β} {res : β} (hd : decode code pc = .ok (.if_icmp .eq off, 3)) (ht : (pc : Int) + off = (tgt : Int)) (hF : (if x = y then a else b0) = some res) (kt : a = some res → TL z M1 M2 L st tgt) (kf : b0 = some res → TL z M1 M2 L st (pc + 3)) : TL z M1 M2 L (.int y :: .int x :: st) pc := by
  rcases ite_e hF with ⟨hp, h⟩ | ⟨hp, h⟩
  · have kt := kt h
    intro Z
    have kt := kt Z
    obtain ⟨p, l, e, s, m, below, meth, c, D, ac, G, b, Ln, xs⟩ := z
    exact fun hI H locs ls h1 h2 hS hl => lv_icmp_eq Z.1 Z.2.1 hd ht (fun _ => kt hI H locs ls h1 h2 hS hl) (fun h9 => absurd hp h9)
  · have kf := kf h
    intro Z
    have kf := kf Z
    obtain ⟨p, l, e, s, m, below, meth, c, D, ac, G, b, Ln, xs⟩ := z
    exact fun hI H locs ls h1 h2 hS hl => lv_icmp_eq Z.1 Z.2.1 hd ht (fun h9 => absurd h9 hp) (fun _ => kf hI H locs ls h1 h2 hS hl)
theorem l_if_ne {z : LX} {pc : Nat} {M1 M2 : Mem} {L : List (Nat × Value)} {st : List Value} {x : Int32} {off : Int} {tgt : Nat} {β : Type} {a b0 : Option β} {res : β} (hd : decode code pc = .ok (.ifCond .ne off, 3)) (ht : (pc : Int) + off = (tgt : Int)) (hF : (if x = 0 then b0 else a) = some res) (kt : a = some res → TL z M1 M2 L st tgt) (kf : b0 = some res → TL z M1 M2 L st (pc + 3)) : TL z M1 M2 L (.int x :: st) pc := by
  rcases ite_e hF with ⟨hp, h⟩ | ⟨hp, h⟩
  · have kf := kf h
    intro Z
    have kf := kf Z
    obtain ⟨p, l, e, s, m, below, meth, c, D, ac, G, b, Ln, xs⟩ := z
    exact fun hI H locs ls h1 h2 hS hl => lv_if_ne Z.1 Z.2.1 hd ht (fun h9 => absurd hp h9) (fun _ => kf hI H locs ls h1 h2 hS hl)
  · have kt := kt h
    intro Z
    have kt := kt Z
    obtain ⟨p, l, e, s, m, below, meth, c, D, ac, G, b, Ln, xs⟩ := z
    exact fun hI H locs ls h1 h2 hS hl => lv_if_ne Z.1 Z.2.1 hd ht (fun _ => kt hI H locs ls h1 h2 hS hl) (fun h9 => absurd h9 hp)
theorem l_icmp_ne {z : LX} {pc : Nat} {M1 M2 : Mem} {L : List (Nat × Value)} {st : List Value} {x y : Int32} {off : Int} {tgt : Nat} {β : Type} {a b0 : Option β} {res : β} (hd : decode code pc = .ok (.if_icmp .ne off, 3)) (ht : (pc : Int) + off = (tgt : Int)) (hF : (if x = y then b0 else a) = some res) (kt : a = some res → TL z M1 M2 L st tgt) (kf : b0 = some res → TL z M1 M2 L st (pc + 3)) : TL z M1 M2 L (.int y :: .int x :: st) pc := by
  rcases ite_e hF with ⟨hp, h⟩ | ⟨hp, h⟩
  · have kf := kf h
    intro Z
    have kf := kf Z
    obtain ⟨p, l, e, s, m, below, meth, c, D, ac, G, b, Ln, xs⟩ := z
    exact fun hI H locs ls h1 h2 hS hl => lv_icmp_ne Z.1 Z.2.1 hd ht (fun h9 => absurd hp h9) (fun _ => kf hI H locs ls h1 h2 hS hl)
  · have kt := kt h
    intro Z
    have kt := kt Z
    obtain ⟨p, l, e, s, m, below, meth, c, D, ac, G, b, Ln, xs⟩ := z
    exact fun hI H locs ls h1 h2 hS hl => lv_icmp_ne Z.1 Z.2.1 hd ht (fun _ => kt hI H locs ls h1 h2 hS hl) (fun h9 => absurd h9 hp)
theorem l_if_gt {z : LX} {pc : Nat} {M1 M2 : Mem} {L : List (Nat × Value)} {st : List Value} {x : Int32} {off : Int} {tgt : Nat} {β : Type} {a b0 : Option β} {res : β} (hd : decode code pc = .ok (.ifCond .gt off, 3)) (ht : (pc : Int) + off = (tgt : Int)) (hF : (if 0 < x then a else b0) = some res) (kt : a = some res → TL z M1 M2 L st tgt) (kf : b0 = some res → TL z M1 M2 L st (pc + 3)) : TL z M1 M2 L (.int x :: st) pc := by
  rcases ite_e hF with ⟨hp, h⟩ | ⟨hp, h⟩
  · have kt := kt h
    intro Z
    have kt := kt Z
    obtain ⟨p, l, e, s, m, below, meth, c, D, ac, G, b, Ln, xs⟩ := z
    exact fun hI H locs ls h1 h2 hS hl => lv_if_gt Z.1 Z.2.1 hd ht (fun _ => kt hI H locs ls h1 h2 hS hl) (fun h9 => absurd hp h9)
  · have kf := kf h
    intro Z
    have kf := kf Z
    obtain ⟨p, l, e, s, m, below, meth, c, D, ac, G, b, Ln, xs⟩ := z
    exact fun hI H locs ls h1 h2 hS hl => lv_if_gt Z.1 Z.2.1 hd ht (fun h9 => absurd h9 hp) (fun _ => kf hI H locs ls h1 h2 hS hl)
theorem l_icmp_gt {z : LX} {pc : Nat} {M1 M2 : Mem} {L : List (Nat × Value)} {st : List Value} {x y : Int32} {off : Int} {tgt : Nat} {β : Type} {a b0 : Option β} {res : β} (hd : decode code pc = .ok (.if_icmp .gt off, 3)) (ht : (pc : Int) + off = (tgt : Int)) (hF : (if y < x then a else b0) = some res) (kt : a = some res → TL z M1 M2 L st tgt) (kf : b0 = some res → TL z M1 M2 L st (pc + 3)) : TL z M1 M2 L (.int y :: .int x :: st) pc := by
  rcases ite_e hF with ⟨hp, h⟩ | ⟨hp, h⟩
  · have kt := kt h
    intro Z
    have kt := kt Z
    obtain ⟨p, l, e, s, m, below, meth, c, D, ac, G, b, Ln, xs⟩ := z
    exact fun hI H locs ls h1 h2 hS hl => lv_icmp_gt Z.1 Z.2.1 hd ht (fun _ => kt hI H locs ls h1 h2 hS hl) (fun h9 => absurd hp h9)
  · have kf := kf h
    intro Z
    have kf := kf Z
    obtain ⟨p, l, e, s, m, below, meth, c, D, ac, G, b, Ln, xs⟩ := z
    exact fun hI H locs ls h1 h2 hS hl => lv_icmp_gt Z.1 Z.2.1 hd ht (fun h9 => absurd h9 hp) (fun _ => kf hI H locs ls h1 h2 hS hl)
theorem l_tabIn {z : LX} {pc : Nat} {M1 M2 : Mem} {L : List (Nat × Value)} {st : List Value} {dflt lo0 hi0 : Int} {offs : Array Int} {len : Nat} {x : Int32} {off : Int} {tgt : Nat} (hd : decode code pc = .ok (.tableswitch dflt lo0 hi0 offs, len)) (q1 : ¬ x.toInt < lo0) (q2 : ¬ hi0 < x.toInt) (ho : offs[(x.toInt - lo0).toNat]? = some off) (ht : (pc : Int) + off = (tgt : Int)) (kk : TL z M1 M2 L st tgt) : TL z M1 M2 L (.int x :: st) pc := by
  intro Z
  have kk := kk Z
  obtain ⟨p, l, e, s, m, below, meth, c, D, ac, G, b, Ln, xs⟩ := z
  exact fun hI H locs ls h1 h2 hS hl => lv_tableIn Z.1 Z.2.1 hd q1 q2 ho ht (kk hI H locs ls h1 h2 hS hl)
theorem l_tabOut {z : LX} {pc : Nat} {M1 M2 : Mem} {L : List (Nat × Value)} {st : List Value} {dflt lo0 hi0 : Int} {offs : Array Int} {len : Nat} {x : Int32} {tgt : Nat} (hd : decode code pc = .ok (.tableswitch dflt lo0 hi0 offs, len)) (h : x.toInt < lo0 ∨ hi0 < x.toInt) (ht : (pc : Int) + dflt = (tgt : Int)) (kk : TL z M1 M2 L st tgt) : TL z M1 M2 L (.int x :: st) pc := by
  intro Z
  have kk := kk Z
  obtain ⟨p, l, e, s, m, below, meth, c, D, ac, G, b, Ln, xs⟩ := z
  exact fun hI H locs ls h1 h2 hS hl => lv_tableOut Z.1 Z.2.1 hd h ht (kk hI H locs ls h1 h2 hS hl)
theorem l_sld {z : LX} {pc : Nat} {M1 M2 : Mem} {L : List (Nat × Value)} {st : List Value} {i : Int32} {β : Type} {k : Option β} {res : β} (hd : decode code pc = .ok (.iaload, 1)) (hF : grd (inb i (lxN z)) k = some res) (kk : k = some res → TL z M1 M2 L (.int (lxS z (ixn i)) :: st) (pc + 1)) : TL z M1 M2 L (.int i :: .ref (lxB z) :: st) pc := by
  obtain ⟨hin, hF⟩ := grd_e hF
  have kk := kk hF
  intro Z
  have kk := kk Z
  obtain ⟨p, l, e, s, m, below, meth, c, D, ac, G, b, Ln, xs⟩ := z
  exact fun hI H locs ls h1 h2 hS hl => va_sld Z.1 Z.2.1 Z.2.2.2.2.2.2.1 Z.2.2.2.2.2.2.2.1 (Nat.not_le.mpr Z.2.2.2.2.2.2.2.1) hS (vp_in_iff.mpr hin) hd (kk hI H locs ls h1 h2 hS hl)
theorem l_slen {z : LX} {pc : Nat} {M1 M2 : Mem} {L : List (Nat × Value)} {st : List Value} (hd : decode code pc = .ok (.arraylength, 1)) (kk : TL z M1 M2 L (.int (Int32.ofNat (lxN z)) :: st) (pc + 1)) : TL z M1 M2 L (.ref (lxB z) :: st) pc := by
  intro Z
  have kk := kk Z
  obtain ⟨p, l, e, s, m, below, meth, c, D, ac, G, b, Ln, xs⟩ := z
  exact fun hI H locs ls h1 h2 hS hl => va_slen Z.1 Z.2.1 Z.2.2.2.2.2.2.1 Z.2.2.2.2.2.2.2.1 (Nat.not_le.mpr Z.2.2.2.2.2.2.2.1) hS hd (kk hI H locs ls h1 h2 hS hl)
theorem l_ret {z : LX} {pc : Nat} {M1 M2 : Mem} {L : List (Nat × Value)} (hd : decode code pc = .ok (.ireturn, 1)) : TL z M1 M2 L [.int 1] pc := by
  intro Z
  obtain ⟨p, l, e, s, m, below, meth, c, D, ac, G, b, Ln, xs⟩ := z
  intro hI H locs ls h1 h2 hS hl
  obtain ⟨i1, i2, i3, i4, i5, -⟩ := hI
  refine va_forget (fun q hq => hS.2.2 q hq) ?_
  refine W.widen (k := 600000) (n := 7302250) (by omega) (by omega) ?_
  exact lw_ret Z.1 Z.2.1 Z.2.2.1 Z.2.2.2.2.2.2.2.2.1 hd
/-- the other memory stands over what the one's own cells did -/
theorem PW.other {D : va_G} {ac : Nat → ClassId} {M1 M2 : Mem} {H H1 : Heap} (h : PW D ac M2 H) (hd : ∀ q, gK M1 q ≠ 0 → gK M2 q = 0) (e : gH M1 = gH M2) (hk : ∀ q : Nat, q < H.size → ¬ ownM M1 q → H1[q]? = H[q]?) {n k : Nat} (hn : H1.size = n) (hle : gH M2 ≤ n) : PW D ac (sH M2 n k) H1 := by
  have key : ∀ x, gK M2 x ≠ 0 → H1[x]? = H[x]? := fun x hx => by
    have hlt := h.2.1 x hx
    refine hk x (by rw [h.1]; exact hlt) (fun ho => ?_)
    rcases ho with ho | ho
    · exact hx (hd x ho)
    · omega
  refine ⟨hn, fun a ha => Nat.lt_of_lt_of_le (h.2.1 a ha) hle, ?_, ?_, ?_, ?_, ?_, ?_⟩
  · intro x d hk1 hd14
    exact (h.2.2.1 x d hk1 hd14).kept (key x (by show gK M2 x ≠ 0; have : gK M2 x = d + 1 := hk1; omega))
  · intro x hk1
    rw [key x (by show gK M2 x ≠ 0; have : gK M2 x = 20 := hk1; omega)]
    exact h.2.2.2.1 x hk1
  · intro x hk1
    rw [key x (by show gK M2 x ≠ 0; have : gK M2 x = 21 := hk1; omega)]
    exact h.2.2.2.2.1 x hk1
  · intro x hk1
    rw [key x (by show gK M2 x ≠ 0; have : gK M2 x = 22 := hk1; omega)]
    exact h.2.2.2.2.2.1 x hk1
  · intro x hk1
    rw [key x (by show gK M2 x ≠ 0; have : gK M2 x = 23 := hk1; omega)]
    exact h.2.2.2.2.2.2.1 x hk1
  · intro x hk1
    rw [key x (by show gK M2 x ≠ 0; have : gK M2 x = 24 := hk1; omega)]
    exact h.2.2.2.2.2.2.2 x hk1
theorem LI.call {h0 : Nat} {G : EG} {M1 M2 N1 : Mem} (h : LI h0 G M1 M2) (hle : Le M1 N1) (hb : ∀ a, gK M2 a ≠ 0 → a < gH M2) (g1 : gH N1 ≤ h0 + 600000) (g2 : gS N1 ≤ 7302250) : LI h0 G N1 (sH M2 (gH N1) (gS N1)) := by
  obtain ⟨i1, i2, i3, i4, i5, i6, i7, i8, i9, i10⟩ := h
  have l1 := hle.1
  refine ⟨rfl, rfl, by omega, g1, g2, fun q hq => i6 q (hle.2.2.1 q hq), fun q hq => ?_, fun q hq => ?_, hle.2.2.2.2.trans i9, i10⟩
  · rcases hq with hq | hq
    · exact i7 q (Or.inl hq)
    · have : gH N1 ≤ q := hq
      omega
  · show gK M2 q = 0
    rcases hle.2.2.1 q (Or.inl hq) with h1 | h1
    · exact i8 q h1
    · by_cases h2 : gK M2 q = 0
      · exact h2
      · have := hb q h2
        omega
theorem LI.swap {h0 : Nat} {G : EG} {M1 M2 : Mem} (h : LI h0 G M1 M2) : LI h0 G M2 M1 := by
  obtain ⟨i1, i2, i3, i4, i5, i6, i7, i8, i9, i10⟩ := h
  refine ⟨i1.symm, i2.symm, by omega, by omega, by omega, i7, i6, fun q hq => ?_, i10, i9⟩
  by_cases h2 : gK M1 q = 0
  · exact h2
  · exact absurd (i8 q h2) hq
theorem TL.swap {z : LX} {M1 M2 : Mem} {L : List (Nat × Value)} {st : List Value} {pc : Nat} (h : TL z M2 M1 L st pc) : TL z M1 M2 L st pc := by
  intro Z
  have h := h Z
  obtain ⟨p, l, e, s, m, below, meth, c, D, ac, G, b, Ln, xs⟩ := z
  intro hI H locs ls h1 h2 hS hl
  have r := h hI.swap H locs ls h2 h1 hS hl
  have e1 : gH M1 = gH M2 := hI.1
  have e2 : gS M1 = gS M2 := hI.2.1
  rw [e1, e2]
  exact r
/-- a call of the law on one of its two objects: the object's kind, the room; the other memory is told of the heap's growth -/
def lcl {ρ β : Type} (h0 : Nat) (Mo : Mem) (p : Prop) [Decidable p] (o : Option (Mem × ρ)) (k : Mem → Mem → ρ → Option β) : Option β := if p then (match o with
  | none => none
  | some q => if gH q.1 ≤ h0 + 600000 ∧ gS q.1 ≤ 7302250 then k q.1 (sH Mo (gH q.1) (gS q.1)) q.2 else none) else none
theorem lcl_e {ρ β : Type} {h0 : Nat} {Mo : Mem} {p : Prop} [Decidable p] {o : Option (Mem × ρ)} {k : Mem → Mem → ρ → Option β} {res : β} (h : lcl h0 Mo p o k = some res) : ∃ N1 r, p ∧ o = some (N1, r) ∧ gH N1 ≤ h0 + 600000 ∧ gS N1 ≤ 7302250 ∧ k N1 (sH Mo (gH N1) (gS N1)) r = some res := by
  unfold lcl at h
  by_cases hp : p
  · rw [if_pos hp] at h
    cases o with
    | none => cases h
    | some q =>
      dsimp only at h
      by_cases hg : gH q.1 ≤ h0 + 600000 ∧ gS q.1 ≤ 7302250
      · rw [if_pos hg] at h
        exact ⟨q.1, q.2, hp, rfl, hg.1, hg.2, h⟩
      · rw [if_neg hg] at h
        cases h
  · rw [if_neg hp] at h
    cases h
theorem l_callV0 {z : LX} {pc : Nat} {M1 M2 : Mem} {L : List (Nat × Value)} {st : List Value} {y : MethodName} {Py : MP} {n ix a : Nat} {ci N : Nat} {Tb : u_T} (hc : vwCl[ci]? = some (y.cls, Tb, N)) (hc14 : ci < 14) {As stk : List Value} {vc : Option Value} {N1 : Mem} (hk : gK M1 a = ci + 1) (hK : Kt y Py M1 [(a, ci + 1)] (.ref a :: As) (vc, N1, lxG z)) (w1 : Cond.methodLink R_law ix y ∈ lw_g) (w2 : Cond.instanceMethod y ∈ lw_g) (w3 : Cond.selects y.cls y y ∈ lw_g) (w4 : Cond.initialized y.cls ∈ lw_g) (w5 : Cond.code y Py.2.1 Py.2.2.1 Py.2.2.2.1 ∈ lw_g)(hd1 : y.cls ≠ "java/lang/invoke/MethodHandle" ∧ y.cls ≠ "java/lang/invoke/VarHandle" ∧ (parseMethodDescriptor y.desc).map (fun d => d.parameters.length) = some n)
    (hroom : Py.2.2.2.2.1 + 1 ≤ 2048 ∧ 8 + (Py.2.2.1 + 11) + Py.2.2.2.2.2 ≤ 84000) (hn : As.length = n) (hst : stk = As.reverse ++ .ref a :: st) (hcat : (st.map fun v => v.category).sum ≤ 8) (hd : decode code pc = .ok (.invokevirtual ix, 3)) (g1 : gH N1 ≤ lxH z + 600000) (g2 : gS N1 ≤ 7302250) (kk : TL z N1 (sH M2 (gH N1) (gS N1)) L (vc.toList ++ st) (pc + 3)) : TL z M1 M2 L stk pc := by
  have q1 := hK.1
  dsimp only at q1
  intro Z
  have kk := kk Z
  obtain ⟨p, l, e, s, m, below, meth, c, D, ac, G, b, Ln, xs⟩ := z
  intro hI H locs ls h1 h2 hS hl
  obtain ⟨i1, i2, i3, i4, i5, i6, i7, i8, i9, i10⟩ := id hI
  intro T hT X
  have hrun := va_runV (e := e) (below := below) (meth := meth) (As := As) (rest := st) (H := H) (locs := locs) (cells := gH M1 - s.heap.size) (slots := gS M1) (R := room_1) (g := F0 m pc ls stk) ⟨Z.1, Z.2.1, Z.2.2.2.1, Z.2.2.2.2.1, Z.2.2.2.2.2.1⟩ (hK.2 l D ac) (cwV n Z.2.2.2.2.2.1 (C := y.cls) (wsV_good w1 w2 w3 w4 w5) rfl rfl rfl ⟨rfl, hd1⟩ ⟨Nat.le_trans hroom.1 (Nat.le_of_ble_eq_true rfl), Nat.le_trans hroom.2 (Nat.le_of_ble_eq_true rfl)⟩) ⟨PcG.blind, h1.cell Z.2.2.2.2.2.2.2.2.2.1 hc hc14 hk, fun U hU hW => ⟨rfl, by rw [hU]; exact h1, va_K.moved hW.alike Z.2.2.2.2.2.2.2.2.2.1, by rw [hU]; exact ((Z.2.2.2.2.2.2.2.2.2.2.1.kept (fun a g1 g2 => hS.2.1 a g1 g2)).narrow i6).warm hW, i9, kinds_one hk⟩⟩ rfl hn hl.1 hst (lv_room hcat) hd ⟨by show gH M1 - s.heap.size + (gH N1 - gH M1) ≤ 600000; have : gH N1 ≤ s.heap.size + 600000 := g1; omega, by show gS M1 + (gS N1 - gS M1) ≤ 7302250; omega⟩
  obtain ⟨v', st₀, t, T', Lq, j0, X', hL, e1, e2, ⟨hv, hp, ⟨hz, hkk⟩, hle⟩, stp⟩ := hrun T hT X
  cases hv
  rw [j0] at hz hkk
  have hb2 : ∀ a, gK M2 a ≠ 0 → a < gH M2 := h2.2.1
  have hH1 : T'.heap.size = gH N1 := by rw [e1]; exact hp.1
  have hS1 : va_S (fun q => s.heap.size ≤ q) s.heap T'.heap (locs ++ Lq) := ⟨Nat.le_trans hS.1 (by rw [e1]; exact hz), fun q k1 k2 => by rw [e1, hkk q (Nat.lt_of_lt_of_le k1 hS.1) (fun z9 => k2 (i6 q z9))]; exact hS.2.1 q k1 k2, fun q hq => by
      rcases List.mem_append.mp hq with h | h
      · exact hS.2.2 q h
      · exact i6 _ (hL q h)⟩
  have r := kk (hI.call hle hb2 g1 g2) T'.heap (locs ++ Lq) ls (by rw [e1]; exact hp) (h2.other i8 i1 (fun q k1 k2 => by rw [e1]; exact hkk q k1 k2) hH1 (by have := hle.1; omega)) hS1 hl
  have x1 : gH N1 - s.heap.size = gH M1 - s.heap.size + (gH N1 - gH M1) := by omega
  have x2 : gS N1 = gS M1 + (gS N1 - gS M1) := by omega
  obtain ⟨t2, a1, b1⟩ := r T' rfl (by rw [x1, x2]; exact X')
  exact ⟨t2, stp t2 a1, b1⟩
theorem l_callV_I1 {z : LX} {pc : Nat} {M1 M2 : Mem} {L : List (Nat × Value)} {st : List Value} {y : MethodName} {Py : MP} {n ix a : Nat} {ci N : Nat} {Tb : u_T} (hc : vwCl[ci]? = some (y.cls, Tb, N)) (hc14 : ci < 14) {As stk : List Value} {o : Option (Mem × Int32)} {β : Type} {kq : Mem → Mem → Int32 → Option β} {res : β} (hK : ∀ q, o = some q → Kt y Py M1 [(a, ci + 1)] (.ref a :: As) (RI (lxG z) q)) (w1 : Cond.methodLink R_law ix y ∈ lw_g) (w2 : Cond.instanceMethod y ∈ lw_g) (w3 : Cond.selects y.cls y y ∈ lw_g) (w4 : Cond.initialized y.cls ∈ lw_g) (w5 : Cond.code y Py.2.1 Py.2.2.1 Py.2.2.2.1 ∈ lw_g)(hd1 : y.cls ≠ "java/lang/invoke/MethodHandle" ∧ y.cls ≠ "java/lang/invoke/VarHandle" ∧ (parseMethodDescriptor y.desc).map (fun d => d.parameters.length) = some n)
    (hroom : Py.2.2.2.2.1 + 1 ≤ 2048 ∧ 8 + (Py.2.2.1 + 11) + Py.2.2.2.2.2 ≤ 84000) (hn : As.length = n) (hst : stk = As.reverse ++ .ref a :: st) (hcat : (st.map fun v => v.category).sum ≤ 8) (hd : decode code pc = .ok (.invokevirtual ix, 3)) (hF : lcl (lxH z) M2 (gK M1 a = ci + 1) o kq = some res) (kk : ∀ N1 N2 r, kq N1 N2 r = some res → TL z N1 N2 L (.int r :: st) (pc + 3)) : TL z M1 M2 L stk pc := by
  obtain ⟨N1, r, hk, e, g1, g2, hF⟩ := lcl_e hF
  exact l_callV0 hc hc14 hk (hK _ e) w1 w2 w3 w4 w5 hd1 hroom hn hst hcat hd g1 g2 (kk _ _ r hF)
theorem l_callV_I2 {z : LX} {pc : Nat} {M1 M2 : Mem} {L : List (Nat × Value)} {st : List Value} {y : MethodName} {Py : MP} {n ix a : Nat} {ci N : Nat} {Tb : u_T} (hc : vwCl[ci]? = some (y.cls, Tb, N)) (hc14 : ci < 14) {As stk : List Value} {o : Option (Mem × Int32)} {β : Type} {kq : Mem → Mem → Int32 → Option β} {res : β} (hK : ∀ q, o = some q → Kt y Py M2 [(a, ci + 1)] (.ref a :: As) (RI (lxG z) q)) (w1 : Cond.methodLink R_law ix y ∈ lw_g) (w2 : Cond.instanceMethod y ∈ lw_g) (w3 : Cond.selects y.cls y y ∈ lw_g) (w4 : Cond.initialized y.cls ∈ lw_g) (w5 : Cond.code y Py.2.1 Py.2.2.1 Py.2.2.2.1 ∈ lw_g)(hd1 : y.cls ≠ "java/lang/invoke/MethodHandle" ∧ y.cls ≠ "java/lang/invoke/VarHandle" ∧ (parseMethodDescriptor y.desc).map (fun d => d.parameters.length) = some n)
    (hroom : Py.2.2.2.2.1 + 1 ≤ 2048 ∧ 8 + (Py.2.2.1 + 11) + Py.2.2.2.2.2 ≤ 84000) (hn : As.length = n) (hst : stk = As.reverse ++ .ref a :: st) (hcat : (st.map fun v => v.category).sum ≤ 8) (hd : decode code pc = .ok (.invokevirtual ix, 3)) (hF : lcl (lxH z) M1 (gK M2 a = ci + 1) o kq = some res) (kk : ∀ N1 N2 r, kq N1 N2 r = some res → TL z N2 N1 L (.int r :: st) (pc + 3)) : TL z M1 M2 L stk pc := by
  obtain ⟨N1, r, hk, e, g1, g2, hF⟩ := lcl_e hF
  refine TL.swap ?_
  exact l_callV0 hc hc14 hk (hK _ e) w1 w2 w3 w4 w5 hd1 hroom hn hst hcat hd g1 g2 (TL.swap (kk _ _ r hF))
theorem l_callV_J1 {z : LX} {pc : Nat} {M1 M2 : Mem} {L : List (Nat × Value)} {st : List Value} {y : MethodName} {Py : MP} {n ix a : Nat} {ci N : Nat} {Tb : u_T} (hc : vwCl[ci]? = some (y.cls, Tb, N)) (hc14 : ci < 14) {As stk : List Value} {o : Option (Mem × Int64)} {β : Type} {kq : Mem → Mem → Int64 → Option β} {res : β} (hK : ∀ q, o = some q → Kt y Py M1 [(a, ci + 1)] (.ref a :: As) (RJ (lxG z) q)) (w1 : Cond.methodLink R_law ix y ∈ lw_g) (w2 : Cond.instanceMethod y ∈ lw_g) (w3 : Cond.selects y.cls y y ∈ lw_g) (w4 : Cond.initialized y.cls ∈ lw_g) (w5 : Cond.code y Py.2.1 Py.2.2.1 Py.2.2.2.1 ∈ lw_g)(hd1 : y.cls ≠ "java/lang/invoke/MethodHandle" ∧ y.cls ≠ "java/lang/invoke/VarHandle" ∧ (parseMethodDescriptor y.desc).map (fun d => d.parameters.length) = some n)
    (hroom : Py.2.2.2.2.1 + 1 ≤ 2048 ∧ 8 + (Py.2.2.1 + 11) + Py.2.2.2.2.2 ≤ 84000) (hn : As.length = n) (hst : stk = As.reverse ++ .ref a :: st) (hcat : (st.map fun v => v.category).sum ≤ 8) (hd : decode code pc = .ok (.invokevirtual ix, 3)) (hF : lcl (lxH z) M2 (gK M1 a = ci + 1) o kq = some res) (kk : ∀ N1 N2 r, kq N1 N2 r = some res → TL z N1 N2 L (.long r :: st) (pc + 3)) : TL z M1 M2 L stk pc := by
  obtain ⟨N1, r, hk, e, g1, g2, hF⟩ := lcl_e hF
  exact l_callV0 hc hc14 hk (hK _ e) w1 w2 w3 w4 w5 hd1 hroom hn hst hcat hd g1 g2 (kk _ _ r hF)
theorem l_callV_J2 {z : LX} {pc : Nat} {M1 M2 : Mem} {L : List (Nat × Value)} {st : List Value} {y : MethodName} {Py : MP} {n ix a : Nat} {ci N : Nat} {Tb : u_T} (hc : vwCl[ci]? = some (y.cls, Tb, N)) (hc14 : ci < 14) {As stk : List Value} {o : Option (Mem × Int64)} {β : Type} {kq : Mem → Mem → Int64 → Option β} {res : β} (hK : ∀ q, o = some q → Kt y Py M2 [(a, ci + 1)] (.ref a :: As) (RJ (lxG z) q)) (w1 : Cond.methodLink R_law ix y ∈ lw_g) (w2 : Cond.instanceMethod y ∈ lw_g) (w3 : Cond.selects y.cls y y ∈ lw_g) (w4 : Cond.initialized y.cls ∈ lw_g) (w5 : Cond.code y Py.2.1 Py.2.2.1 Py.2.2.2.1 ∈ lw_g)(hd1 : y.cls ≠ "java/lang/invoke/MethodHandle" ∧ y.cls ≠ "java/lang/invoke/VarHandle" ∧ (parseMethodDescriptor y.desc).map (fun d => d.parameters.length) = some n)
    (hroom : Py.2.2.2.2.1 + 1 ≤ 2048 ∧ 8 + (Py.2.2.1 + 11) + Py.2.2.2.2.2 ≤ 84000) (hn : As.length = n) (hst : stk = As.reverse ++ .ref a :: st) (hcat : (st.map fun v => v.category).sum ≤ 8) (hd : decode code pc = .ok (.invokevirtual ix, 3)) (hF : lcl (lxH z) M1 (gK M2 a = ci + 1) o kq = some res) (kk : ∀ N1 N2 r, kq N1 N2 r = some res → TL z N2 N1 L (.long r :: st) (pc + 3)) : TL z M1 M2 L stk pc := by
  obtain ⟨N1, r, hk, e, g1, g2, hF⟩ := lcl_e hF
  refine TL.swap ?_
  exact l_callV0 hc hc14 hk (hK _ e) w1 w2 w3 w4 w5 hd1 hroom hn hst hcat hd g1 g2 (TL.swap (kk _ _ r hF))
theorem l_callI0 {z : LX} {pc : Nat} {M1 M2 : Mem} {L : List (Nat × Value)} {st : List Value} {y : MethodName} {Py : MP} {n ix a : Nat} {ci : Nat} {As stk : List Value} {vc : Option Value} {N1 : Mem} (hk : gK M1 a = ci + 1) (hK : Kt y Py M1 [(a, ci + 1)] (.ref a :: As) (vc, N1, lxG z)) (w1 : Cond.methodLink R_law ix y ∈ lw_g) (w2 : Cond.instanceMethod y ∈ lw_g) (w4 : Cond.initialized y.cls ∈ lw_g) (w5 : Cond.code y Py.2.1 Py.2.2.1 none ∈ lw_g) (hP4 : Py.2.2.2.1 = none) (hin : y.name = "<init>")(hd1 : y.cls ≠ "java/lang/invoke/MethodHandle" ∧ y.cls ≠ "java/lang/invoke/VarHandle" ∧ (parseMethodDescriptor y.desc).map (fun d => d.parameters.length) = some n)
    (hroom : Py.2.2.2.2.1 + 1 ≤ 2048 ∧ 8 + (Py.2.2.1 + 11) + Py.2.2.2.2.2 ≤ 84000) (hn : As.length = n) (hst : stk = As.reverse ++ .ref a :: st) (hcat : (st.map fun v => v.category).sum ≤ 8) (hd : decode code pc = .ok (.invokespecial ix, 3)) (g1 : gH N1 ≤ lxH z + 600000) (g2 : gS N1 ≤ 7302250) (kk : TL z N1 (sH M2 (gH N1) (gS N1)) L (vc.toList ++ st) (pc + 3)) : TL z M1 M2 L stk pc := by
  have q1 := hK.1
  dsimp only at q1
  intro Z
  have kk := kk Z
  obtain ⟨p, l, e, s, m, below, meth, c, D, ac, G, b, Ln, xs⟩ := z
  intro hI H locs ls h1 h2 hS hl
  obtain ⟨i1, i2, i3, i4, i5, i6, i7, i8, i9, i10⟩ := id hI
  intro T hT X
  have hrun := va_runI (e := e) (below := below) (meth := meth) (As := As) (rest := st) (H := H) (locs := locs) (cells := gH M1 - s.heap.size) (slots := gS M1) (R := room_1) (g := F0 m pc ls stk) ⟨Z.1, Z.2.1, Z.2.2.2.1, Z.2.2.2.2.1, Z.2.2.2.2.2.1⟩ (by have h9 := hK.2 l D ac; rw [hP4] at h9; exact h9) (cwI n Z.2.2.2.2.2.1 (lw_g_good w5) rfl rfl rfl (Z.2.2.2.2.2.1 _ w4) (Z.2.2.2.2.2.1 _ w1) (Z.2.2.2.2.2.1 _ w2) hin hd1 ⟨Nat.le_trans hroom.1 (Nat.le_of_ble_eq_true rfl), Nat.le_trans hroom.2 (Nat.le_of_ble_eq_true rfl)⟩) ⟨PcG.blind, fun U hU hW => ⟨rfl, by rw [hU]; exact h1, va_K.moved hW.alike Z.2.2.2.2.2.2.2.2.2.1, by rw [hU]; exact ((Z.2.2.2.2.2.2.2.2.2.2.1.kept (fun a g1 g2 => hS.2.1 a g1 g2)).narrow i6).warm hW, i9, kinds_one hk⟩⟩ rfl hn hl.1 hst (lv_room hcat) hd ⟨by show gH M1 - s.heap.size + (gH N1 - gH M1) ≤ 600000; have : gH N1 ≤ s.heap.size + 600000 := g1; omega, by show gS M1 + (gS N1 - gS M1) ≤ 7302250; omega⟩
  obtain ⟨v', st₀, t, T', Lq, j0, X', hL, e1, e2, ⟨hv, hp, ⟨hz, hkk⟩, hle⟩, stp⟩ := hrun T hT X
  cases hv
  rw [j0] at hz hkk
  have hb2 : ∀ a, gK M2 a ≠ 0 → a < gH M2 := h2.2.1
  have hH1 : T'.heap.size = gH N1 := by rw [e1]; exact hp.1
  have hS1 : va_S (fun q => s.heap.size ≤ q) s.heap T'.heap (locs ++ Lq) := ⟨Nat.le_trans hS.1 (by rw [e1]; exact hz), fun q k1 k2 => by rw [e1, hkk q (Nat.lt_of_lt_of_le k1 hS.1) (fun z9 => k2 (i6 q z9))]; exact hS.2.1 q k1 k2, fun q hq => by
      rcases List.mem_append.mp hq with h | h
      · exact hS.2.2 q h
      · exact i6 _ (hL q h)⟩
  have r := kk (hI.call hle hb2 g1 g2) T'.heap (locs ++ Lq) ls (by rw [e1]; exact hp) (h2.other i8 i1 (fun q k1 k2 => by rw [e1]; exact hkk q k1 k2) hH1 (by have := hle.1; omega)) hS1 hl
  have x1 : gH N1 - s.heap.size = gH M1 - s.heap.size + (gH N1 - gH M1) := by omega
  have x2 : gS N1 = gS M1 + (gS N1 - gS M1) := by omega
  obtain ⟨t2, a1, b1⟩ := r T' rfl (by rw [x1, x2]; exact X')
  exact ⟨t2, stp t2 a1, b1⟩
theorem l_callI_V1 {z : LX} {pc : Nat} {M1 M2 : Mem} {L : List (Nat × Value)} {st : List Value} {y : MethodName} {Py : MP} {n ix a : Nat} {ci : Nat} {As stk : List Value} {o : Option (Mem × Unit)} {β : Type} {kq : Mem → Mem → Unit → Option β} {res : β} (hK : ∀ q, o = some q → Kt y Py M1 [(a, ci + 1)] (.ref a :: As) (RV (lxG z) q)) (w1 : Cond.methodLink R_law ix y ∈ lw_g) (w2 : Cond.instanceMethod y ∈ lw_g) (w4 : Cond.initialized y.cls ∈ lw_g) (w5 : Cond.code y Py.2.1 Py.2.2.1 none ∈ lw_g) (hP4 : Py.2.2.2.1 = none) (hin : y.name = "<init>")(hd1 : y.cls ≠ "java/lang/invoke/MethodHandle" ∧ y.cls ≠ "java/lang/invoke/VarHandle" ∧ (parseMethodDescriptor y.desc).map (fun d => d.parameters.length) = some n)
    (hroom : Py.2.2.2.2.1 + 1 ≤ 2048 ∧ 8 + (Py.2.2.1 + 11) + Py.2.2.2.2.2 ≤ 84000) (hn : As.length = n) (hst : stk = As.reverse ++ .ref a :: st) (hcat : (st.map fun v => v.category).sum ≤ 8) (hd : decode code pc = .ok (.invokespecial ix, 3)) (hF : lcl (lxH z) M2 (gK M1 a = ci + 1) o kq = some res) (kk : ∀ N1 N2 r, kq N1 N2 r = some res → TL z N1 N2 L st (pc + 3)) : TL z M1 M2 L stk pc := by
  obtain ⟨N1, r, hk, e, g1, g2, hF⟩ := lcl_e hF
  exact l_callI0 hk (hK _ e) w1 w2 w4 w5 hP4 hin hd1 hroom hn hst hcat hd g1 g2 (kk _ _ r hF)
theorem l_callI_V2 {z : LX} {pc : Nat} {M1 M2 : Mem} {L : List (Nat × Value)} {st : List Value} {y : MethodName} {Py : MP} {n ix a : Nat} {ci : Nat} {As stk : List Value} {o : Option (Mem × Unit)} {β : Type} {kq : Mem → Mem → Unit → Option β} {res : β} (hK : ∀ q, o = some q → Kt y Py M2 [(a, ci + 1)] (.ref a :: As) (RV (lxG z) q)) (w1 : Cond.methodLink R_law ix y ∈ lw_g) (w2 : Cond.instanceMethod y ∈ lw_g) (w4 : Cond.initialized y.cls ∈ lw_g) (w5 : Cond.code y Py.2.1 Py.2.2.1 none ∈ lw_g) (hP4 : Py.2.2.2.1 = none) (hin : y.name = "<init>")(hd1 : y.cls ≠ "java/lang/invoke/MethodHandle" ∧ y.cls ≠ "java/lang/invoke/VarHandle" ∧ (parseMethodDescriptor y.desc).map (fun d => d.parameters.length) = some n)
    (hroom : Py.2.2.2.2.1 + 1 ≤ 2048 ∧ 8 + (Py.2.2.1 + 11) + Py.2.2.2.2.2 ≤ 84000) (hn : As.length = n) (hst : stk = As.reverse ++ .ref a :: st) (hcat : (st.map fun v => v.category).sum ≤ 8) (hd : decode code pc = .ok (.invokespecial ix, 3)) (hF : lcl (lxH z) M1 (gK M2 a = ci + 1) o kq = some res) (kk : ∀ N1 N2 r, kq N1 N2 r = some res → TL z N2 N1 L st (pc + 3)) : TL z M1 M2 L stk pc := by
  obtain ⟨N1, r, hk, e, g1, g2, hF⟩ := lcl_e hF
  refine TL.swap ?_
  exact l_callI0 hk (hK _ e) w1 w2 w4 w5 hP4 hin hd1 hroom hn hst hcat hd g1 g2 (TL.swap (kk _ _ r hF))
/-- the law makes one of its objects -/
def lnew {β : Type} (h0 : Nat) (Mo M : Mem) (k n : Nat) (f : Nat → Mem → Mem → Option β) : Option β := if gH M + 1 ≤ h0 + 600000 ∧ gS M + n ≤ 7302250 then f (gH M) (nO M k n) (sH Mo (gH M + 1) (gS M + n)) else none
theorem l_new1 {z : LX} {pc : Nat} {M1 M2 : Mem} {L : List (Nat × Value)} {st : List Value} {C : String} {Tb : u_T} {N ci ix : Nat} {β : Type} {kq : Nat → Mem → Mem → Option β} {res : β} (hin : ∀ w ∈ u_ws C Tb N, w ∈ lw_g) (ty0 : Nat → FieldType) (hty : ∀ k, k < N → parseFieldDescriptor (Tb k).2.2.1 = some (ty0 k)) (hc : vwCl[ci]? = some (C, Tb, N)) (hN : nfl ci = N) (hc14 : ci < 14)
    (hcl : Cond.classLink R_law ix C ∈ lw_g) (hinst : Cond.instantiable C N ∈ lw_g) (hini : Cond.initialized C ∈ lw_g) (hdf : ∀ j, j < N → defaultValue (ty0 j) = (if fkd ci j = 0 then .int 0 else if fkd ci j = 1 then .long 0 else .null : Value))
    (hd : decode code pc = .ok (.new ix, 3)) (hF : lnew (lxH z) M2 M1 (ci + 1) N kq = some res) (kk : ∀ a N1 N2, kq a N1 N2 = some res → TL z N1 N2 L (.ref a :: st) (pc + 3)) : TL z M1 M2 L st pc := by
  unfold lnew at hF
  by_cases hg : gH M1 + 1 ≤ lxH z + 600000 ∧ gS M1 + N ≤ 7302250
  case neg =>
    rw [if_neg hg] at hF
    cases hF
  rw [if_pos hg] at hF
  have kk := kk _ _ _ hF
  intro Z
  have kk := kk Z
  obtain ⟨p, l, e, s, m, below, meth, c, D, ac, G, b, Ln, xs⟩ := z
  intro hI H locs ls h1 h2 hS hl
  obtain ⟨i1, i2, i3, i4, i5, i6, i7, i8, i9, i10⟩ := id hI
  have hg1 : gH M1 + 1 ≤ s.heap.size + 600000 := hg.1
  have hKW := Z.2.2.2.2.2.2.2.2.2.1
  have hts := Z.2.2.2.2.2.1
  have hKn := hKW.1 ci _ hc
  refine W.newcK Z.1 Z.2.1 Z.2.2.2.2.1 (hts _ hcl) (hts _ hinst) (hts _ hini) rfl hd (by show gH M1 - s.heap.size + 1 ≤ 600000; omega) (by show gS M1 + N ≤ 7302250; exact hg.2) hKn.2.1 h1.1 fun H1 kC hkC e1 z1 o1 => ?_
  have ez : H1.size = H.size + 1 := by rw [z1, h1.1]
  have eo : ∀ q : Nat, q < H.size → H1[q]? = H[q]? := fun q hq => o1 q (by rw [← h1.1]; exact hq)
  have hle : Le M1 (nO M1 (ci + 1) N) := Le.rf.grow (M1 := nO M1 (ci + 1) N) h1.2.1 rfl rfl rfl rfl
  have hb2 : ∀ a, gK M2 a ≠ 0 → a < gH M2 := h2.2.1
  have r := kk (hI.call hle hb2 hg.1 hg.2) H1 locs ls (h1.grow (k := ci + 1) (by omega) rfl rfl (fun _ _ => rfl) (fun _ _ => rfl) (fun _ _ => rfl) (fun _ _ => rfl) (fun x d j hxx => ?_) ez eo ?_ (fun h => by omega) (fun h => by omega) (fun h => by omega) (fun h => by omega) (fun h => by omega)) (h2.other i8 i1 (fun q k1 _ => eo q k1) (by rw [z1]) (by omega)) (hS.grow (by omega) eo) hl
  · have x1 : gH (nO M1 (ci + 1) N) - s.heap.size = gH M1 - s.heap.size + 1 := by show gH M1 + 1 - s.heap.size = _; omega
    rw [x1] at r
    exact r
  · unfold fv
    have g1 : gI (nO M1 (ci + 1) N) (100 * d + j) x = gI M1 (100 * d + j) x := if_neg hxx
    have g2 : gJ (nO M1 (ci + 1) N) (100 * d + j) x = gJ M1 (100 * d + j) x := if_neg hxx
    have g3 : gR (nO M1 (ci + 1) N) (100 * d + j) x = gR M1 (100 * d + j) x := if_neg hxx
    rw [g1, g2, g3]
  · intro c' hc' hc14'
    have hcc : c' = ci := by omega
    subst hcc
    rw [hN]
    refine (u_born ty0 hts hin hKn hkC e1 hty).to fun j hj => ?_
    rw [hdf j hj]
    unfold fv
    have g1 : gI (nO M1 (c' + 1) N) (100 * c' + j) (gH M1) = 0 := if_pos rfl
    have g2 : gJ (nO M1 (c' + 1) N) (100 * c' + j) (gH M1) = 0 := if_pos rfl
    have g3 : gR (nO M1 (c' + 1) N) (100 * c' + j) (gH M1) = none := if_pos rfl
    rw [g1, g2, g3]
    rfl
theorem l_new2 {z : LX} {pc : Nat} {M1 M2 : Mem} {L : List (Nat × Value)} {st : List Value} {C : String} {Tb : u_T} {N ci ix : Nat} {β : Type} {kq : Nat → Mem → Mem → Option β} {res : β} (hin : ∀ w ∈ u_ws C Tb N, w ∈ lw_g) (ty0 : Nat → FieldType) (hty : ∀ k, k < N → parseFieldDescriptor (Tb k).2.2.1 = some (ty0 k)) (hc : vwCl[ci]? = some (C, Tb, N)) (hN : nfl ci = N) (hc14 : ci < 14)
    (hcl : Cond.classLink R_law ix C ∈ lw_g) (hinst : Cond.instantiable C N ∈ lw_g) (hini : Cond.initialized C ∈ lw_g) (hdf : ∀ j, j < N → defaultValue (ty0 j) = (if fkd ci j = 0 then .int 0 else if fkd ci j = 1 then .long 0 else .null : Value))
    (hd : decode code pc = .ok (.new ix, 3)) (hF : lnew (lxH z) M1 M2 (ci + 1) N kq = some res) (kk : ∀ a N1 N2, kq a N1 N2 = some res → TL z N2 N1 L (.ref a :: st) (pc + 3)) : TL z M1 M2 L st pc :=
  TL.swap (l_new1 hin ty0 hty hc hN hc14 hcl hinst hini hdf hd hF (fun a N1 N2 h => TL.swap (kk a N1 N2 h)))
