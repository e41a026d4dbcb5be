theorem ok_b {α β : Type} {a : α} {k : α → Option β} {Q : β → Prop} (h : Ok (k a) Q) : Ok (bnd a k) Q := h
theorem ok_g {β : Type} {p : Prop} [Decidable p] {k : Option β} {Q : β → Prop} (hp : p) (h : Ok k Q) : Ok (grd p k) Q := ok_grd.mpr ⟨hp, h⟩
theorem ok_c {ρ β : Type} {o : Option (Mem × ρ)} {k : Mem → ρ → Option β} {Q : β → Prop} (h : Ok o (fun q => Ok (k q.1 q.2) Q)) : Ok (cl o k) Q := ok_cl.mpr h
theorem ok_s {β : Type} {b : β} {Q : β → Prop} (h : Q b) : Ok (some b) Q := ok_some.mpr h
/-- what is made so far lies at x and behind it -/
def Z (x e n s : Nat) (tab : List (Nat × Nat × Nat)) (knd : List (Nat × Nat)) (row : List (Nat × Nat × Nat)) (lst : List Nat) (ι α : Nat → Nat → Int32) (ω : Nat → Nat → Option Nat) (M : Mem) : Prop :=
  (gH M = x + n ∧ gS M = s ∧ gE M = e) ∧ (gI M = ι ∧ gA M = α ∧ gO M = ω ∧ (∀ f y, gJ M f y = 0) ∧ ∀ y i, gB M y i = 0) ∧
  (∀ t ∈ tab, t.2.1 < n ∧ gR M t.1 (x + t.2.1) = some (x + t.2.2)) ∧ (∀ t ∈ knd, t.1 < n ∧ gK M (x + t.1) = t.2) ∧ (∀ t ∈ row, t.1 < n ∧ gK M (x + t.1) = t.2.1 ∧ gN M (x + t.1) = t.2.2) ∧ (∀ l ∈ lst, l < n ∧ gR M 1 (x + l) = some e) ∧
  (∀ a, ¬ gK M a = 0 → a < x + n) ∧ (gK M e = 0 ∧ e < x) ∧ (∀ f y, x + n ≤ y → ι f y = 0) ∧ (∀ y i, x + n ≤ y → α y i = 0) ∧ ∀ y i, x + n ≤ y → ω y i = none
section ZZ
variable {x e n s : Nat} {tab row : List (Nat × Nat × Nat)} {knd : List (Nat × Nat)} {lst : List Nat} {ι α : Nat → Nat → Int32} {ω : Nat → Nat → Option Nat} {M : Mem}
theorem Z.h (z : Z x e n s tab knd row lst ι α ω M) : gH M = x + n := z.1.1
theorem Z.ee (z : Z x e n s tab knd row lst ι α ω M) : gE M = e := z.1.2.2
theorem Z.r (z : Z x e n s tab knd row lst ι α ω M) {f j i : Nat} (h : (f, j, i) ∈ tab) : gR M f (x + j) = some (x + i) := (z.2.2.1 _ h).2
theorem Z.r0 (z : Z x e n s tab knd row lst ι α ω M) {f i : Nat} (h : (f, 0, i) ∈ tab) : gR M f x = some (x + i) := (z.2.2.1 _ h).2
theorem Z.k (z : Z x e n s tab knd row lst ι α ω M) {j k : Nat} (h : (j, k) ∈ knd) : gK M (x + j) = k := (z.2.2.2.1 _ h).2
theorem Z.rk (z : Z x e n s tab knd row lst ι α ω M) {j k l : Nat} (h : (j, k, l) ∈ row) : gK M (x + j) = k := (z.2.2.2.2.1 _ h).2.1
theorem Z.rn (z : Z x e n s tab knd row lst ι α ω M) {j k l : Nat} (h : (j, k, l) ∈ row) : gN M (x + j) = l := (z.2.2.2.2.1 _ h).2.2
theorem z_nO (z : Z x e n s tab knd row lst ι α ω M) (k m : Nat) : Z x e (n + 1) (s + m) tab ((n, k) :: knd) row lst ι α ω (nO M k m) := by
  obtain ⟨⟨h1, h2, h3⟩, ⟨i1, i2, i3, i4, i5⟩, t1, t2, t3, t4, t5, ⟨t6, t7⟩, t8, t9, t10⟩ := z
  have eK : ∀ y, gK (nO M k m) y = if y = x + n then k else gK M y := fun y => by
    rw [← h1]
    rfl
  have eR : ∀ f y, gR (nO M k m) f y = if y = x + n then none else gR M f y := fun f y => by
    rw [← h1]
    rfl
  refine ⟨⟨?_, ?_, h3⟩, ⟨?_, i2, i3, fun f y => ?_, i5⟩, fun t ht => ?_, fun t ht => ?_, fun t ht => ?_, fun l hl => ?_, fun a ha => ?_, ⟨?_, t7⟩, fun f y hy => t8 f y (by omega), fun y i hy => t9 y i (by omega), fun y i hy => t10 y i (by omega)⟩
  · show gH M + 1 = _
    omega
  · show gS M + m = _
    omega
  · funext f y
    show (if y = gH M then 0 else gI M f y) = _
    rw [h1, i1]
    by_cases c : y = x + n
    · rw [if_pos c, t8 f y (by omega)]
    · rw [if_neg c]
  · show (if y = gH M then 0 else gJ M f y) = _
    by_cases c : y = gH M
    · rw [if_pos c]
    · rw [if_neg c, i4]
  · obtain ⟨a1, a2⟩ := t1 t ht
    rw [eR, if_neg (by omega)]
    exact ⟨by omega, a2⟩
  · rw [eK]
    rcases List.mem_cons.mp ht with c | c
    · rw [c]
      exact ⟨by show n < n + 1; omega, if_pos rfl⟩
    · obtain ⟨a1, a2⟩ := t2 t c
      rw [if_neg (by omega)]
      exact ⟨by omega, a2⟩
  · obtain ⟨a1, a2, a3⟩ := t3 t ht
    rw [eK, if_neg (by omega)]
    exact ⟨by omega, a2, a3⟩
  · obtain ⟨a1, a2⟩ := t4 l hl
    rw [eR, if_neg (by omega)]
    exact ⟨by omega, a2⟩
  · rw [eK] at ha
    by_cases c : a = x + n
    · omega
    · rw [if_neg c] at ha
      have := t5 a ha
      omega
  · rw [eK, if_neg (by omega)]
    exact t6
theorem z_nA (z : Z x e n s tab knd row lst ι α ω M) (k m : Nat) : Z x e (n + 1) (s + m) tab knd ((n, k, m) :: row) lst ι α ω (nA M k m) := by
  obtain ⟨⟨h1, h2, h3⟩, ⟨i1, i2, i3, i4, i5⟩, t1, t2, t3, t4, t5, ⟨t6, t7⟩, t8, t9, t10⟩ := z
  have eK : ∀ y, gK (nA M k m) y = if y = x + n then k else gK M y := fun y => by
    rw [← h1]
    rfl
  have eN : ∀ y, gN (nA M k m) y = if y = x + n then m else gN M y := fun y => by
    rw [← h1]
    rfl
  refine ⟨⟨?_, ?_, h3⟩, ⟨i1, ?_, ?_, i4, fun y i => ?_⟩, fun t ht => ⟨by have := (t1 t ht).1; omega, (t1 t ht).2⟩, fun t ht => ?_, fun t ht => ?_, fun l hl => ⟨by have := (t4 l hl).1; omega, (t4 l hl).2⟩, fun a ha => ?_, ⟨?_, t7⟩, fun f y hy => t8 f y (by omega), fun y i hy => t9 y i (by omega), fun y i hy => t10 y i (by omega)⟩
  · show gH M + 1 = _
    omega
  · show gS M + m = _
    omega
  · funext y i
    show (if y = gH M then 0 else gA M y i) = _
    rw [h1, i2]
    by_cases c : y = x + n
    · rw [if_pos c, t9 y i (by omega)]
    · rw [if_neg c]
  · funext y i
    show (if y = gH M then none else gO M y i) = _
    rw [h1, i3]
    by_cases c : y = x + n
    · rw [if_pos c, t10 y i (by omega)]
    · rw [if_neg c]
  · show (if y = gH M then 0 else gB M y i) = _
    by_cases c : y = gH M
    · rw [if_pos c]
    · rw [if_neg c, i5]
  · obtain ⟨a1, a2⟩ := t2 t ht
    rw [eK, if_neg (by omega)]
    exact ⟨by omega, a2⟩
  · rw [eK, eN]
    rcases List.mem_cons.mp ht with c | c
    · rw [c]
      exact ⟨by show n < n + 1; omega, if_pos rfl, if_pos rfl⟩
    · obtain ⟨a1, a2, a3⟩ := t3 t c
      rw [if_neg (by omega), if_neg (by omega)]
      exact ⟨by omega, a2, a3⟩
  · rw [eK] at ha
    by_cases c : a = x + n
    · omega
    · rw [if_neg c] at ha
      have := t5 a ha
      omega
  · rw [eK, if_neg (by omega)]
    exact t6
theorem z_sR (z : Z x e n s tab knd row lst ι α ω M) (f j i : Nat) (hj : j < n) (hf : ¬ f = 1) (hd : ∀ t ∈ tab, ¬ (t.1 = f ∧ t.2.1 = j)) : Z x e n s ((f, j, i) :: tab) knd row lst ι α ω (sR M f (x + j) (some (x + i))) := by
  obtain ⟨⟨h1, h2, h3⟩, ⟨i1, i2, i3, i4, i5⟩, t1, t2, t3, t4, t5, t6, t8, t9, t10⟩ := z
  refine ⟨⟨h1, h2, h3⟩, ⟨i1, i2, i3, i4, i5⟩, fun t ht => ?_, t2, t3, fun l hl => ?_, t5, t6, t8, t9, t10⟩
  · rw [gR_sR]
    rcases List.mem_cons.mp ht with c | c
    · rw [c]
      exact ⟨hj, if_pos ⟨rfl, rfl⟩⟩
    · obtain ⟨a1, a2⟩ := t1 t c
      rw [if_neg (fun w => hd t c ⟨w.1, by omega⟩)]
      exact ⟨a1, a2⟩
  · obtain ⟨a1, a2⟩ := t4 l hl
    rw [gR_sR, if_neg (fun w => hf w.1.symm)]
    exact ⟨a1, a2⟩
/-- an empty list begins -/
theorem z_sL (z : Z x e n s tab knd row lst ι α ω M) (l : Nat) (hl : l < n) (hd : ∀ t ∈ tab, ¬ t.1 = 1) (hι : ι 0 (x + l) = 0) : Z x e n s tab knd row (l :: lst) ι α ω (sR (sI M 0 (x + l) 0) 1 (x + l) (some (gE M))) := by
  obtain ⟨⟨h1, h2, h3⟩, ⟨i1, i2, i3, i4, i5⟩, t1, t2, t3, t4, t5, t6, t8, t9, t10⟩ := z
  refine ⟨⟨h1, h2, h3⟩, ⟨?_, i2, i3, i4, i5⟩, fun t ht => ?_, t2, t3, fun q hq => ?_, t5, t6, t8, t9, t10⟩
  · show gI (sI M 0 (x + l) 0) = _
    funext f y
    rw [gI_sI, i1]
    by_cases c : f = 0 ∧ y = x + l
    · rw [if_pos c, c.1, c.2, hι]
    · rw [if_neg c]
  · obtain ⟨a1, a2⟩ := t1 t ht
    rw [gR_sR, if_neg (fun w => hd t ht w.1)]
    exact ⟨a1, a2⟩
  · rw [gR_sR, h3]
    rcases List.mem_cons.mp hq with c | c
    · rw [c]
      exact ⟨hl, if_pos ⟨rfl, rfl⟩⟩
    · obtain ⟨a1, a2⟩ := t4 q c
      by_cases w : 1 = 1 ∧ x + q = x + l
      · exact ⟨a1, if_pos w⟩
      · rw [if_neg w]
        exact ⟨a1, a2⟩
theorem z_sI (z : Z x e n s tab knd row lst ι α ω M) (f j : Nat) (v : Int32) (hj : j < n) : Z x e n s tab knd row lst (up2 ι f (x + j) v) α ω (sI M f (x + j) v) := by
  obtain ⟨⟨h1, h2, h3⟩, ⟨i1, i2, i3, i4, i5⟩, t1, t2, t3, t4, t5, t6, t8, t9, t10⟩ := z
  refine ⟨⟨h1, h2, h3⟩, ⟨?_, i2, i3, i4, i5⟩, t1, t2, t3, t4, t5, t6, fun f1 y hy => ?_, t9, t10⟩
  · show up2 (gI M) f (x + j) v = _
    rw [i1]
  · rw [up2_at, if_neg (by omega)]
    exact t8 f1 y hy
theorem z_sA (z : Z x e n s tab knd row lst ι α ω M) (j i : Nat) (v : Int32) (hj : j < n) : Z x e n s tab knd row lst ι (up2 α (x + j) i v) ω (sA M (x + j) i v) := by
  obtain ⟨⟨h1, h2, h3⟩, ⟨i1, i2, i3, i4, i5⟩, t1, t2, t3, t4, t5, t6, t8, t9, t10⟩ := z
  refine ⟨⟨h1, h2, h3⟩, ⟨i1, ?_, i3, i4, i5⟩, t1, t2, t3, t4, t5, t6, t8, fun y k hy => ?_, t10⟩
  · show up2 (gA M) (x + j) i v = _
    rw [i2]
  · rw [up2_at, if_neg (by omega)]
    exact t9 y k hy
theorem z_nM (z : Z x e n s tab knd row lst ι α ω M) : Z x e (n + 26) (s + 25 + 250) tab knd ((n, 24, 25) :: ((List.range 25).map fun i => (n + 1 + i, 21, 10)) ++ row) lst ι α (fun y i => if y = x + n then (if i < 25 then some (x + n + 1 + i) else none) else ω y i) (nM M 25 10) := by
  obtain ⟨⟨h1, h2, h3⟩, ⟨i1, i2, i3, i4, i5⟩, t1, t2, t3, t4, t5, ⟨t6, t7⟩, t8, t9, t10⟩ := z
  have eK : ∀ y, gK (nM M 25 10) y = if y = x + n then 24 else if x + n < y ∧ y ≤ x + n + 25 then 21 else gK M y := fun y => by
    rw [← h1]
    rfl
  have eN : ∀ y, gN (nM M 25 10) y = if y = x + n then 25 else if x + n < y ∧ y ≤ x + n + 25 then 10 else gN M y := fun y => by
    rw [← h1]
    rfl
  refine ⟨⟨?_, ?_, h3⟩, ⟨i1, i2, ?_, i4, fun y i => ?_⟩, fun t ht => ⟨by have := (t1 t ht).1; omega, (t1 t ht).2⟩, fun t ht => ?_, fun t ht => ?_, fun l hl => ⟨by have := (t4 l hl).1; omega, (t4 l hl).2⟩, fun a ha => ?_, ⟨?_, t7⟩, fun f y hy => t8 f y (by omega), fun y i hy => t9 y i (by omega), fun y i hy => ?_⟩
  · show gH M + 1 + 25 = _
    omega
  · show gS M + 25 + 25 * 10 = _
    omega
  · funext y i
    show (if y = gH M then (if i < 25 then some (gH M + 1 + i) else none) else gO M y i) = _
    rw [h1, i3]
  · show (if gH M < y ∧ y ≤ gH M + 25 then 0 else gB M y i) = 0
    by_cases c : gH M < y ∧ y ≤ gH M + 25
    · rw [if_pos c]
    · rw [if_neg c, i5]
  · obtain ⟨a1, a2⟩ := t2 t ht
    rw [eK, if_neg (by omega), if_neg (by omega)]
    exact ⟨by omega, a2⟩
  · rcases List.mem_append.mp ht with c | c
    · rcases List.mem_cons.mp c with c | c
      · rw [c]
        exact ⟨by show n < n + 26; omega, (eK _).trans (if_pos rfl), (eN _).trans (if_pos rfl)⟩
      · obtain ⟨i, hi, e1⟩ := List.mem_map.mp c
        have hi := List.mem_range.mp hi
        rw [← e1]
        refine ⟨show n + 1 + i < n + 26 by omega, ?_, ?_⟩
        · show gK (nM M 25 10) (x + (n + 1 + i)) = 21
          rw [eK, if_neg (by omega), if_pos (by omega)]
        · show gN (nM M 25 10) (x + (n + 1 + i)) = 10
          rw [eN, if_neg (by omega), if_pos (by omega)]
    · obtain ⟨a1, a2, a3⟩ := t3 t c
      refine ⟨by omega, ?_, ?_⟩
      · rw [eK, if_neg (by omega), if_neg (by omega)]
        exact a2
      · rw [eN, if_neg (by omega), if_neg (by omega)]
        exact a3
  · rw [eK] at ha
    by_cases c : a = x + n
    · omega
    · rw [if_neg c] at ha
      by_cases c2 : x + n < a ∧ a ≤ x + n + 25
      · omega
      · rw [if_neg c2] at ha
        have := t5 a ha
        omega
  · rw [eK, if_neg (by omega), if_neg (by omega)]
    exact t6
  · dsimp only
    rw [if_neg (by omega)]
    exact t10 y i (by omega)
end ZZ
