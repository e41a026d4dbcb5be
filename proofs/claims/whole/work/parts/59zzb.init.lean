theorem z_sR0 {x e n s : Nat} {tab row : List (Nat × Nat × Nat)} {knd : List (Nat × Nat)} {lst : List Nat} {ι α : Nat → Nat → Int32} {ω : Nat → Nat → Option Nat} {M : Mem} (z : Z x e n s tab knd row lst ι α ω M) (f i : Nat) (hj : 0 < n) (hf : ¬ f = 1) (hd : ∀ t ∈ tab, ¬ (t.1 = f ∧ t.2.1 = 0)) : Z x e n s ((f, 0, i) :: tab) knd row lst ι α ω (sR M f x (some (x + i))) := z_sR z f 0 i hj hf hd
theorem z_sI0 {x e n s : Nat} {tab row : List (Nat × Nat × Nat)} {knd : List (Nat × Nat)} {lst : List Nat} {ι α : Nat → Nat → Int32} {ω : Nat → Nat → Option Nat} {M : Mem} (z : Z x e n s tab knd row lst ι α ω M) (f : Nat) (v : Int32) (hj : 0 < n) : Z x e n s tab knd row lst (up2 ι f x v) α ω (sI M f x v) := z_sI z f 0 v hj
/-- k writes of one row from its start on -/
def upn (f : Nat → Nat → Int32) (a : Nat) (v : Int32) : Nat → Nat → Nat → Int32
  | 0 => f
  | k + 1 => up2 (upn f a v k) a k v
theorem upn_eq (f : Nat → Nat → Int32) (a : Nat) (v : Int32) (k : Nat) : upn f a v k = fun y i => if y = a ∧ i < k then v else f y i := by
  induction k with
  | zero =>
    funext y i
    rw [if_neg (by omega)]
    rfl
  | succ k ih =>
    funext y i
    show up2 (upn f a v k) a k v y i = _
    rw [up2_at, ih]
    by_cases c : y = a ∧ i = k
    · rw [if_pos c, if_pos (by omega)]
    · rw [if_neg c]
      dsimp only
      by_cases d : y = a ∧ i < k
      · rw [if_pos d, if_pos (by omega)]
      · rw [if_neg d, if_neg (by omega)]
theorem c_prices_loop {x e n s : Nat} {tab row : List (Nat × Nat × Nat)} {knd : List (Nat × Nat)} {lst : List Nat} {ι α : Nat → Nat → Int32} {ω : Nat → Nat → Option Nat} {j i : Nat} (h1 : (1102, j, i) ∈ tab) (h2 : (i, 20, 24) ∈ row) (hi : i < n) : ∀ (r k f : Nat) (M : Mem), k + r = 24 → r < f → Z x e n s tab knd row lst ι (upn α (x + i) 10 k) ω M → Ok (F_X10_init_p41 F_X10_init_p64 f M (x + j) (Int32.ofNat k)) (fun q => Z x e n s tab knd row lst ι (upn α (x + i) 10 24) ω q.1) := by
  intro r
  induction r with
  | zero =>
    intro k f M hk hf z
    obtain ⟨f, rfl⟩ : ∃ q, f = q + 1 := ⟨f - 1, by omega⟩
    have : k = 24 := by omega
    subst this
    unfold F_X10_init_p41 F_X10_init_p64
    rw [z.r h1, lr_some (z.rk h2), z.rn h2, if_pos (show Int32.ofNat 24 ≤ Int32.ofNat 24 by decide)]
    exact ok_s z
  | succ r ih =>
    intro k f M hk hf z
    obtain ⟨f, rfl⟩ : ∃ q, f = q + 1 := ⟨f - 1, by omega⟩
    unfold F_X10_init_p41
    rw [z.r h1, lr_some (z.rk h2), z.rn h2, if_neg (fun w => by
      have := (ofN_le (by omega) (by omega)).mp w
      omega), lr_some (z.rk h2), z.rn h2]
    refine ok_g (ofN_inb (by omega) (by omega)) (ok_b (ok_b ?_))
    rw [ofN_ix (by omega), ofN_succ]
    exact ih (k + 1) f _ (by omega) (by omega) (z_sA z i k 10 hi)
theorem c_prices {x e n s : Nat} {tab row : List (Nat × Nat × Nat)} {knd : List (Nat × Nat)} {lst : List Nat} {ι : Nat → Nat → Int32} {ω : Nat → Nat → Option Nat} {M : Mem} {Q : Mem × Unit → Prop} (z : Z x e n s tab knd row lst ι (fun _ _ => 0) ω M) {j i : Nat} (h1 : (1102, j, i) ∈ tab) (h2 : (i, 20, 24) ∈ row) (hi : i < n) (hQ : ∀ M', Z x e n s tab knd row lst ι (fun y k => if y = x + i ∧ k < 24 then 10 else 0) ω M' → Q (M', ())) : Ok ((F_X10_init_p41 F_X10_init_p64 FU) M (x + j) (0 : Int32)) Q := by
  have h := c_prices_loop (x := x) (e := e) (s := s) (tab := tab) (row := row) (knd := knd) (lst := lst) (ι := ι) (α := fun _ _ => 0) (ω := ω) h1 h2 hi 24 0 FU M (by omega) (by unfold FU; omega) z
  refine h.mono (fun q hq => ?_)
  rw [upn_eq] at hq
  exact hQ q.1 hq
theorem c_init {x e s : Nat} {M : Mem} (z : Z x e 1 s [] [(0, 13)] [] [] (fun _ _ => 0) (fun _ _ => 0) (fun _ _ => none) M) : Ok (F_X11_init M x) (fun q => ∃ s1, s ≤ s1 ∧ s1 ≤ s + 5000 ∧ Z x e 54 s1 [(1208, 0, 53), (1207, 0, 52), (1206, 0, 49), (202, 49, 9), (201, 49, 6), (200, 49, 1), (204, 49, 51), (203, 49, 50), (1205, 0, 46), (202, 46, 9), (201, 46, 6), (200, 46, 1), (204, 46, 48), (203, 46, 47), (1204, 0, 16), (905, 16, 20), (904, 16, 19), (903, 16, 18), (902, 16, 17), (1203, 0, 13), (1001, 13, 15), (1000, 13, 14), (1202, 0, 9), (702, 9, 12), (701, 9, 11), (700, 9, 10), (1201, 0, 6), (801, 6, 8), (800, 6, 7), (1200, 0, 1), (1103, 1, 5), (1102, 1, 4), (1101, 1, 3), (1100, 1, 2)] [(52, 1), (50, 1), (49, 3), (47, 1), (46, 3), (16, 10), (13, 11), (10, 1), (9, 8), (6, 9), (2, 1), (1, 12), (0, 13)] ((53, 20, 7) :: (51, 21, 9) :: (48, 21, 9) :: ((20, 24, 25) :: ((List.range 25).map fun i => (20 + 1 + i, 21, 10)) ++ [(19, 21, 24), (18, 21, 24), (17, 21, 24), (15, 20, 60), (14, 20, 60), (12, 21, 60), (11, 21, 9), (8, 20, 8), (7, 20, 8), (5, 20, 24), (4, 20, 24), (3, 20, 12)])) [52, 50, 47, 10, 2] (up2 (fun _ _ => 0) 901 (x + 16) 100) (fun y k => if y = x + 4 ∧ k < 24 then 10 else 0) (fun y i => if y = x + 20 then (if i < 25 then some (x + 20 + 1 + i) else none) else none) q.1) := by
  rw [F_X11_init]
  refine ok_b ?_
  rw [z.h]
  refine ok_b ?_
  have z1 : Z x e 2 _ _ _ _ _ _ _ _ _ := z_nO z 12 4
  generalize nO M 12 4 = M1 at z1 ⊢
  clear z
  refine ok_c ?_
  rw [F_X10_init]
  refine ok_b ?_
  rw [z1.h]
  refine ok_b ?_
  have z2 : Z x e 3 _ _ _ _ _ _ _ _ _ := z_nO z1 1 3
  generalize nO M1 1 3 = M2 at z2 ⊢
  clear z1
  rw [list_init, cl_some]
  have z3 : Z x e 3 _ _ _ _ _ _ _ _ _ := z_sL z2 2 (by decide) (by decide) (by rfl)
  generalize sR (sI M2 0 (x + 2) 0) 1 (x + 2) (some (gE M2)) = M3 at z3 ⊢
  clear z2
  refine ok_b ?_
  have z4 : Z x e 3 _ _ _ _ _ _ _ _ _ := z_sR z3 1100 1 2 (by decide) (by decide) (by decide)
  generalize sR M3 1100 (x + 1) (some (x + 2)) = M4 at z4 ⊢
  clear z3
  refine ok_g (by decide) (ok_b ?_)
  rw [z4.h]
  refine ok_b ?_
  try rw [show ixn (12 : Int32) = 12 from rfl]
  have z5 : Z x e 4 _ _ _ _ _ _ _ _ _ := z_nA z4 20 12
  generalize nA M4 20 12 = M5 at z5 ⊢
  clear z4
  refine ok_b ?_
  have z6 : Z x e 4 _ _ _ _ _ _ _ _ _ := z_sR z5 1101 1 3 (by decide) (by decide) (by decide)
  generalize sR M5 1101 (x + 1) (some (x + 3)) = M6 at z6 ⊢
  clear z5
  refine ok_g (by decide) (ok_b ?_)
  rw [z6.h]
  refine ok_b ?_
  try rw [show ixn (24 : Int32) = 24 from rfl]
  have z7 : Z x e 5 _ _ _ _ _ _ _ _ _ := z_nA z6 20 24
  generalize nA M6 20 24 = M7 at z7 ⊢
  clear z6
  refine ok_b ?_
  have z8 : Z x e 5 _ _ _ _ _ _ _ _ _ := z_sR z7 1102 1 4 (by decide) (by decide) (by decide)
  generalize sR M7 1102 (x + 1) (some (x + 4)) = M8 at z8 ⊢
  clear z7
  refine ok_g (by decide) (ok_b ?_)
  rw [z8.h]
  refine ok_b ?_
  try rw [show ixn (24 : Int32) = 24 from rfl]
  have z9 : Z x e 6 _ _ _ _ _ _ _ _ _ := z_nA z8 20 24
  generalize nA M8 20 24 = M9 at z9 ⊢
  clear z8
  refine ok_b ?_
  have z10 : Z x e 6 _ _ _ _ _ _ _ _ _ := z_sR z9 1103 1 5 (by decide) (by decide) (by decide)
  generalize sR M9 1103 (x + 1) (some (x + 5)) = M10 at z10 ⊢
  clear z9
  refine c_prices z10 (j := 1) (i := 4) (by decide) (by decide) (by decide) (fun M11 z11 => ?_)
  dsimp only
  clear z10
  refine ok_b ?_
  have z12 : Z x e 6 _ _ _ _ _ _ _ _ _ := z_sR0 z11 1200 1 (by decide) (by decide) (by decide)
  generalize sR M11 1200 x (some (x + 1)) = M12 at z12 ⊢
  clear z11
  refine ok_b ?_
  rw [z12.h]
  refine ok_b ?_
  have z13 : Z x e 7 _ _ _ _ _ _ _ _ _ := z_nO z12 9 3
  generalize nO M12 9 3 = M13 at z13 ⊢
  clear z12
  refine ok_c ?_
  rw [F_X7_init]
  refine ok_g (by decide) (ok_b ?_)
  rw [z13.h]
  refine ok_b ?_
  try rw [show ixn (8 : Int32) = 8 from rfl]
  have z14 : Z x e 8 _ _ _ _ _ _ _ _ _ := z_nA z13 20 8
  generalize nA M13 20 8 = M14 at z14 ⊢
  clear z13
  refine ok_b ?_
  have z15 : Z x e 8 _ _ _ _ _ _ _ _ _ := z_sR z14 800 6 7 (by decide) (by decide) (by decide)
  generalize sR M14 800 (x + 6) (some (x + 7)) = M15 at z15 ⊢
  clear z14
  refine ok_g (by decide) (ok_b ?_)
  rw [z15.h]
  refine ok_b ?_
  try rw [show ixn (8 : Int32) = 8 from rfl]
  have z16 : Z x e 9 _ _ _ _ _ _ _ _ _ := z_nA z15 20 8
  generalize nA M15 20 8 = M16 at z16 ⊢
  clear z15
  refine ok_b ?_
  have z17 : Z x e 9 _ _ _ _ _ _ _ _ _ := z_sR z16 801 6 8 (by decide) (by decide) (by decide)
  generalize sR M16 801 (x + 6) (some (x + 8)) = M17 at z17 ⊢
  clear z16
  refine ok_s ?_
  dsimp only
  refine ok_b ?_
  have z18 : Z x e 9 _ _ _ _ _ _ _ _ _ := z_sR0 z17 1201 6 (by decide) (by decide) (by decide)
  generalize sR M17 1201 x (some (x + 6)) = M18 at z18 ⊢
  clear z17
  refine ok_b ?_
  rw [z18.h]
  refine ok_b ?_
  have z19 : Z x e 10 _ _ _ _ _ _ _ _ _ := z_nO z18 8 3
  generalize nO M18 8 3 = M19 at z19 ⊢
  clear z18
  refine ok_c ?_
  rw [F_X6_init]
  refine ok_b ?_
  rw [z19.h]
  refine ok_b ?_
  have z20 : Z x e 11 _ _ _ _ _ _ _ _ _ := z_nO z19 1 3
  generalize nO M19 1 3 = M20 at z20 ⊢
  clear z19
  rw [list_init, cl_some]
  have z21 : Z x e 11 _ _ _ _ _ _ _ _ _ := z_sL z20 10 (by decide) (by decide) (by rfl)
  generalize sR (sI M20 0 (x + 10) 0) 1 (x + 10) (some (gE M20)) = M21 at z21 ⊢
  clear z20
  refine ok_b ?_
  have z22 : Z x e 11 _ _ _ _ _ _ _ _ _ := z_sR z21 700 9 10 (by decide) (by decide) (by decide)
  generalize sR M21 700 (x + 9) (some (x + 10)) = M22 at z22 ⊢
  clear z21
  refine ok_g (by decide) (ok_b ?_)
  rw [z22.h]
  refine ok_b ?_
  try rw [show ixn (9 : Int32) = 9 from rfl]
  have z23 : Z x e 12 _ _ _ _ _ _ _ _ _ := z_nA z22 21 9
  generalize nA M22 21 9 = M23 at z23 ⊢
  clear z22
  refine ok_b ?_
  have z24 : Z x e 12 _ _ _ _ _ _ _ _ _ := z_sR z23 701 9 11 (by decide) (by decide) (by decide)
  generalize sR M23 701 (x + 9) (some (x + 11)) = M24 at z24 ⊢
  clear z23
  refine ok_g (by decide) (ok_b ?_)
  rw [z24.h]
  refine ok_b ?_
  try rw [show ixn (60 : Int32) = 60 from rfl]
  have z25 : Z x e 13 _ _ _ _ _ _ _ _ _ := z_nA z24 21 60
  generalize nA M24 21 60 = M25 at z25 ⊢
  clear z24
  refine ok_b ?_
  have z26 : Z x e 13 _ _ _ _ _ _ _ _ _ := z_sR z25 702 9 12 (by decide) (by decide) (by decide)
  generalize sR M25 702 (x + 9) (some (x + 12)) = M26 at z26 ⊢
  clear z25
  refine ok_s ?_
  dsimp only
  refine ok_b ?_
  have z27 : Z x e 13 _ _ _ _ _ _ _ _ _ := z_sR0 z26 1202 9 (by decide) (by decide) (by decide)
  generalize sR M26 1202 x (some (x + 9)) = M27 at z27 ⊢
  clear z26
  refine ok_b ?_
  rw [z27.h]
  refine ok_b ?_
  have z28 : Z x e 14 _ _ _ _ _ _ _ _ _ := z_nO z27 11 6
  generalize nO M27 11 6 = M28 at z28 ⊢
  clear z27
  refine ok_c ?_
  rw [F_X9_init]
  refine ok_g (by decide) (ok_b ?_)
  rw [z28.h]
  refine ok_b ?_
  try rw [show ixn (60 : Int32) = 60 from rfl]
  have z29 : Z x e 15 _ _ _ _ _ _ _ _ _ := z_nA z28 20 60
  generalize nA M28 20 60 = M29 at z29 ⊢
  clear z28
  refine ok_b ?_
  have z30 : Z x e 15 _ _ _ _ _ _ _ _ _ := z_sR z29 1000 13 14 (by decide) (by decide) (by decide)
  generalize sR M29 1000 (x + 13) (some (x + 14)) = M30 at z30 ⊢
  clear z29
  refine ok_g (by decide) (ok_b ?_)
  rw [z30.h]
  refine ok_b ?_
  try rw [show ixn (60 : Int32) = 60 from rfl]
  have z31 : Z x e 16 _ _ _ _ _ _ _ _ _ := z_nA z30 20 60
  generalize nA M30 20 60 = M31 at z31 ⊢
  clear z30
  refine ok_b ?_
  have z32 : Z x e 16 _ _ _ _ _ _ _ _ _ := z_sR z31 1001 13 15 (by decide) (by decide) (by decide)
  generalize sR M31 1001 (x + 13) (some (x + 15)) = M32 at z32 ⊢
  clear z31
  refine ok_s ?_
  dsimp only
  refine ok_b ?_
  have z33 : Z x e 16 _ _ _ _ _ _ _ _ _ := z_sR0 z32 1203 13 (by decide) (by decide) (by decide)
  generalize sR M32 1203 x (some (x + 13)) = M33 at z33 ⊢
  clear z32
  refine ok_b ?_
  rw [z33.h]
  refine ok_b ?_
  have z34 : Z x e 17 _ _ _ _ _ _ _ _ _ := z_nO z33 10 6
  generalize nO M33 10 6 = M34 at z34 ⊢
  clear z33
  refine ok_c ?_
  rw [F_X8_init]
  refine ok_b ?_
  have z35 : Z x e 17 _ _ _ _ _ _ _ _ _ := z_sI z34 901 16 100 (by decide)
  generalize sI M34 901 (x + 16) 100 = M35 at z35 ⊢
  clear z34
  refine ok_g (by decide) (ok_b ?_)
  rw [z35.h]
  refine ok_b ?_
  try rw [show ixn (24 : Int32) = 24 from rfl]
  have z36 : Z x e 18 _ _ _ _ _ _ _ _ _ := z_nA z35 21 24
  generalize nA M35 21 24 = M36 at z36 ⊢
  clear z35
  refine ok_b ?_
  have z37 : Z x e 18 _ _ _ _ _ _ _ _ _ := z_sR z36 902 16 17 (by decide) (by decide) (by decide)
  generalize sR M36 902 (x + 16) (some (x + 17)) = M37 at z37 ⊢
  clear z36
  refine ok_g (by decide) (ok_b ?_)
  rw [z37.h]
  refine ok_b ?_
  try rw [show ixn (24 : Int32) = 24 from rfl]
  have z38 : Z x e 19 _ _ _ _ _ _ _ _ _ := z_nA z37 21 24
  generalize nA M37 21 24 = M38 at z38 ⊢
  clear z37
  refine ok_b ?_
  have z39 : Z x e 19 _ _ _ _ _ _ _ _ _ := z_sR z38 903 16 18 (by decide) (by decide) (by decide)
  generalize sR M38 903 (x + 16) (some (x + 18)) = M39 at z39 ⊢
  clear z38
  refine ok_g (by decide) (ok_b ?_)
  rw [z39.h]
  refine ok_b ?_
  try rw [show ixn (24 : Int32) = 24 from rfl]
  have z40 : Z x e 20 _ _ _ _ _ _ _ _ _ := z_nA z39 21 24
  generalize nA M39 21 24 = M40 at z40 ⊢
  clear z39
  refine ok_b ?_
  have z41 : Z x e 20 _ _ _ _ _ _ _ _ _ := z_sR z40 904 16 19 (by decide) (by decide) (by decide)
  generalize sR M40 904 (x + 16) (some (x + 19)) = M41 at z41 ⊢
  clear z40
  refine ok_b ?_
  rw [z41.h]
  refine ok_b ?_
  have z42 : Z x e 46 _ _ _ _ _ _ _ _ _ := z_nM z41
  generalize nM M41 25 10 = M42 at z42 ⊢
  clear z41
  refine ok_b ?_
  have z43 : Z x e 46 _ _ _ _ _ _ _ _ _ := z_sR z42 905 16 20 (by decide) (by decide) (by decide)
  generalize sR M42 905 (x + 16) (some (x + 20)) = M43 at z43 ⊢
  clear z42
  refine ok_s ?_
  dsimp only
  refine ok_b ?_
  have z44 : Z x e 46 _ _ _ _ _ _ _ _ _ := z_sR0 z43 1204 16 (by decide) (by decide) (by decide)
  generalize sR M43 1204 x (some (x + 16)) = M44 at z44 ⊢
  clear z43
  refine ok_b ?_
  rw [z44.h]
  refine ok_b ?_
  have z45 : Z x e 47 _ _ _ _ _ _ _ _ _ := z_nO z44 3 7
  generalize nO M44 3 7 = M45 at z45 ⊢
  clear z44
  rw [z45.r0 (f := 1200) (i := 1) (by decide), lr_some (z45.k (j := 1) (k := 12) (by decide))]
  rw [z45.r0 (f := 1201) (i := 6) (by decide), lr_some (z45.k (j := 6) (k := 9) (by decide))]
  rw [z45.r0 (f := 1202) (i := 9) (by decide), lr_some (z45.k (j := 9) (k := 8) (by decide))]
  refine ok_c ?_
  rw [F_X1_init]
  refine ok_b ?_
  rw [z45.h]
  refine ok_b ?_
  have z46 : Z x e 48 _ _ _ _ _ _ _ _ _ := z_nO z45 1 3
  generalize nO M45 1 3 = M46 at z46 ⊢
  clear z45
  rw [list_init, cl_some]
  have z47 : Z x e 48 _ _ _ _ _ _ _ _ _ := z_sL z46 47 (by decide) (by decide) (if_neg (fun k => absurd k.1 (by decide)))
  generalize sR (sI M46 0 (x + 47) 0) 1 (x + 47) (some (gE M46)) = M47 at z47 ⊢
  clear z46
  refine ok_b ?_
  have z48 : Z x e 48 _ _ _ _ _ _ _ _ _ := z_sR z47 203 46 47 (by decide) (by decide) (by decide)
  generalize sR M47 203 (x + 46) (some (x + 47)) = M48 at z48 ⊢
  clear z47
  refine ok_g (by decide) (ok_b ?_)
  rw [z48.h]
  refine ok_b ?_
  try rw [show ixn (9 : Int32) = 9 from rfl]
  have z49 : Z x e 49 _ _ _ _ _ _ _ _ _ := z_nA z48 21 9
  generalize nA M48 21 9 = M49 at z49 ⊢
  clear z48
  refine ok_b ?_
  have z50 : Z x e 49 _ _ _ _ _ _ _ _ _ := z_sR z49 204 46 48 (by decide) (by decide) (by decide)
  generalize sR M49 204 (x + 46) (some (x + 48)) = M50 at z50 ⊢
  clear z49
  refine ok_b ?_
  have z51 : Z x e 49 _ _ _ _ _ _ _ _ _ := z_sR z50 200 46 1 (by decide) (by decide) (by decide)
  generalize sR M50 200 (x + 46) (some (x + 1)) = M51 at z51 ⊢
  clear z50
  refine ok_b ?_
  have z52 : Z x e 49 _ _ _ _ _ _ _ _ _ := z_sR z51 201 46 6 (by decide) (by decide) (by decide)
  generalize sR M51 201 (x + 46) (some (x + 6)) = M52 at z52 ⊢
  clear z51
  refine ok_b ?_
  have z53 : Z x e 49 _ _ _ _ _ _ _ _ _ := z_sR z52 202 46 9 (by decide) (by decide) (by decide)
  generalize sR M52 202 (x + 46) (some (x + 9)) = M53 at z53 ⊢
  clear z52
  refine ok_s ?_
  dsimp only
  refine ok_b ?_
  have z54 : Z x e 49 _ _ _ _ _ _ _ _ _ := z_sR0 z53 1205 46 (by decide) (by decide) (by decide)
  generalize sR M53 1205 x (some (x + 46)) = M54 at z54 ⊢
  clear z53
  refine ok_b ?_
  rw [z54.h]
  refine ok_b ?_
  have z55 : Z x e 50 _ _ _ _ _ _ _ _ _ := z_nO z54 3 7
  generalize nO M54 3 7 = M55 at z55 ⊢
  clear z54
  rw [z55.r0 (f := 1200) (i := 1) (by decide), lr_some (z55.k (j := 1) (k := 12) (by decide))]
  rw [z55.r0 (f := 1201) (i := 6) (by decide), lr_some (z55.k (j := 6) (k := 9) (by decide))]
  rw [z55.r0 (f := 1202) (i := 9) (by decide), lr_some (z55.k (j := 9) (k := 8) (by decide))]
  refine ok_c ?_
  rw [F_X1_init]
  refine ok_b ?_
  rw [z55.h]
  refine ok_b ?_
  have z56 : Z x e 51 _ _ _ _ _ _ _ _ _ := z_nO z55 1 3
  generalize nO M55 1 3 = M56 at z56 ⊢
  clear z55
  rw [list_init, cl_some]
  have z57 : Z x e 51 _ _ _ _ _ _ _ _ _ := z_sL z56 50 (by decide) (by decide) (if_neg (fun k => absurd k.1 (by decide)))
  generalize sR (sI M56 0 (x + 50) 0) 1 (x + 50) (some (gE M56)) = M57 at z57 ⊢
  clear z56
  refine ok_b ?_
  have z58 : Z x e 51 _ _ _ _ _ _ _ _ _ := z_sR z57 203 49 50 (by decide) (by decide) (by decide)
  generalize sR M57 203 (x + 49) (some (x + 50)) = M58 at z58 ⊢
  clear z57
  refine ok_g (by decide) (ok_b ?_)
  rw [z58.h]
  refine ok_b ?_
  try rw [show ixn (9 : Int32) = 9 from rfl]
  have z59 : Z x e 52 _ _ _ _ _ _ _ _ _ := z_nA z58 21 9
  generalize nA M58 21 9 = M59 at z59 ⊢
  clear z58
  refine ok_b ?_
  have z60 : Z x e 52 _ _ _ _ _ _ _ _ _ := z_sR z59 204 49 51 (by decide) (by decide) (by decide)
  generalize sR M59 204 (x + 49) (some (x + 51)) = M60 at z60 ⊢
  clear z59
  refine ok_b ?_
  have z61 : Z x e 52 _ _ _ _ _ _ _ _ _ := z_sR z60 200 49 1 (by decide) (by decide) (by decide)
  generalize sR M60 200 (x + 49) (some (x + 1)) = M61 at z61 ⊢
  clear z60
  refine ok_b ?_
  have z62 : Z x e 52 _ _ _ _ _ _ _ _ _ := z_sR z61 201 49 6 (by decide) (by decide) (by decide)
  generalize sR M61 201 (x + 49) (some (x + 6)) = M62 at z62 ⊢
  clear z61
  refine ok_b ?_
  have z63 : Z x e 52 _ _ _ _ _ _ _ _ _ := z_sR z62 202 49 9 (by decide) (by decide) (by decide)
  generalize sR M62 202 (x + 49) (some (x + 9)) = M63 at z63 ⊢
  clear z62
  refine ok_s ?_
  dsimp only
  refine ok_b ?_
  have z64 : Z x e 52 _ _ _ _ _ _ _ _ _ := z_sR0 z63 1206 49 (by decide) (by decide) (by decide)
  generalize sR M63 1206 x (some (x + 49)) = M64 at z64 ⊢
  clear z63
  refine ok_b ?_
  rw [z64.h]
  refine ok_b ?_
  have z65 : Z x e 53 _ _ _ _ _ _ _ _ _ := z_nO z64 1 3
  generalize nO M64 1 3 = M65 at z65 ⊢
  clear z64
  rw [list_init, cl_some]
  have z66 : Z x e 53 _ _ _ _ _ _ _ _ _ := z_sL z65 52 (by decide) (by decide) (if_neg (fun k => absurd k.1 (by decide)))
  generalize sR (sI M65 0 (x + 52) 0) 1 (x + 52) (some (gE M65)) = M66 at z66 ⊢
  clear z65
  refine ok_b ?_
  have z67 : Z x e 53 _ _ _ _ _ _ _ _ _ := z_sR0 z66 1207 52 (by decide) (by decide) (by decide)
  generalize sR M66 1207 x (some (x + 52)) = M67 at z67 ⊢
  clear z66
  refine ok_g (by decide) (ok_b ?_)
  rw [z67.h]
  refine ok_b ?_
  try rw [show ixn (7 : Int32) = 7 from rfl]
  have z68 : Z x e 54 _ _ _ _ _ _ _ _ _ := z_nA z67 20 7
  generalize nA M67 20 7 = M68 at z68 ⊢
  clear z67
  refine ok_b ?_
  have z69 : Z x e 54 _ _ _ _ _ _ _ _ _ := z_sR0 z68 1208 53 (by decide) (by decide) (by decide)
  generalize sR M68 1208 x (some (x + 53)) = M69 at z69 ⊢
  clear z68
  refine ok_s ?_
  exact ⟨_, by omega, by omega, z69⟩
theorem m_init {o e s : Nat} {M : Mem} (z : Z o e 1 s [] [(0, 14)] [] [] (fun _ _ => 0) (fun _ _ => 0) (fun _ _ => none) M) : Ok (F_X12_init M o) (fun q => ∃ s1, s ≤ s1 ∧ s1 ≤ s + 5000 ∧ Z o e 45 s1 [(1357, 0, 44), (1356, 0, 43), (1354, 0, 42), (1353, 0, 41), (1352, 0, 40), (1351, 0, 39), (1350, 0, 38), (1349, 0, 37), (1348, 0, 36), (1347, 0, 35), (1346, 0, 34), (1345, 0, 33), (1344, 0, 32), (1340, 0, 31), (1339, 0, 30), (1338, 0, 29), (1337, 0, 28), (1333, 0, 27), (1332, 0, 26), (1331, 0, 25), (1330, 0, 24), (1327, 0, 23), (1326, 0, 22), (1325, 0, 21), (1324, 0, 20), (1323, 0, 19), (1321, 0, 18), (1320, 0, 17), (1319, 0, 16), (1318, 0, 15), (1317, 0, 14), (1315, 0, 13), (1314, 0, 12), (1313, 0, 11), (1311, 0, 10), (1310, 0, 9), (1309, 0, 8), (1308, 0, 7), (1307, 0, 6), (1306, 0, 5), (1305, 0, 4), (1304, 0, 3), (1303, 0, 2), (1300, 0, 1)] [(0, 14)] [(44, 21, 24), (43, 21, 250), (42, 22, 8), (41, 21, 9), (40, 21, 8), (39, 21, 64), (38, 21, 8), (37, 21, 8), (36, 21, 8), (35, 21, 64), (34, 21, 64), (33, 21, 62), (32, 21, 9), (31, 20, 9), (30, 21, 20), (29, 20, 20), (28, 20, 20), (27, 20, 1860), (26, 20, 30), (25, 20, 30), (24, 20, 30), (23, 20, 60), (22, 20, 24), (21, 20, 24), (20, 20, 8), (19, 20, 8), (18, 20, 12), (17, 20, 20), (16, 20, 20), (15, 20, 20), (14, 20, 20), (13, 21, 9), (12, 21, 8), (11, 21, 64), (10, 22, 8), (9, 20, 8), (8, 20, 8), (7, 20, 8), (6, 20, 8), (5, 20, 8), (4, 20, 8), (3, 20, 8), (2, 20, 8), (1, 20, 7)] [] (up2 (fun _ _ => 0) 1335 o 100) (up2 (up2 (up2 (up2 (up2 (up2 (up2 (up2 (up2 (fun y i => if y = o + 21 ∧ i < 24 then 10 else (fun y i => if y = o + 17 ∧ i < 20 then -1 else (fun _ _ => 0) y i) y i) (o + 31) 0 104) (o + 31) 1 100) (o + 31) 2 112) (o + 31) 3 99) (o + 31) 4 110) (o + 31) 5 116) (o + 31) 6 114) (o + 31) 7 98) (o + 31) 8 102) (fun _ _ => none) q.1) := by
  rw [F_X12_init]
  refine ok_g (by decide) (ok_b ?_)
  rw [z.h]
  refine ok_b ?_
  try rw [show ixn (7 : Int32) = 7 from rfl]
  have z1 : Z o e 2 _ _ _ _ _ _ _ _ _ := z_nA z 20 7
  generalize nA M 20 7 = M1 at z1 ⊢
  clear z
  refine ok_b ?_
  have z2 : Z o e 2 _ _ _ _ _ _ _ _ _ := z_sR0 z1 1300 1 (by decide) (by decide) (by decide)
  generalize sR M1 1300 o (some (o + 1)) = M2 at z2 ⊢
  clear z1
  refine ok_g (by decide) (ok_b ?_)
  rw [z2.h]
  refine ok_b ?_
  try rw [show ixn (8 : Int32) = 8 from rfl]
  have z3 : Z o e 3 _ _ _ _ _ _ _ _ _ := z_nA z2 20 8
  generalize nA M2 20 8 = M3 at z3 ⊢
  clear z2
  refine ok_b ?_
  have z4 : Z o e 3 _ _ _ _ _ _ _ _ _ := z_sR0 z3 1303 2 (by decide) (by decide) (by decide)
  generalize sR M3 1303 o (some (o + 2)) = M4 at z4 ⊢
  clear z3
  refine ok_g (by decide) (ok_b ?_)
  rw [z4.h]
  refine ok_b ?_
  try rw [show ixn (8 : Int32) = 8 from rfl]
  have z5 : Z o e 4 _ _ _ _ _ _ _ _ _ := z_nA z4 20 8
  generalize nA M4 20 8 = M5 at z5 ⊢
  clear z4
  refine ok_b ?_
  have z6 : Z o e 4 _ _ _ _ _ _ _ _ _ := z_sR0 z5 1304 3 (by decide) (by decide) (by decide)
  generalize sR M5 1304 o (some (o + 3)) = M6 at z6 ⊢
  clear z5
  refine ok_g (by decide) (ok_b ?_)
  rw [z6.h]
  refine ok_b ?_
  try rw [show ixn (8 : Int32) = 8 from rfl]
  have z7 : Z o e 5 _ _ _ _ _ _ _ _ _ := z_nA z6 20 8
  generalize nA M6 20 8 = M7 at z7 ⊢
  clear z6
  refine ok_b ?_
  have z8 : Z o e 5 _ _ _ _ _ _ _ _ _ := z_sR0 z7 1305 4 (by decide) (by decide) (by decide)
  generalize sR M7 1305 o (some (o + 4)) = M8 at z8 ⊢
  clear z7
  refine ok_g (by decide) (ok_b ?_)
  rw [z8.h]
  refine ok_b ?_
  try rw [show ixn (8 : Int32) = 8 from rfl]
  have z9 : Z o e 6 _ _ _ _ _ _ _ _ _ := z_nA z8 20 8
  generalize nA M8 20 8 = M9 at z9 ⊢
  clear z8
  refine ok_b ?_
  have z10 : Z o e 6 _ _ _ _ _ _ _ _ _ := z_sR0 z9 1306 5 (by decide) (by decide) (by decide)
  generalize sR M9 1306 o (some (o + 5)) = M10 at z10 ⊢
  clear z9
  refine ok_g (by decide) (ok_b ?_)
  rw [z10.h]
  refine ok_b ?_
  try rw [show ixn (8 : Int32) = 8 from rfl]
  have z11 : Z o e 7 _ _ _ _ _ _ _ _ _ := z_nA z10 20 8
  generalize nA M10 20 8 = M11 at z11 ⊢
  clear z10
  refine ok_b ?_
  have z12 : Z o e 7 _ _ _ _ _ _ _ _ _ := z_sR0 z11 1307 6 (by decide) (by decide) (by decide)
  generalize sR M11 1307 o (some (o + 6)) = M12 at z12 ⊢
  clear z11
  refine ok_g (by decide) (ok_b ?_)
  rw [z12.h]
  refine ok_b ?_
  try rw [show ixn (8 : Int32) = 8 from rfl]
  have z13 : Z o e 8 _ _ _ _ _ _ _ _ _ := z_nA z12 20 8
  generalize nA M12 20 8 = M13 at z13 ⊢
  clear z12
  refine ok_b ?_
  have z14 : Z o e 8 _ _ _ _ _ _ _ _ _ := z_sR0 z13 1308 7 (by decide) (by decide) (by decide)
  generalize sR M13 1308 o (some (o + 7)) = M14 at z14 ⊢
  clear z13
  refine ok_g (by decide) (ok_b ?_)
  rw [z14.h]
  refine ok_b ?_
  try rw [show ixn (8 : Int32) = 8 from rfl]
  have z15 : Z o e 9 _ _ _ _ _ _ _ _ _ := z_nA z14 20 8
  generalize nA M14 20 8 = M15 at z15 ⊢
  clear z14
  refine ok_b ?_
  have z16 : Z o e 9 _ _ _ _ _ _ _ _ _ := z_sR0 z15 1309 8 (by decide) (by decide) (by decide)
  generalize sR M15 1309 o (some (o + 8)) = M16 at z16 ⊢
  clear z15
  refine ok_g (by decide) (ok_b ?_)
  rw [z16.h]
  refine ok_b ?_
  try rw [show ixn (8 : Int32) = 8 from rfl]
  have z17 : Z o e 10 _ _ _ _ _ _ _ _ _ := z_nA z16 20 8
  generalize nA M16 20 8 = M17 at z17 ⊢
  clear z16
  refine ok_b ?_
  have z18 : Z o e 10 _ _ _ _ _ _ _ _ _ := z_sR0 z17 1310 9 (by decide) (by decide) (by decide)
  generalize sR M17 1310 o (some (o + 9)) = M18 at z18 ⊢
  clear z17
  refine ok_g (by decide) (ok_b ?_)
  rw [z18.h]
  refine ok_b ?_
  try rw [show ixn (8 : Int32) = 8 from rfl]
  have z19 : Z o e 11 _ _ _ _ _ _ _ _ _ := z_nA z18 22 8
  generalize nA M18 22 8 = M19 at z19 ⊢
  clear z18
  refine ok_b ?_
  have z20 : Z o e 11 _ _ _ _ _ _ _ _ _ := z_sR0 z19 1311 10 (by decide) (by decide) (by decide)
  generalize sR M19 1311 o (some (o + 10)) = M20 at z20 ⊢
  clear z19
  refine ok_g (by decide) (ok_b ?_)
  rw [z20.h]
  refine ok_b ?_
  try rw [show ixn (64 : Int32) = 64 from rfl]
  have z21 : Z o e 12 _ _ _ _ _ _ _ _ _ := z_nA z20 21 64
  generalize nA M20 21 64 = M21 at z21 ⊢
  clear z20
  refine ok_b ?_
  have z22 : Z o e 12 _ _ _ _ _ _ _ _ _ := z_sR0 z21 1313 11 (by decide) (by decide) (by decide)
  generalize sR M21 1313 o (some (o + 11)) = M22 at z22 ⊢
  clear z21
  refine ok_g (by decide) (ok_b ?_)
  rw [z22.h]
  refine ok_b ?_
  try rw [show ixn (8 : Int32) = 8 from rfl]
  have z23 : Z o e 13 _ _ _ _ _ _ _ _ _ := z_nA z22 21 8
  generalize nA M22 21 8 = M23 at z23 ⊢
  clear z22
  refine ok_b ?_
  have z24 : Z o e 13 _ _ _ _ _ _ _ _ _ := z_sR0 z23 1314 12 (by decide) (by decide) (by decide)
  generalize sR M23 1314 o (some (o + 12)) = M24 at z24 ⊢
  clear z23
  refine ok_g (by decide) (ok_b ?_)
  rw [z24.h]
  refine ok_b ?_
  try rw [show ixn (9 : Int32) = 9 from rfl]
  have z25 : Z o e 14 _ _ _ _ _ _ _ _ _ := z_nA z24 21 9
  generalize nA M24 21 9 = M25 at z25 ⊢
  clear z24
  refine ok_b ?_
  have z26 : Z o e 14 _ _ _ _ _ _ _ _ _ := z_sR0 z25 1315 13 (by decide) (by decide) (by decide)
  generalize sR M25 1315 o (some (o + 13)) = M26 at z26 ⊢
  clear z25
  refine ok_g (by decide) (ok_b ?_)
  rw [z26.h]
  refine ok_b ?_
  try rw [show ixn (20 : Int32) = 20 from rfl]
  have z27 : Z o e 15 _ _ _ _ _ _ _ _ _ := z_nA z26 20 20
  generalize nA M26 20 20 = M27 at z27 ⊢
  clear z26
  refine ok_b ?_
  have z28 : Z o e 15 _ _ _ _ _ _ _ _ _ := z_sR0 z27 1317 14 (by decide) (by decide) (by decide)
  generalize sR M27 1317 o (some (o + 14)) = M28 at z28 ⊢
  clear z27
  refine ok_g (by decide) (ok_b ?_)
  rw [z28.h]
  refine ok_b ?_
  try rw [show ixn (20 : Int32) = 20 from rfl]
  have z29 : Z o e 16 _ _ _ _ _ _ _ _ _ := z_nA z28 20 20
  generalize nA M28 20 20 = M29 at z29 ⊢
  clear z28
  refine ok_b ?_
  have z30 : Z o e 16 _ _ _ _ _ _ _ _ _ := z_sR0 z29 1318 15 (by decide) (by decide) (by decide)
  generalize sR M29 1318 o (some (o + 15)) = M30 at z30 ⊢
  clear z29
  refine ok_g (by decide) (ok_b ?_)
  rw [z30.h]
  refine ok_b ?_
  try rw [show ixn (20 : Int32) = 20 from rfl]
  have z31 : Z o e 17 _ _ _ _ _ _ _ _ _ := z_nA z30 20 20
  generalize nA M30 20 20 = M31 at z31 ⊢
  clear z30
  refine ok_b ?_
  have z32 : Z o e 17 _ _ _ _ _ _ _ _ _ := z_sR0 z31 1319 16 (by decide) (by decide) (by decide)
  generalize sR M31 1319 o (some (o + 16)) = M32 at z32 ⊢
  clear z31
  refine ok_g (by decide) (ok_b ?_)
  rw [z32.h]
  refine ok_b ?_
  try rw [show ixn (20 : Int32) = 20 from rfl]
  have z33 : Z o e 18 _ _ _ _ _ _ _ _ _ := z_nA z32 20 20
  generalize nA M32 20 20 = M33 at z33 ⊢
  clear z32
  rw [z33.rn (j := 17) (k := 20) (l := 20) (by decide)]
  refine ok_g (by decide) (ok_b ?_)
  try rw [show ixn (0 : Int32) = 0 from rfl]
  have z34 : Z o e 18 _ _ _ _ _ _ _ _ _ := z_sA z33 17 0 (-1) (by decide)
  generalize sA M33 (o + 17) 0 (-1) = M34 at z34 ⊢
  clear z33
  rw [z34.rn (j := 17) (k := 20) (l := 20) (by decide)]
  refine ok_g (by decide) (ok_b ?_)
  try rw [show ixn (1 : Int32) = 1 from rfl]
  have z35 : Z o e 18 _ _ _ _ _ _ _ _ _ := z_sA z34 17 1 (-1) (by decide)
  generalize sA M34 (o + 17) 1 (-1) = M35 at z35 ⊢
  clear z34
  rw [z35.rn (j := 17) (k := 20) (l := 20) (by decide)]
  refine ok_g (by decide) (ok_b ?_)
  try rw [show ixn (2 : Int32) = 2 from rfl]
  have z36 : Z o e 18 _ _ _ _ _ _ _ _ _ := z_sA z35 17 2 (-1) (by decide)
  generalize sA M35 (o + 17) 2 (-1) = M36 at z36 ⊢
  clear z35
  rw [z36.rn (j := 17) (k := 20) (l := 20) (by decide)]
  refine ok_g (by decide) (ok_b ?_)
  try rw [show ixn (3 : Int32) = 3 from rfl]
  have z37 : Z o e 18 _ _ _ _ _ _ _ _ _ := z_sA z36 17 3 (-1) (by decide)
  generalize sA M36 (o + 17) 3 (-1) = M37 at z37 ⊢
  clear z36
  rw [z37.rn (j := 17) (k := 20) (l := 20) (by decide)]
  refine ok_g (by decide) (ok_b ?_)
  try rw [show ixn (4 : Int32) = 4 from rfl]
  have z38 : Z o e 18 _ _ _ _ _ _ _ _ _ := z_sA z37 17 4 (-1) (by decide)
  generalize sA M37 (o + 17) 4 (-1) = M38 at z38 ⊢
  clear z37
  rw [z38.rn (j := 17) (k := 20) (l := 20) (by decide)]
  refine ok_g (by decide) (ok_b ?_)
  try rw [show ixn (5 : Int32) = 5 from rfl]
  have z39 : Z o e 18 _ _ _ _ _ _ _ _ _ := z_sA z38 17 5 (-1) (by decide)
  generalize sA M38 (o + 17) 5 (-1) = M39 at z39 ⊢
  clear z38
  rw [z39.rn (j := 17) (k := 20) (l := 20) (by decide)]
  refine ok_g (by decide) (ok_b ?_)
  try rw [show ixn (6 : Int32) = 6 from rfl]
  have z40 : Z o e 18 _ _ _ _ _ _ _ _ _ := z_sA z39 17 6 (-1) (by decide)
  generalize sA M39 (o + 17) 6 (-1) = M40 at z40 ⊢
  clear z39
  rw [z40.rn (j := 17) (k := 20) (l := 20) (by decide)]
  refine ok_g (by decide) (ok_b ?_)
  try rw [show ixn (7 : Int32) = 7 from rfl]
  have z41 : Z o e 18 _ _ _ _ _ _ _ _ _ := z_sA z40 17 7 (-1) (by decide)
  generalize sA M40 (o + 17) 7 (-1) = M41 at z41 ⊢
  clear z40
  rw [z41.rn (j := 17) (k := 20) (l := 20) (by decide)]
  refine ok_g (by decide) (ok_b ?_)
  try rw [show ixn (8 : Int32) = 8 from rfl]
  have z42 : Z o e 18 _ _ _ _ _ _ _ _ _ := z_sA z41 17 8 (-1) (by decide)
  generalize sA M41 (o + 17) 8 (-1) = M42 at z42 ⊢
  clear z41
  rw [z42.rn (j := 17) (k := 20) (l := 20) (by decide)]
  refine ok_g (by decide) (ok_b ?_)
  try rw [show ixn (9 : Int32) = 9 from rfl]
  have z43 : Z o e 18 _ _ _ _ _ _ _ _ _ := z_sA z42 17 9 (-1) (by decide)
  generalize sA M42 (o + 17) 9 (-1) = M43 at z43 ⊢
  clear z42
  rw [z43.rn (j := 17) (k := 20) (l := 20) (by decide)]
  refine ok_g (by decide) (ok_b ?_)
  try rw [show ixn (10 : Int32) = 10 from rfl]
  have z44 : Z o e 18 _ _ _ _ _ _ _ _ _ := z_sA z43 17 10 (-1) (by decide)
  generalize sA M43 (o + 17) 10 (-1) = M44 at z44 ⊢
  clear z43
  rw [z44.rn (j := 17) (k := 20) (l := 20) (by decide)]
  refine ok_g (by decide) (ok_b ?_)
  try rw [show ixn (11 : Int32) = 11 from rfl]
  have z45 : Z o e 18 _ _ _ _ _ _ _ _ _ := z_sA z44 17 11 (-1) (by decide)
  generalize sA M44 (o + 17) 11 (-1) = M45 at z45 ⊢
  clear z44
  rw [z45.rn (j := 17) (k := 20) (l := 20) (by decide)]
  refine ok_g (by decide) (ok_b ?_)
  try rw [show ixn (12 : Int32) = 12 from rfl]
  have z46 : Z o e 18 _ _ _ _ _ _ _ _ _ := z_sA z45 17 12 (-1) (by decide)
  generalize sA M45 (o + 17) 12 (-1) = M46 at z46 ⊢
  clear z45
  rw [z46.rn (j := 17) (k := 20) (l := 20) (by decide)]
  refine ok_g (by decide) (ok_b ?_)
  try rw [show ixn (13 : Int32) = 13 from rfl]
  have z47 : Z o e 18 _ _ _ _ _ _ _ _ _ := z_sA z46 17 13 (-1) (by decide)
  generalize sA M46 (o + 17) 13 (-1) = M47 at z47 ⊢
  clear z46
  rw [z47.rn (j := 17) (k := 20) (l := 20) (by decide)]
  refine ok_g (by decide) (ok_b ?_)
  try rw [show ixn (14 : Int32) = 14 from rfl]
  have z48 : Z o e 18 _ _ _ _ _ _ _ _ _ := z_sA z47 17 14 (-1) (by decide)
  generalize sA M47 (o + 17) 14 (-1) = M48 at z48 ⊢
  clear z47
  rw [z48.rn (j := 17) (k := 20) (l := 20) (by decide)]
  refine ok_g (by decide) (ok_b ?_)
  try rw [show ixn (15 : Int32) = 15 from rfl]
  have z49 : Z o e 18 _ _ _ _ _ _ _ _ _ := z_sA z48 17 15 (-1) (by decide)
  generalize sA M48 (o + 17) 15 (-1) = M49 at z49 ⊢
  clear z48
  rw [z49.rn (j := 17) (k := 20) (l := 20) (by decide)]
  refine ok_g (by decide) (ok_b ?_)
  try rw [show ixn (16 : Int32) = 16 from rfl]
  have z50 : Z o e 18 _ _ _ _ _ _ _ _ _ := z_sA z49 17 16 (-1) (by decide)
  generalize sA M49 (o + 17) 16 (-1) = M50 at z50 ⊢
  clear z49
  rw [z50.rn (j := 17) (k := 20) (l := 20) (by decide)]
  refine ok_g (by decide) (ok_b ?_)
  try rw [show ixn (17 : Int32) = 17 from rfl]
  have z51 : Z o e 18 _ _ _ _ _ _ _ _ _ := z_sA z50 17 17 (-1) (by decide)
  generalize sA M50 (o + 17) 17 (-1) = M51 at z51 ⊢
  clear z50
  rw [z51.rn (j := 17) (k := 20) (l := 20) (by decide)]
  refine ok_g (by decide) (ok_b ?_)
  try rw [show ixn (18 : Int32) = 18 from rfl]
  have z52 : Z o e 18 _ _ _ _ _ _ _ _ _ := z_sA z51 17 18 (-1) (by decide)
  generalize sA M51 (o + 17) 18 (-1) = M52 at z52 ⊢
  clear z51
  rw [z52.rn (j := 17) (k := 20) (l := 20) (by decide)]
  refine ok_g (by decide) (ok_b ?_)
  try rw [show ixn (19 : Int32) = 19 from rfl]
  have z53 : Z o e 18 _ _ _ _ _ _ _ _ _ := z_sA z52 17 19 (-1) (by decide)
  generalize sA M52 (o + 17) 19 (-1) = M53 at z53 ⊢
  clear z52
  replace z53 : Z o e 18 _ _ _ _ _ _ (upn (fun _ _ => 0) (o + 17) (-1) 20) _ _ := z53
  rw [upn_eq] at z53
  refine ok_b ?_
  have z54 : Z o e 18 _ _ _ _ _ _ _ _ _ := z_sR0 z53 1320 17 (by decide) (by decide) (by decide)
  generalize sR M53 1320 o (some (o + 17)) = M54 at z54 ⊢
  clear z53
  refine ok_g (by decide) (ok_b ?_)
  rw [z54.h]
  refine ok_b ?_
  try rw [show ixn (12 : Int32) = 12 from rfl]
  have z55 : Z o e 19 _ _ _ _ _ _ _ _ _ := z_nA z54 20 12
  generalize nA M54 20 12 = M55 at z55 ⊢
  clear z54
  refine ok_b ?_
  have z56 : Z o e 19 _ _ _ _ _ _ _ _ _ := z_sR0 z55 1321 18 (by decide) (by decide) (by decide)
  generalize sR M55 1321 o (some (o + 18)) = M56 at z56 ⊢
  clear z55
  refine ok_g (by decide) (ok_b ?_)
  rw [z56.h]
  refine ok_b ?_
  try rw [show ixn (8 : Int32) = 8 from rfl]
  have z57 : Z o e 20 _ _ _ _ _ _ _ _ _ := z_nA z56 20 8
  generalize nA M56 20 8 = M57 at z57 ⊢
  clear z56
  refine ok_b ?_
  have z58 : Z o e 20 _ _ _ _ _ _ _ _ _ := z_sR0 z57 1323 19 (by decide) (by decide) (by decide)
  generalize sR M57 1323 o (some (o + 19)) = M58 at z58 ⊢
  clear z57
  refine ok_g (by decide) (ok_b ?_)
  rw [z58.h]
  refine ok_b ?_
  try rw [show ixn (8 : Int32) = 8 from rfl]
  have z59 : Z o e 21 _ _ _ _ _ _ _ _ _ := z_nA z58 20 8
  generalize nA M58 20 8 = M59 at z59 ⊢
  clear z58
  refine ok_b ?_
  have z60 : Z o e 21 _ _ _ _ _ _ _ _ _ := z_sR0 z59 1324 20 (by decide) (by decide) (by decide)
  generalize sR M59 1324 o (some (o + 20)) = M60 at z60 ⊢
  clear z59
  refine ok_g (by decide) (ok_b ?_)
  rw [z60.h]
  refine ok_b ?_
  try rw [show ixn (24 : Int32) = 24 from rfl]
  have z61 : Z o e 22 _ _ _ _ _ _ _ _ _ := z_nA z60 20 24
  generalize nA M60 20 24 = M61 at z61 ⊢
  clear z60
  rw [z61.rn (j := 21) (k := 20) (l := 24) (by decide)]
  refine ok_g (by decide) (ok_b ?_)
  try rw [show ixn (0 : Int32) = 0 from rfl]
  have z62 : Z o e 22 _ _ _ _ _ _ _ _ _ := z_sA z61 21 0 (10) (by decide)
  generalize sA M61 (o + 21) 0 (10) = M62 at z62 ⊢
  clear z61
  rw [z62.rn (j := 21) (k := 20) (l := 24) (by decide)]
  refine ok_g (by decide) (ok_b ?_)
  try rw [show ixn (1 : Int32) = 1 from rfl]
  have z63 : Z o e 22 _ _ _ _ _ _ _ _ _ := z_sA z62 21 1 (10) (by decide)
  generalize sA M62 (o + 21) 1 (10) = M63 at z63 ⊢
  clear z62
  rw [z63.rn (j := 21) (k := 20) (l := 24) (by decide)]
  refine ok_g (by decide) (ok_b ?_)
  try rw [show ixn (2 : Int32) = 2 from rfl]
  have z64 : Z o e 22 _ _ _ _ _ _ _ _ _ := z_sA z63 21 2 (10) (by decide)
  generalize sA M63 (o + 21) 2 (10) = M64 at z64 ⊢
  clear z63
  rw [z64.rn (j := 21) (k := 20) (l := 24) (by decide)]
  refine ok_g (by decide) (ok_b ?_)
  try rw [show ixn (3 : Int32) = 3 from rfl]
  have z65 : Z o e 22 _ _ _ _ _ _ _ _ _ := z_sA z64 21 3 (10) (by decide)
  generalize sA M64 (o + 21) 3 (10) = M65 at z65 ⊢
  clear z64
  rw [z65.rn (j := 21) (k := 20) (l := 24) (by decide)]
  refine ok_g (by decide) (ok_b ?_)
  try rw [show ixn (4 : Int32) = 4 from rfl]
  have z66 : Z o e 22 _ _ _ _ _ _ _ _ _ := z_sA z65 21 4 (10) (by decide)
  generalize sA M65 (o + 21) 4 (10) = M66 at z66 ⊢
  clear z65
  rw [z66.rn (j := 21) (k := 20) (l := 24) (by decide)]
  refine ok_g (by decide) (ok_b ?_)
  try rw [show ixn (5 : Int32) = 5 from rfl]
  have z67 : Z o e 22 _ _ _ _ _ _ _ _ _ := z_sA z66 21 5 (10) (by decide)
  generalize sA M66 (o + 21) 5 (10) = M67 at z67 ⊢
  clear z66
  rw [z67.rn (j := 21) (k := 20) (l := 24) (by decide)]
  refine ok_g (by decide) (ok_b ?_)
  try rw [show ixn (6 : Int32) = 6 from rfl]
  have z68 : Z o e 22 _ _ _ _ _ _ _ _ _ := z_sA z67 21 6 (10) (by decide)
  generalize sA M67 (o + 21) 6 (10) = M68 at z68 ⊢
  clear z67
  rw [z68.rn (j := 21) (k := 20) (l := 24) (by decide)]
  refine ok_g (by decide) (ok_b ?_)
  try rw [show ixn (7 : Int32) = 7 from rfl]
  have z69 : Z o e 22 _ _ _ _ _ _ _ _ _ := z_sA z68 21 7 (10) (by decide)
  generalize sA M68 (o + 21) 7 (10) = M69 at z69 ⊢
  clear z68
  rw [z69.rn (j := 21) (k := 20) (l := 24) (by decide)]
  refine ok_g (by decide) (ok_b ?_)
  try rw [show ixn (8 : Int32) = 8 from rfl]
  have z70 : Z o e 22 _ _ _ _ _ _ _ _ _ := z_sA z69 21 8 (10) (by decide)
  generalize sA M69 (o + 21) 8 (10) = M70 at z70 ⊢
  clear z69
  rw [z70.rn (j := 21) (k := 20) (l := 24) (by decide)]
  refine ok_g (by decide) (ok_b ?_)
  try rw [show ixn (9 : Int32) = 9 from rfl]
  have z71 : Z o e 22 _ _ _ _ _ _ _ _ _ := z_sA z70 21 9 (10) (by decide)
  generalize sA M70 (o + 21) 9 (10) = M71 at z71 ⊢
  clear z70
  rw [z71.rn (j := 21) (k := 20) (l := 24) (by decide)]
  refine ok_g (by decide) (ok_b ?_)
  try rw [show ixn (10 : Int32) = 10 from rfl]
  have z72 : Z o e 22 _ _ _ _ _ _ _ _ _ := z_sA z71 21 10 (10) (by decide)
  generalize sA M71 (o + 21) 10 (10) = M72 at z72 ⊢
  clear z71
  rw [z72.rn (j := 21) (k := 20) (l := 24) (by decide)]
  refine ok_g (by decide) (ok_b ?_)
  try rw [show ixn (11 : Int32) = 11 from rfl]
  have z73 : Z o e 22 _ _ _ _ _ _ _ _ _ := z_sA z72 21 11 (10) (by decide)
  generalize sA M72 (o + 21) 11 (10) = M73 at z73 ⊢
  clear z72
  rw [z73.rn (j := 21) (k := 20) (l := 24) (by decide)]
  refine ok_g (by decide) (ok_b ?_)
  try rw [show ixn (12 : Int32) = 12 from rfl]
  have z74 : Z o e 22 _ _ _ _ _ _ _ _ _ := z_sA z73 21 12 (10) (by decide)
  generalize sA M73 (o + 21) 12 (10) = M74 at z74 ⊢
  clear z73
  rw [z74.rn (j := 21) (k := 20) (l := 24) (by decide)]
  refine ok_g (by decide) (ok_b ?_)
  try rw [show ixn (13 : Int32) = 13 from rfl]
  have z75 : Z o e 22 _ _ _ _ _ _ _ _ _ := z_sA z74 21 13 (10) (by decide)
  generalize sA M74 (o + 21) 13 (10) = M75 at z75 ⊢
  clear z74
  rw [z75.rn (j := 21) (k := 20) (l := 24) (by decide)]
  refine ok_g (by decide) (ok_b ?_)
  try rw [show ixn (14 : Int32) = 14 from rfl]
  have z76 : Z o e 22 _ _ _ _ _ _ _ _ _ := z_sA z75 21 14 (10) (by decide)
  generalize sA M75 (o + 21) 14 (10) = M76 at z76 ⊢
  clear z75
  rw [z76.rn (j := 21) (k := 20) (l := 24) (by decide)]
  refine ok_g (by decide) (ok_b ?_)
  try rw [show ixn (15 : Int32) = 15 from rfl]
  have z77 : Z o e 22 _ _ _ _ _ _ _ _ _ := z_sA z76 21 15 (10) (by decide)
  generalize sA M76 (o + 21) 15 (10) = M77 at z77 ⊢
  clear z76
  rw [z77.rn (j := 21) (k := 20) (l := 24) (by decide)]
  refine ok_g (by decide) (ok_b ?_)
  try rw [show ixn (16 : Int32) = 16 from rfl]
  have z78 : Z o e 22 _ _ _ _ _ _ _ _ _ := z_sA z77 21 16 (10) (by decide)
  generalize sA M77 (o + 21) 16 (10) = M78 at z78 ⊢
  clear z77
  rw [z78.rn (j := 21) (k := 20) (l := 24) (by decide)]
  refine ok_g (by decide) (ok_b ?_)
  try rw [show ixn (17 : Int32) = 17 from rfl]
  have z79 : Z o e 22 _ _ _ _ _ _ _ _ _ := z_sA z78 21 17 (10) (by decide)
  generalize sA M78 (o + 21) 17 (10) = M79 at z79 ⊢
  clear z78
  rw [z79.rn (j := 21) (k := 20) (l := 24) (by decide)]
  refine ok_g (by decide) (ok_b ?_)
  try rw [show ixn (18 : Int32) = 18 from rfl]
  have z80 : Z o e 22 _ _ _ _ _ _ _ _ _ := z_sA z79 21 18 (10) (by decide)
  generalize sA M79 (o + 21) 18 (10) = M80 at z80 ⊢
  clear z79
  rw [z80.rn (j := 21) (k := 20) (l := 24) (by decide)]
  refine ok_g (by decide) (ok_b ?_)
  try rw [show ixn (19 : Int32) = 19 from rfl]
  have z81 : Z o e 22 _ _ _ _ _ _ _ _ _ := z_sA z80 21 19 (10) (by decide)
  generalize sA M80 (o + 21) 19 (10) = M81 at z81 ⊢
  clear z80
  rw [z81.rn (j := 21) (k := 20) (l := 24) (by decide)]
  refine ok_g (by decide) (ok_b ?_)
  try rw [show ixn (20 : Int32) = 20 from rfl]
  have z82 : Z o e 22 _ _ _ _ _ _ _ _ _ := z_sA z81 21 20 (10) (by decide)
  generalize sA M81 (o + 21) 20 (10) = M82 at z82 ⊢
  clear z81
  rw [z82.rn (j := 21) (k := 20) (l := 24) (by decide)]
  refine ok_g (by decide) (ok_b ?_)
  try rw [show ixn (21 : Int32) = 21 from rfl]
  have z83 : Z o e 22 _ _ _ _ _ _ _ _ _ := z_sA z82 21 21 (10) (by decide)
  generalize sA M82 (o + 21) 21 (10) = M83 at z83 ⊢
  clear z82
  rw [z83.rn (j := 21) (k := 20) (l := 24) (by decide)]
  refine ok_g (by decide) (ok_b ?_)
  try rw [show ixn (22 : Int32) = 22 from rfl]
  have z84 : Z o e 22 _ _ _ _ _ _ _ _ _ := z_sA z83 21 22 (10) (by decide)
  generalize sA M83 (o + 21) 22 (10) = M84 at z84 ⊢
  clear z83
  rw [z84.rn (j := 21) (k := 20) (l := 24) (by decide)]
  refine ok_g (by decide) (ok_b ?_)
  try rw [show ixn (23 : Int32) = 23 from rfl]
  have z85 : Z o e 22 _ _ _ _ _ _ _ _ _ := z_sA z84 21 23 (10) (by decide)
  generalize sA M84 (o + 21) 23 (10) = M85 at z85 ⊢
  clear z84
  replace z85 : Z o e 22 _ _ _ _ _ _ (upn (fun y i => if y = o + 17 ∧ i < 20 then -1 else (fun _ _ => 0) y i) (o + 21) (10) 24) _ _ := z85
  rw [upn_eq] at z85
  refine ok_b ?_
  have z86 : Z o e 22 _ _ _ _ _ _ _ _ _ := z_sR0 z85 1325 21 (by decide) (by decide) (by decide)
  generalize sR M85 1325 o (some (o + 21)) = M86 at z86 ⊢
  clear z85
  refine ok_g (by decide) (ok_b ?_)
  rw [z86.h]
  refine ok_b ?_
  try rw [show ixn (24 : Int32) = 24 from rfl]
  have z87 : Z o e 23 _ _ _ _ _ _ _ _ _ := z_nA z86 20 24
  generalize nA M86 20 24 = M87 at z87 ⊢
  clear z86
  refine ok_b ?_
  have z88 : Z o e 23 _ _ _ _ _ _ _ _ _ := z_sR0 z87 1326 22 (by decide) (by decide) (by decide)
  generalize sR M87 1326 o (some (o + 22)) = M88 at z88 ⊢
  clear z87
  refine ok_g (by decide) (ok_b ?_)
  rw [z88.h]
  refine ok_b ?_
  try rw [show ixn (60 : Int32) = 60 from rfl]
  have z89 : Z o e 24 _ _ _ _ _ _ _ _ _ := z_nA z88 20 60
  generalize nA M88 20 60 = M89 at z89 ⊢
  clear z88
  refine ok_b ?_
  have z90 : Z o e 24 _ _ _ _ _ _ _ _ _ := z_sR0 z89 1327 23 (by decide) (by decide) (by decide)
  generalize sR M89 1327 o (some (o + 23)) = M90 at z90 ⊢
  clear z89
  refine ok_g (by decide) (ok_b ?_)
  rw [z90.h]
  refine ok_b ?_
  try rw [show ixn (30 : Int32) = 30 from rfl]
  have z91 : Z o e 25 _ _ _ _ _ _ _ _ _ := z_nA z90 20 30
  generalize nA M90 20 30 = M91 at z91 ⊢
  clear z90
  refine ok_b ?_
  have z92 : Z o e 25 _ _ _ _ _ _ _ _ _ := z_sR0 z91 1330 24 (by decide) (by decide) (by decide)
  generalize sR M91 1330 o (some (o + 24)) = M92 at z92 ⊢
  clear z91
  refine ok_g (by decide) (ok_b ?_)
  rw [z92.h]
  refine ok_b ?_
  try rw [show ixn (30 : Int32) = 30 from rfl]
  have z93 : Z o e 26 _ _ _ _ _ _ _ _ _ := z_nA z92 20 30
  generalize nA M92 20 30 = M93 at z93 ⊢
  clear z92
  refine ok_b ?_
  have z94 : Z o e 26 _ _ _ _ _ _ _ _ _ := z_sR0 z93 1331 25 (by decide) (by decide) (by decide)
  generalize sR M93 1331 o (some (o + 25)) = M94 at z94 ⊢
  clear z93
  refine ok_g (by decide) (ok_b ?_)
  rw [z94.h]
  refine ok_b ?_
  try rw [show ixn (30 : Int32) = 30 from rfl]
  have z95 : Z o e 27 _ _ _ _ _ _ _ _ _ := z_nA z94 20 30
  generalize nA M94 20 30 = M95 at z95 ⊢
  clear z94
  refine ok_b ?_
  have z96 : Z o e 27 _ _ _ _ _ _ _ _ _ := z_sR0 z95 1332 26 (by decide) (by decide) (by decide)
  generalize sR M95 1332 o (some (o + 26)) = M96 at z96 ⊢
  clear z95
  refine ok_g (by decide) (ok_b ?_)
  rw [z96.h]
  refine ok_b ?_
  try rw [show ixn (1860 : Int32) = 1860 from rfl]
  have z97 : Z o e 28 _ _ _ _ _ _ _ _ _ := z_nA z96 20 1860
  generalize nA M96 20 1860 = M97 at z97 ⊢
  clear z96
  refine ok_b ?_
  have z98 : Z o e 28 _ _ _ _ _ _ _ _ _ := z_sR0 z97 1333 27 (by decide) (by decide) (by decide)
  generalize sR M97 1333 o (some (o + 27)) = M98 at z98 ⊢
  clear z97
  refine ok_b ?_
  have z99 : Z o e 28 _ _ _ _ _ _ _ _ _ := z_sI0 z98 1335 100 (by decide)
  generalize sI M98 1335 o 100 = M99 at z99 ⊢
  clear z98
  refine ok_g (by decide) (ok_b ?_)
  rw [z99.h]
  refine ok_b ?_
  try rw [show ixn (20 : Int32) = 20 from rfl]
  have z100 : Z o e 29 _ _ _ _ _ _ _ _ _ := z_nA z99 20 20
  generalize nA M99 20 20 = M100 at z100 ⊢
  clear z99
  refine ok_b ?_
  have z101 : Z o e 29 _ _ _ _ _ _ _ _ _ := z_sR0 z100 1337 28 (by decide) (by decide) (by decide)
  generalize sR M100 1337 o (some (o + 28)) = M101 at z101 ⊢
  clear z100
  refine ok_g (by decide) (ok_b ?_)
  rw [z101.h]
  refine ok_b ?_
  try rw [show ixn (20 : Int32) = 20 from rfl]
  have z102 : Z o e 30 _ _ _ _ _ _ _ _ _ := z_nA z101 20 20
  generalize nA M101 20 20 = M102 at z102 ⊢
  clear z101
  refine ok_b ?_
  have z103 : Z o e 30 _ _ _ _ _ _ _ _ _ := z_sR0 z102 1338 29 (by decide) (by decide) (by decide)
  generalize sR M102 1338 o (some (o + 29)) = M103 at z103 ⊢
  clear z102
  refine ok_g (by decide) (ok_b ?_)
  rw [z103.h]
  refine ok_b ?_
  try rw [show ixn (20 : Int32) = 20 from rfl]
  have z104 : Z o e 31 _ _ _ _ _ _ _ _ _ := z_nA z103 21 20
  generalize nA M103 21 20 = M104 at z104 ⊢
  clear z103
  refine ok_b ?_
  have z105 : Z o e 31 _ _ _ _ _ _ _ _ _ := z_sR0 z104 1339 30 (by decide) (by decide) (by decide)
  generalize sR M104 1339 o (some (o + 30)) = M105 at z105 ⊢
  clear z104
  refine ok_g (by decide) (ok_b ?_)
  rw [z105.h]
  refine ok_b ?_
  try rw [show ixn (9 : Int32) = 9 from rfl]
  have z106 : Z o e 32 _ _ _ _ _ _ _ _ _ := z_nA z105 20 9
  generalize nA M105 20 9 = M106 at z106 ⊢
  clear z105
  rw [z106.rn (j := 31) (k := 20) (l := 9) (by decide)]
  refine ok_g (by decide) (ok_b ?_)
  try rw [show ixn (0 : Int32) = 0 from rfl]
  have z107 : Z o e 32 _ _ _ _ _ _ _ _ _ := z_sA z106 31 0 (104) (by decide)
  generalize sA M106 (o + 31) 0 (104) = M107 at z107 ⊢
  clear z106
  rw [z107.rn (j := 31) (k := 20) (l := 9) (by decide)]
  refine ok_g (by decide) (ok_b ?_)
  try rw [show ixn (1 : Int32) = 1 from rfl]
  have z108 : Z o e 32 _ _ _ _ _ _ _ _ _ := z_sA z107 31 1 (100) (by decide)
  generalize sA M107 (o + 31) 1 (100) = M108 at z108 ⊢
  clear z107
  rw [z108.rn (j := 31) (k := 20) (l := 9) (by decide)]
  refine ok_g (by decide) (ok_b ?_)
  try rw [show ixn (2 : Int32) = 2 from rfl]
  have z109 : Z o e 32 _ _ _ _ _ _ _ _ _ := z_sA z108 31 2 (112) (by decide)
  generalize sA M108 (o + 31) 2 (112) = M109 at z109 ⊢
  clear z108
  rw [z109.rn (j := 31) (k := 20) (l := 9) (by decide)]
  refine ok_g (by decide) (ok_b ?_)
  try rw [show ixn (3 : Int32) = 3 from rfl]
  have z110 : Z o e 32 _ _ _ _ _ _ _ _ _ := z_sA z109 31 3 (99) (by decide)
  generalize sA M109 (o + 31) 3 (99) = M110 at z110 ⊢
  clear z109
  rw [z110.rn (j := 31) (k := 20) (l := 9) (by decide)]
  refine ok_g (by decide) (ok_b ?_)
  try rw [show ixn (4 : Int32) = 4 from rfl]
  have z111 : Z o e 32 _ _ _ _ _ _ _ _ _ := z_sA z110 31 4 (110) (by decide)
  generalize sA M110 (o + 31) 4 (110) = M111 at z111 ⊢
  clear z110
  rw [z111.rn (j := 31) (k := 20) (l := 9) (by decide)]
  refine ok_g (by decide) (ok_b ?_)
  try rw [show ixn (5 : Int32) = 5 from rfl]
  have z112 : Z o e 32 _ _ _ _ _ _ _ _ _ := z_sA z111 31 5 (116) (by decide)
  generalize sA M111 (o + 31) 5 (116) = M112 at z112 ⊢
  clear z111
  rw [z112.rn (j := 31) (k := 20) (l := 9) (by decide)]
  refine ok_g (by decide) (ok_b ?_)
  try rw [show ixn (6 : Int32) = 6 from rfl]
  have z113 : Z o e 32 _ _ _ _ _ _ _ _ _ := z_sA z112 31 6 (114) (by decide)
  generalize sA M112 (o + 31) 6 (114) = M113 at z113 ⊢
  clear z112
  rw [z113.rn (j := 31) (k := 20) (l := 9) (by decide)]
  refine ok_g (by decide) (ok_b ?_)
  try rw [show ixn (7 : Int32) = 7 from rfl]
  have z114 : Z o e 32 _ _ _ _ _ _ _ _ _ := z_sA z113 31 7 (98) (by decide)
  generalize sA M113 (o + 31) 7 (98) = M114 at z114 ⊢
  clear z113
  rw [z114.rn (j := 31) (k := 20) (l := 9) (by decide)]
  refine ok_g (by decide) (ok_b ?_)
  try rw [show ixn (8 : Int32) = 8 from rfl]
  have z115 : Z o e 32 _ _ _ _ _ _ _ _ _ := z_sA z114 31 8 (102) (by decide)
  generalize sA M114 (o + 31) 8 (102) = M115 at z115 ⊢
  clear z114
  refine ok_b ?_
  have z116 : Z o e 32 _ _ _ _ _ _ _ _ _ := z_sR0 z115 1340 31 (by decide) (by decide) (by decide)
  generalize sR M115 1340 o (some (o + 31)) = M116 at z116 ⊢
  clear z115
  refine ok_g (by decide) (ok_b ?_)
  rw [z116.h]
  refine ok_b ?_
  try rw [show ixn (9 : Int32) = 9 from rfl]
  have z117 : Z o e 33 _ _ _ _ _ _ _ _ _ := z_nA z116 21 9
  generalize nA M116 21 9 = M117 at z117 ⊢
  clear z116
  refine ok_b ?_
  have z118 : Z o e 33 _ _ _ _ _ _ _ _ _ := z_sR0 z117 1344 32 (by decide) (by decide) (by decide)
  generalize sR M117 1344 o (some (o + 32)) = M118 at z118 ⊢
  clear z117
  refine ok_g (by decide) (ok_b ?_)
  rw [z118.h]
  refine ok_b ?_
  try rw [show ixn (62 : Int32) = 62 from rfl]
  have z119 : Z o e 34 _ _ _ _ _ _ _ _ _ := z_nA z118 21 62
  generalize nA M118 21 62 = M119 at z119 ⊢
  clear z118
  refine ok_b ?_
  have z120 : Z o e 34 _ _ _ _ _ _ _ _ _ := z_sR0 z119 1345 33 (by decide) (by decide) (by decide)
  generalize sR M119 1345 o (some (o + 33)) = M120 at z120 ⊢
  clear z119
  refine ok_g (by decide) (ok_b ?_)
  rw [z120.h]
  refine ok_b ?_
  try rw [show ixn (64 : Int32) = 64 from rfl]
  have z121 : Z o e 35 _ _ _ _ _ _ _ _ _ := z_nA z120 21 64
  generalize nA M120 21 64 = M121 at z121 ⊢
  clear z120
  refine ok_b ?_
  have z122 : Z o e 35 _ _ _ _ _ _ _ _ _ := z_sR0 z121 1346 34 (by decide) (by decide) (by decide)
  generalize sR M121 1346 o (some (o + 34)) = M122 at z122 ⊢
  clear z121
  refine ok_g (by decide) (ok_b ?_)
  rw [z122.h]
  refine ok_b ?_
  try rw [show ixn (64 : Int32) = 64 from rfl]
  have z123 : Z o e 36 _ _ _ _ _ _ _ _ _ := z_nA z122 21 64
  generalize nA M122 21 64 = M123 at z123 ⊢
  clear z122
  refine ok_b ?_
  have z124 : Z o e 36 _ _ _ _ _ _ _ _ _ := z_sR0 z123 1347 35 (by decide) (by decide) (by decide)
  generalize sR M123 1347 o (some (o + 35)) = M124 at z124 ⊢
  clear z123
  refine ok_g (by decide) (ok_b ?_)
  rw [z124.h]
  refine ok_b ?_
  try rw [show ixn (8 : Int32) = 8 from rfl]
  have z125 : Z o e 37 _ _ _ _ _ _ _ _ _ := z_nA z124 21 8
  generalize nA M124 21 8 = M125 at z125 ⊢
  clear z124
  refine ok_b ?_
  have z126 : Z o e 37 _ _ _ _ _ _ _ _ _ := z_sR0 z125 1348 36 (by decide) (by decide) (by decide)
  generalize sR M125 1348 o (some (o + 36)) = M126 at z126 ⊢
  clear z125
  refine ok_g (by decide) (ok_b ?_)
  rw [z126.h]
  refine ok_b ?_
  try rw [show ixn (8 : Int32) = 8 from rfl]
  have z127 : Z o e 38 _ _ _ _ _ _ _ _ _ := z_nA z126 21 8
  generalize nA M126 21 8 = M127 at z127 ⊢
  clear z126
  refine ok_b ?_
  have z128 : Z o e 38 _ _ _ _ _ _ _ _ _ := z_sR0 z127 1349 37 (by decide) (by decide) (by decide)
  generalize sR M127 1349 o (some (o + 37)) = M128 at z128 ⊢
  clear z127
  refine ok_g (by decide) (ok_b ?_)
  rw [z128.h]
  refine ok_b ?_
  try rw [show ixn (8 : Int32) = 8 from rfl]
  have z129 : Z o e 39 _ _ _ _ _ _ _ _ _ := z_nA z128 21 8
  generalize nA M128 21 8 = M129 at z129 ⊢
  clear z128
  refine ok_b ?_
  have z130 : Z o e 39 _ _ _ _ _ _ _ _ _ := z_sR0 z129 1350 38 (by decide) (by decide) (by decide)
  generalize sR M129 1350 o (some (o + 38)) = M130 at z130 ⊢
  clear z129
  refine ok_g (by decide) (ok_b ?_)
  rw [z130.h]
  refine ok_b ?_
  try rw [show ixn (64 : Int32) = 64 from rfl]
  have z131 : Z o e 40 _ _ _ _ _ _ _ _ _ := z_nA z130 21 64
  generalize nA M130 21 64 = M131 at z131 ⊢
  clear z130
  refine ok_b ?_
  have z132 : Z o e 40 _ _ _ _ _ _ _ _ _ := z_sR0 z131 1351 39 (by decide) (by decide) (by decide)
  generalize sR M131 1351 o (some (o + 39)) = M132 at z132 ⊢
  clear z131
  refine ok_g (by decide) (ok_b ?_)
  rw [z132.h]
  refine ok_b ?_
  try rw [show ixn (8 : Int32) = 8 from rfl]
  have z133 : Z o e 41 _ _ _ _ _ _ _ _ _ := z_nA z132 21 8
  generalize nA M132 21 8 = M133 at z133 ⊢
  clear z132
  refine ok_b ?_
  have z134 : Z o e 41 _ _ _ _ _ _ _ _ _ := z_sR0 z133 1352 40 (by decide) (by decide) (by decide)
  generalize sR M133 1352 o (some (o + 40)) = M134 at z134 ⊢
  clear z133
  refine ok_g (by decide) (ok_b ?_)
  rw [z134.h]
  refine ok_b ?_
  try rw [show ixn (9 : Int32) = 9 from rfl]
  have z135 : Z o e 42 _ _ _ _ _ _ _ _ _ := z_nA z134 21 9
  generalize nA M134 21 9 = M135 at z135 ⊢
  clear z134
  refine ok_b ?_
  have z136 : Z o e 42 _ _ _ _ _ _ _ _ _ := z_sR0 z135 1353 41 (by decide) (by decide) (by decide)
  generalize sR M135 1353 o (some (o + 41)) = M136 at z136 ⊢
  clear z135
  refine ok_g (by decide) (ok_b ?_)
  rw [z136.h]
  refine ok_b ?_
  try rw [show ixn (8 : Int32) = 8 from rfl]
  have z137 : Z o e 43 _ _ _ _ _ _ _ _ _ := z_nA z136 22 8
  generalize nA M136 22 8 = M137 at z137 ⊢
  clear z136
  refine ok_b ?_
  have z138 : Z o e 43 _ _ _ _ _ _ _ _ _ := z_sR0 z137 1354 42 (by decide) (by decide) (by decide)
  generalize sR M137 1354 o (some (o + 42)) = M138 at z138 ⊢
  clear z137
  refine ok_g (by decide) (ok_b ?_)
  rw [z138.h]
  refine ok_b ?_
  try rw [show ixn (250 : Int32) = 250 from rfl]
  have z139 : Z o e 44 _ _ _ _ _ _ _ _ _ := z_nA z138 21 250
  generalize nA M138 21 250 = M139 at z139 ⊢
  clear z138
  refine ok_b ?_
  have z140 : Z o e 44 _ _ _ _ _ _ _ _ _ := z_sR0 z139 1356 43 (by decide) (by decide) (by decide)
  generalize sR M139 1356 o (some (o + 43)) = M140 at z140 ⊢
  clear z139
  refine ok_g (by decide) (ok_b ?_)
  rw [z140.h]
  refine ok_b ?_
  try rw [show ixn (24 : Int32) = 24 from rfl]
  have z141 : Z o e 45 _ _ _ _ _ _ _ _ _ := z_nA z140 21 24
  generalize nA M140 21 24 = M141 at z141 ⊢
  clear z140
  refine ok_b ?_
  have z142 : Z o e 45 _ _ _ _ _ _ _ _ _ := z_sR0 z141 1357 44 (by decide) (by decide) (by decide)
  generalize sR M141 1357 o (some (o + 44)) = M142 at z142 ⊢
  clear z141
  refine ok_s ?_
  exact ⟨_, by omega, by omega, z142⟩
