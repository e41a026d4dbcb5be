/-- the skeleton: references (field, holder, target) -/
def cTab : List (Nat × Nat × Nat) := [(1200, 0, 1), (1201, 0, 6), (1202, 0, 9), (1203, 0, 13), (1204, 0, 16), (1205, 0, 46), (1206, 0, 49), (1207, 0, 52), (1208, 0, 53), (1100, 1, 2), (1101, 1, 3), (1102, 1, 4), (1103, 1, 5), (800, 6, 7), (801, 6, 8), (700, 9, 10), (701, 9, 11), (702, 9, 12), (1000, 13, 14), (1001, 13, 15), (902, 16, 17), (903, 16, 18), (904, 16, 19), (905, 16, 20), (200, 46, 1), (201, 46, 6), (202, 46, 9), (203, 46, 47), (204, 46, 48), (200, 49, 1), (201, 49, 6), (202, 49, 9), (203, 49, 50), (204, 49, 51)]
def cKnd : List (Nat × Nat) := [(0, 13), (1, 12), (2, 1), (6, 9), (9, 8), (10, 1), (13, 11), (16, 10), (46, 3), (47, 1), (49, 3), (50, 1), (52, 1)]
def cRow : List (Nat × Nat × Nat) := [(3, 20, 12), (4, 20, 24), (5, 20, 24), (7, 20, 8), (8, 20, 8), (11, 21, 9), (12, 21, 60), (14, 20, 60), (15, 20, 60), (17, 21, 24), (18, 21, 24), (19, 21, 24), (20, 24, 25), (48, 21, 9), (51, 21, 9), (53, 20, 7)]
/-- the class's object x with all that is made once behind it -/
def CSh (x : Nat) (M : Mem) : Prop := (∀ t ∈ cTab, gR M t.1 (x + t.2.1) = some (x + t.2.2)) ∧ (∀ t ∈ cKnd, gK M (x + t.1) = t.2) ∧ (∀ t ∈ cRow, gK M (x + t.1) = t.2.1 ∧ gN M (x + t.1) = t.2.2) ∧ (∀ i, i < 25 → gO M (x + 20) i = some (x + (21 + i)) ∧ gK M (x + (21 + i)) = 21 ∧ gN M (x + (21 + i)) = 10) ∧ x + 54 ≤ gH M ∧ gE M < x
theorem CSh.r1200 {x : Nat} {M : Mem} (h : CSh x M) : gR M 1200 x = some (x + 1) := h.1 (1200, 0, 1) (by decide)
theorem CSh.r1201 {x : Nat} {M : Mem} (h : CSh x M) : gR M 1201 x = some (x + 6) := h.1 (1201, 0, 6) (by decide)
theorem CSh.r1202 {x : Nat} {M : Mem} (h : CSh x M) : gR M 1202 x = some (x + 9) := h.1 (1202, 0, 9) (by decide)
theorem CSh.r1203 {x : Nat} {M : Mem} (h : CSh x M) : gR M 1203 x = some (x + 13) := h.1 (1203, 0, 13) (by decide)
theorem CSh.r1204 {x : Nat} {M : Mem} (h : CSh x M) : gR M 1204 x = some (x + 16) := h.1 (1204, 0, 16) (by decide)
theorem CSh.r1205 {x : Nat} {M : Mem} (h : CSh x M) : gR M 1205 x = some (x + 46) := h.1 (1205, 0, 46) (by decide)
theorem CSh.r1206 {x : Nat} {M : Mem} (h : CSh x M) : gR M 1206 x = some (x + 49) := h.1 (1206, 0, 49) (by decide)
theorem CSh.r1207 {x : Nat} {M : Mem} (h : CSh x M) : gR M 1207 x = some (x + 52) := h.1 (1207, 0, 52) (by decide)
theorem CSh.r1208 {x : Nat} {M : Mem} (h : CSh x M) : gR M 1208 x = some (x + 53) := h.1 (1208, 0, 53) (by decide)
theorem CSh.r1100 {x : Nat} {M : Mem} (h : CSh x M) : gR M 1100 (x + 1) = some (x + 2) := h.1 (1100, 1, 2) (by decide)
theorem CSh.r1101 {x : Nat} {M : Mem} (h : CSh x M) : gR M 1101 (x + 1) = some (x + 3) := h.1 (1101, 1, 3) (by decide)
theorem CSh.r1102 {x : Nat} {M : Mem} (h : CSh x M) : gR M 1102 (x + 1) = some (x + 4) := h.1 (1102, 1, 4) (by decide)
theorem CSh.r1103 {x : Nat} {M : Mem} (h : CSh x M) : gR M 1103 (x + 1) = some (x + 5) := h.1 (1103, 1, 5) (by decide)
theorem CSh.r800 {x : Nat} {M : Mem} (h : CSh x M) : gR M 800 (x + 6) = some (x + 7) := h.1 (800, 6, 7) (by decide)
theorem CSh.r801 {x : Nat} {M : Mem} (h : CSh x M) : gR M 801 (x + 6) = some (x + 8) := h.1 (801, 6, 8) (by decide)
theorem CSh.r700 {x : Nat} {M : Mem} (h : CSh x M) : gR M 700 (x + 9) = some (x + 10) := h.1 (700, 9, 10) (by decide)
theorem CSh.r701 {x : Nat} {M : Mem} (h : CSh x M) : gR M 701 (x + 9) = some (x + 11) := h.1 (701, 9, 11) (by decide)
theorem CSh.r702 {x : Nat} {M : Mem} (h : CSh x M) : gR M 702 (x + 9) = some (x + 12) := h.1 (702, 9, 12) (by decide)
theorem CSh.r1000 {x : Nat} {M : Mem} (h : CSh x M) : gR M 1000 (x + 13) = some (x + 14) := h.1 (1000, 13, 14) (by decide)
theorem CSh.r1001 {x : Nat} {M : Mem} (h : CSh x M) : gR M 1001 (x + 13) = some (x + 15) := h.1 (1001, 13, 15) (by decide)
theorem CSh.r902 {x : Nat} {M : Mem} (h : CSh x M) : gR M 902 (x + 16) = some (x + 17) := h.1 (902, 16, 17) (by decide)
theorem CSh.r903 {x : Nat} {M : Mem} (h : CSh x M) : gR M 903 (x + 16) = some (x + 18) := h.1 (903, 16, 18) (by decide)
theorem CSh.r904 {x : Nat} {M : Mem} (h : CSh x M) : gR M 904 (x + 16) = some (x + 19) := h.1 (904, 16, 19) (by decide)
theorem CSh.r905 {x : Nat} {M : Mem} (h : CSh x M) : gR M 905 (x + 16) = some (x + 20) := h.1 (905, 16, 20) (by decide)
theorem CSh.r200_46 {x : Nat} {M : Mem} (h : CSh x M) : gR M 200 (x + 46) = some (x + 1) := h.1 (200, 46, 1) (by decide)
theorem CSh.r201_46 {x : Nat} {M : Mem} (h : CSh x M) : gR M 201 (x + 46) = some (x + 6) := h.1 (201, 46, 6) (by decide)
theorem CSh.r202_46 {x : Nat} {M : Mem} (h : CSh x M) : gR M 202 (x + 46) = some (x + 9) := h.1 (202, 46, 9) (by decide)
theorem CSh.r203_46 {x : Nat} {M : Mem} (h : CSh x M) : gR M 203 (x + 46) = some (x + 47) := h.1 (203, 46, 47) (by decide)
theorem CSh.r204_46 {x : Nat} {M : Mem} (h : CSh x M) : gR M 204 (x + 46) = some (x + 48) := h.1 (204, 46, 48) (by decide)
theorem CSh.r200_49 {x : Nat} {M : Mem} (h : CSh x M) : gR M 200 (x + 49) = some (x + 1) := h.1 (200, 49, 1) (by decide)
theorem CSh.r201_49 {x : Nat} {M : Mem} (h : CSh x M) : gR M 201 (x + 49) = some (x + 6) := h.1 (201, 49, 6) (by decide)
theorem CSh.r202_49 {x : Nat} {M : Mem} (h : CSh x M) : gR M 202 (x + 49) = some (x + 9) := h.1 (202, 49, 9) (by decide)
theorem CSh.r203_49 {x : Nat} {M : Mem} (h : CSh x M) : gR M 203 (x + 49) = some (x + 50) := h.1 (203, 49, 50) (by decide)
theorem CSh.r204_49 {x : Nat} {M : Mem} (h : CSh x M) : gR M 204 (x + 49) = some (x + 51) := h.1 (204, 49, 51) (by decide)
theorem CSh.k0 {x : Nat} {M : Mem} (h : CSh x M) : gK M x = 13 := h.2.1 (0, 13) (by decide)
theorem CSh.k1 {x : Nat} {M : Mem} (h : CSh x M) : gK M (x + 1) = 12 := h.2.1 (1, 12) (by decide)
theorem CSh.k2 {x : Nat} {M : Mem} (h : CSh x M) : gK M (x + 2) = 1 := h.2.1 (2, 1) (by decide)
theorem CSh.k6 {x : Nat} {M : Mem} (h : CSh x M) : gK M (x + 6) = 9 := h.2.1 (6, 9) (by decide)
theorem CSh.k9 {x : Nat} {M : Mem} (h : CSh x M) : gK M (x + 9) = 8 := h.2.1 (9, 8) (by decide)
theorem CSh.k10 {x : Nat} {M : Mem} (h : CSh x M) : gK M (x + 10) = 1 := h.2.1 (10, 1) (by decide)
theorem CSh.k13 {x : Nat} {M : Mem} (h : CSh x M) : gK M (x + 13) = 11 := h.2.1 (13, 11) (by decide)
theorem CSh.k16 {x : Nat} {M : Mem} (h : CSh x M) : gK M (x + 16) = 10 := h.2.1 (16, 10) (by decide)
theorem CSh.k46 {x : Nat} {M : Mem} (h : CSh x M) : gK M (x + 46) = 3 := h.2.1 (46, 3) (by decide)
theorem CSh.k47 {x : Nat} {M : Mem} (h : CSh x M) : gK M (x + 47) = 1 := h.2.1 (47, 1) (by decide)
theorem CSh.k49 {x : Nat} {M : Mem} (h : CSh x M) : gK M (x + 49) = 3 := h.2.1 (49, 3) (by decide)
theorem CSh.k50 {x : Nat} {M : Mem} (h : CSh x M) : gK M (x + 50) = 1 := h.2.1 (50, 1) (by decide)
theorem CSh.k52 {x : Nat} {M : Mem} (h : CSh x M) : gK M (x + 52) = 1 := h.2.1 (52, 1) (by decide)
theorem CSh.k3 {x : Nat} {M : Mem} (h : CSh x M) : gK M (x + 3) = 20 := (h.2.2.1 (3, 20, 12) (by decide)).1
theorem CSh.n3 {x : Nat} {M : Mem} (h : CSh x M) : gN M (x + 3) = 12 := (h.2.2.1 (3, 20, 12) (by decide)).2
theorem CSh.k4 {x : Nat} {M : Mem} (h : CSh x M) : gK M (x + 4) = 20 := (h.2.2.1 (4, 20, 24) (by decide)).1
theorem CSh.n4 {x : Nat} {M : Mem} (h : CSh x M) : gN M (x + 4) = 24 := (h.2.2.1 (4, 20, 24) (by decide)).2
theorem CSh.k5 {x : Nat} {M : Mem} (h : CSh x M) : gK M (x + 5) = 20 := (h.2.2.1 (5, 20, 24) (by decide)).1
theorem CSh.n5 {x : Nat} {M : Mem} (h : CSh x M) : gN M (x + 5) = 24 := (h.2.2.1 (5, 20, 24) (by decide)).2
theorem CSh.k7 {x : Nat} {M : Mem} (h : CSh x M) : gK M (x + 7) = 20 := (h.2.2.1 (7, 20, 8) (by decide)).1
theorem CSh.n7 {x : Nat} {M : Mem} (h : CSh x M) : gN M (x + 7) = 8 := (h.2.2.1 (7, 20, 8) (by decide)).2
theorem CSh.k8 {x : Nat} {M : Mem} (h : CSh x M) : gK M (x + 8) = 20 := (h.2.2.1 (8, 20, 8) (by decide)).1
theorem CSh.n8 {x : Nat} {M : Mem} (h : CSh x M) : gN M (x + 8) = 8 := (h.2.2.1 (8, 20, 8) (by decide)).2
theorem CSh.k11 {x : Nat} {M : Mem} (h : CSh x M) : gK M (x + 11) = 21 := (h.2.2.1 (11, 21, 9) (by decide)).1
theorem CSh.n11 {x : Nat} {M : Mem} (h : CSh x M) : gN M (x + 11) = 9 := (h.2.2.1 (11, 21, 9) (by decide)).2
theorem CSh.k12 {x : Nat} {M : Mem} (h : CSh x M) : gK M (x + 12) = 21 := (h.2.2.1 (12, 21, 60) (by decide)).1
theorem CSh.n12 {x : Nat} {M : Mem} (h : CSh x M) : gN M (x + 12) = 60 := (h.2.2.1 (12, 21, 60) (by decide)).2
theorem CSh.k14 {x : Nat} {M : Mem} (h : CSh x M) : gK M (x + 14) = 20 := (h.2.2.1 (14, 20, 60) (by decide)).1
theorem CSh.n14 {x : Nat} {M : Mem} (h : CSh x M) : gN M (x + 14) = 60 := (h.2.2.1 (14, 20, 60) (by decide)).2
theorem CSh.k15 {x : Nat} {M : Mem} (h : CSh x M) : gK M (x + 15) = 20 := (h.2.2.1 (15, 20, 60) (by decide)).1
theorem CSh.n15 {x : Nat} {M : Mem} (h : CSh x M) : gN M (x + 15) = 60 := (h.2.2.1 (15, 20, 60) (by decide)).2
theorem CSh.k17 {x : Nat} {M : Mem} (h : CSh x M) : gK M (x + 17) = 21 := (h.2.2.1 (17, 21, 24) (by decide)).1
theorem CSh.n17 {x : Nat} {M : Mem} (h : CSh x M) : gN M (x + 17) = 24 := (h.2.2.1 (17, 21, 24) (by decide)).2
theorem CSh.k18 {x : Nat} {M : Mem} (h : CSh x M) : gK M (x + 18) = 21 := (h.2.2.1 (18, 21, 24) (by decide)).1
theorem CSh.n18 {x : Nat} {M : Mem} (h : CSh x M) : gN M (x + 18) = 24 := (h.2.2.1 (18, 21, 24) (by decide)).2
theorem CSh.k19 {x : Nat} {M : Mem} (h : CSh x M) : gK M (x + 19) = 21 := (h.2.2.1 (19, 21, 24) (by decide)).1
theorem CSh.n19 {x : Nat} {M : Mem} (h : CSh x M) : gN M (x + 19) = 24 := (h.2.2.1 (19, 21, 24) (by decide)).2
theorem CSh.k20 {x : Nat} {M : Mem} (h : CSh x M) : gK M (x + 20) = 24 := (h.2.2.1 (20, 24, 25) (by decide)).1
theorem CSh.n20 {x : Nat} {M : Mem} (h : CSh x M) : gN M (x + 20) = 25 := (h.2.2.1 (20, 24, 25) (by decide)).2
theorem CSh.k48 {x : Nat} {M : Mem} (h : CSh x M) : gK M (x + 48) = 21 := (h.2.2.1 (48, 21, 9) (by decide)).1
theorem CSh.n48 {x : Nat} {M : Mem} (h : CSh x M) : gN M (x + 48) = 9 := (h.2.2.1 (48, 21, 9) (by decide)).2
theorem CSh.k51 {x : Nat} {M : Mem} (h : CSh x M) : gK M (x + 51) = 21 := (h.2.2.1 (51, 21, 9) (by decide)).1
theorem CSh.n51 {x : Nat} {M : Mem} (h : CSh x M) : gN M (x + 51) = 9 := (h.2.2.1 (51, 21, 9) (by decide)).2
theorem CSh.k53 {x : Nat} {M : Mem} (h : CSh x M) : gK M (x + 53) = 20 := (h.2.2.1 (53, 20, 7) (by decide)).1
theorem CSh.n53 {x : Nat} {M : Mem} (h : CSh x M) : gN M (x + 53) = 7 := (h.2.2.1 (53, 20, 7) (by decide)).2
theorem CSh.cr {x : Nat} {M : Mem} (h : CSh x M) {i : Nat} (hi : i < 25) : gO M (x + 20) i = some (x + (21 + i)) ∧ gK M (x + (21 + i)) = 21 ∧ gN M (x + (21 + i)) = 10 := h.2.2.2.1 i hi
theorem CSh.top {x : Nat} {M : Mem} (h : CSh x M) : x + 54 ≤ gH M := h.2.2.2.2.1
theorem CSh.emp {x : Nat} {M : Mem} (h : CSh x M) : gE M < x := h.2.2.2.2.2
/-- a list l of n things -/
def LiS (M : Mem) (l n : Nat) (f : Nat → Nat) : Prop := gK M l = 1 ∧ gI M 2 l = Int32.ofNat n ∧ n ≤ 10000 ∧ ∃ el, gR M 1 l = some el ∧ (0 < n → gK M el = 23 ∧ n ≤ gN M el ∧ gN M el ≤ 10000 ∧ ∀ i, i < n → gO M el i = some (f i))
theorem c_get {M : Mem} {l n : Nat} {f : Nat → Nat} (h : LiS M l n f) {i : Nat} (hi : i < n) : F_Jx4a65c_get_915e3 M l (Int32.ofNat i) = some (M, some (f i)) := by
  obtain ⟨h1, h2, h3, el, h4, h5⟩ := h
  obtain ⟨k1, k2, k3, k4⟩ := h5 (by omega)
  have i1 : inb (Int32.ofNat i) (gN M el) := ofN_inb (by omega) (by omega)
  have i2 : ixn (Int32.ofNat i) = i := ofN_ix (by omega)
  have c1 : ¬ Int32.ofNat i < 0 := by
    rw [Int32.lt_iff_toInt_lt, ofN_toInt (by omega)]
    simp
  have c2 : Int32.ofNat i < Int32.ofNat n := (ofN_lt (by omega) (by omega)).mpr hi
  unfold F_Jx4a65c_get_915e3 F_J15_checkIndex_7cf53 F_J3_checkIndex_8e157 F_Jx4a65c_elementData_915e3
  rw [h2]
  simp only [c1, if_false, c2, if_true, cl_some, h4, nn, k1, grd_pos i1, i2, k4 i hi]
  rfl
theorem c_size (M : Mem) (l : Nat) : F_Jx4a65c_size_8abf5 M l = some (M, gI M 2 l) := rfl
