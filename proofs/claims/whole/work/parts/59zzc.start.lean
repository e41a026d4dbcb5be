theorem z_lis {x e n s l : Nat} {tab row : List (Nat × Nat × Nat)} {knd : List (Nat × Nat)} {lst : List Nat} {ι α : Nat → Nat → Int32} {ω : Nat → Nat → Option Nat} {M : Mem} (z : Z x e n s tab knd row lst ι α ω M) (h1 : l ∈ lst) (h2 : (l, 1) ∈ knd) (h3 : ι 2 (x + l) = 0) (f tg : Nat → Nat) {m : Nat} (hm : m = 0) : LiS M (x + l) m f ∧ TG M tg (x + l) m := by
  subst hm
  have r := (z.2.2.2.2.2.1 l h1).2
  have i1 := z.2.1.1
  refine ⟨⟨z.k h2, by rw [i1, h3]; rfl, by omega, e, r, fun q => absurd q (by omega)⟩, e, r, fun q => absurd q (by omega), fun _ => z.ee.symm⟩
theorem z_csh {x e s1 : Nat} {M : Mem} (z : Z x e 54 s1 [(1208, 0, 53), (1207, 0, 52), (1206, 0, 49), (202, 49, 9), (201, 49, 6), (200, 49, 1), (204, 49, 51), (203, 49, 50), (1205, 0, 46), (202, 46, 9), (201, 46, 6), (200, 46, 1), (204, 46, 48), (203, 46, 47), (1204, 0, 16), (905, 16, 20), (904, 16, 19), (903, 16, 18), (902, 16, 17), (1203, 0, 13), (1001, 13, 15), (1000, 13, 14), (1202, 0, 9), (702, 9, 12), (701, 9, 11), (700, 9, 10), (1201, 0, 6), (801, 6, 8), (800, 6, 7), (1200, 0, 1), (1103, 1, 5), (1102, 1, 4), (1101, 1, 3), (1100, 1, 2)] [(52, 1), (50, 1), (49, 3), (47, 1), (46, 3), (16, 10), (13, 11), (10, 1), (9, 8), (6, 9), (2, 1), (1, 12), (0, 13)] ((53, 20, 7) :: (51, 21, 9) :: (48, 21, 9) :: ((20, 24, 25) :: ((List.range 25).map fun i => (20 + 1 + i, 21, 10)) ++ [(19, 21, 24), (18, 21, 24), (17, 21, 24), (15, 20, 60), (14, 20, 60), (12, 21, 60), (11, 21, 9), (8, 20, 8), (7, 20, 8), (5, 20, 24), (4, 20, 24), (3, 20, 12)])) [52, 50, 47, 10, 2] (up2 (fun _ _ => 0) 901 (x + 16) 100) (fun y k => if y = x + 4 ∧ k < 24 then 10 else 0) (fun y i => if y = x + 20 then (if i < 25 then some (x + 20 + 1 + i) else none) else none) M) : CSh x M := by
  refine ⟨fun t ht => (z.2.2.1 t ((by decide +kernel : ∀ t ∈ cTab, t ∈ [(1208, 0, 53), (1207, 0, 52), (1206, 0, 49), (202, 49, 9), (201, 49, 6), (200, 49, 1), (204, 49, 51), (203, 49, 50), (1205, 0, 46), (202, 46, 9), (201, 46, 6), (200, 46, 1), (204, 46, 48), (203, 46, 47), (1204, 0, 16), (905, 16, 20), (904, 16, 19), (903, 16, 18), (902, 16, 17), (1203, 0, 13), (1001, 13, 15), (1000, 13, 14), (1202, 0, 9), (702, 9, 12), (701, 9, 11), (700, 9, 10), (1201, 0, 6), (801, 6, 8), (800, 6, 7), (1200, 0, 1), (1103, 1, 5), (1102, 1, 4), (1101, 1, 3), (1100, 1, 2)]) t ht)).2, fun t ht => (z.2.2.2.1 t ((by decide +kernel : ∀ t ∈ cKnd, t ∈ [(52, 1), (50, 1), (49, 3), (47, 1), (46, 3), (16, 10), (13, 11), (10, 1), (9, 8), (6, 9), (2, 1), (1, 12), (0, 13)]) t ht)).2, fun t ht => (z.2.2.2.2.1 t ((by decide +kernel : ∀ t ∈ cRow, t ∈ ((53, 20, 7) :: (51, 21, 9) :: (48, 21, 9) :: ((20, 24, 25) :: ((List.range 25).map fun i => (20 + 1 + i, 21, 10)) ++ [(19, 21, 24), (18, 21, 24), (17, 21, 24), (15, 20, 60), (14, 20, 60), (12, 21, 60), (11, 21, 9), (8, 20, 8), (7, 20, 8), (5, 20, 24), (4, 20, 24), (3, 20, 12)]))) t ht)).2, fun i hi => ?_, by rw [z.h]; omega, by rw [z.ee]; exact z.2.2.2.2.2.2.2.1.2⟩
  have hm := (by decide +kernel : ∀ i, i < 25 → (21 + i, 21, 10) ∈ ((53, 20, 7) :: (51, 21, 9) :: (48, 21, 9) :: ((20, 24, 25) :: ((List.range 25).map fun i => (20 + 1 + i, 21, 10)) ++ [(19, 21, 24), (18, 21, 24), (17, 21, 24), (15, 20, 60), (14, 20, 60), (12, 21, 60), (11, 21, 9), (8, 20, 8), (7, 20, 8), (5, 20, 24), (4, 20, 24), (3, 20, 12)]))) i hi
  refine ⟨?_, z.rk hm, z.rn hm⟩
  rw [z.2.1.2.2.1]
  dsimp only
  rw [if_pos rfl, if_pos hi, show x + 20 + 1 + i = x + (21 + i) by omega]
theorem z_msh {o e s1 : Nat} {W : Mem} (z : Z o e 45 s1 [(1357, 0, 44), (1356, 0, 43), (1354, 0, 42), (1353, 0, 41), (1352, 0, 40), (1351, 0, 39), (1350, 0, 38), (1349, 0, 37), (1348, 0, 36), (1347, 0, 35), (1346, 0, 34), (1345, 0, 33), (1344, 0, 32), (1340, 0, 31), (1339, 0, 30), (1338, 0, 29), (1337, 0, 28), (1333, 0, 27), (1332, 0, 26), (1331, 0, 25), (1330, 0, 24), (1327, 0, 23), (1326, 0, 22), (1325, 0, 21), (1324, 0, 20), (1323, 0, 19), (1321, 0, 18), (1320, 0, 17), (1319, 0, 16), (1318, 0, 15), (1317, 0, 14), (1315, 0, 13), (1314, 0, 12), (1313, 0, 11), (1311, 0, 10), (1310, 0, 9), (1309, 0, 8), (1308, 0, 7), (1307, 0, 6), (1306, 0, 5), (1305, 0, 4), (1304, 0, 3), (1303, 0, 2), (1300, 0, 1)] [(0, 14)] [(44, 21, 24), (43, 21, 250), (42, 22, 8), (41, 21, 9), (40, 21, 8), (39, 21, 64), (38, 21, 8), (37, 21, 8), (36, 21, 8), (35, 21, 64), (34, 21, 64), (33, 21, 62), (32, 21, 9), (31, 20, 9), (30, 21, 20), (29, 20, 20), (28, 20, 20), (27, 20, 1860), (26, 20, 30), (25, 20, 30), (24, 20, 30), (23, 20, 60), (22, 20, 24), (21, 20, 24), (20, 20, 8), (19, 20, 8), (18, 20, 12), (17, 20, 20), (16, 20, 20), (15, 20, 20), (14, 20, 20), (13, 21, 9), (12, 21, 8), (11, 21, 64), (10, 22, 8), (9, 20, 8), (8, 20, 8), (7, 20, 8), (6, 20, 8), (5, 20, 8), (4, 20, 8), (3, 20, 8), (2, 20, 8), (1, 20, 7)] [] (up2 (fun _ _ => 0) 1335 o 100) (up2 (up2 (up2 (up2 (up2 (up2 (up2 (up2 (up2 (fun y i => if y = o + 21 ∧ i < 24 then 10 else (fun y i => if y = o + 17 ∧ i < 20 then -1 else (fun _ _ => 0) y i) y i) (o + 31) 0 104) (o + 31) 1 100) (o + 31) 2 112) (o + 31) 3 99) (o + 31) 4 110) (o + 31) 5 116) (o + 31) 6 114) (o + 31) 7 98) (o + 31) 8 102) (fun _ _ => none) W) : MSh o W := by
  refine ⟨(z.2.2.2.1 (0, 14) (by decide)).2, fun t ht => ?_, by rw [z.h]; omega⟩
  have h1 := (by decide +kernel : ∀ t ∈ mTab, (t.1, 0, t.2.1) ∈ [(1357, 0, 44), (1356, 0, 43), (1354, 0, 42), (1353, 0, 41), (1352, 0, 40), (1351, 0, 39), (1350, 0, 38), (1349, 0, 37), (1348, 0, 36), (1347, 0, 35), (1346, 0, 34), (1345, 0, 33), (1344, 0, 32), (1340, 0, 31), (1339, 0, 30), (1338, 0, 29), (1337, 0, 28), (1333, 0, 27), (1332, 0, 26), (1331, 0, 25), (1330, 0, 24), (1327, 0, 23), (1326, 0, 22), (1325, 0, 21), (1324, 0, 20), (1323, 0, 19), (1321, 0, 18), (1320, 0, 17), (1319, 0, 16), (1318, 0, 15), (1317, 0, 14), (1315, 0, 13), (1314, 0, 12), (1313, 0, 11), (1311, 0, 10), (1310, 0, 9), (1309, 0, 8), (1308, 0, 7), (1307, 0, 6), (1306, 0, 5), (1305, 0, 4), (1304, 0, 3), (1303, 0, 2), (1300, 0, 1)] ∧ (t.2.1, t.2.2.1, t.2.2.2) ∈ [(44, 21, 24), (43, 21, 250), (42, 22, 8), (41, 21, 9), (40, 21, 8), (39, 21, 64), (38, 21, 8), (37, 21, 8), (36, 21, 8), (35, 21, 64), (34, 21, 64), (33, 21, 62), (32, 21, 9), (31, 20, 9), (30, 21, 20), (29, 20, 20), (28, 20, 20), (27, 20, 1860), (26, 20, 30), (25, 20, 30), (24, 20, 30), (23, 20, 60), (22, 20, 24), (21, 20, 24), (20, 20, 8), (19, 20, 8), (18, 20, 12), (17, 20, 20), (16, 20, 20), (15, 20, 20), (14, 20, 20), (13, 21, 9), (12, 21, 8), (11, 21, 64), (10, 22, 8), (9, 20, 8), (8, 20, 8), (7, 20, 8), (6, 20, 8), (5, 20, 8), (4, 20, 8), (3, 20, 8), (2, 20, 8), (1, 20, 7)]) t ht
  exact ⟨z.r0 h1.1, z.rk h1.2, z.rn h1.2⟩
theorem z_ia {o e s1 : Nat} {W : Mem} (z : Z o e 45 s1 [(1357, 0, 44), (1356, 0, 43), (1354, 0, 42), (1353, 0, 41), (1352, 0, 40), (1351, 0, 39), (1350, 0, 38), (1349, 0, 37), (1348, 0, 36), (1347, 0, 35), (1346, 0, 34), (1345, 0, 33), (1344, 0, 32), (1340, 0, 31), (1339, 0, 30), (1338, 0, 29), (1337, 0, 28), (1333, 0, 27), (1332, 0, 26), (1331, 0, 25), (1330, 0, 24), (1327, 0, 23), (1326, 0, 22), (1325, 0, 21), (1324, 0, 20), (1323, 0, 19), (1321, 0, 18), (1320, 0, 17), (1319, 0, 16), (1318, 0, 15), (1317, 0, 14), (1315, 0, 13), (1314, 0, 12), (1313, 0, 11), (1311, 0, 10), (1310, 0, 9), (1309, 0, 8), (1308, 0, 7), (1307, 0, 6), (1306, 0, 5), (1305, 0, 4), (1304, 0, 3), (1303, 0, 2), (1300, 0, 1)] [(0, 14)] [(44, 21, 24), (43, 21, 250), (42, 22, 8), (41, 21, 9), (40, 21, 8), (39, 21, 64), (38, 21, 8), (37, 21, 8), (36, 21, 8), (35, 21, 64), (34, 21, 64), (33, 21, 62), (32, 21, 9), (31, 20, 9), (30, 21, 20), (29, 20, 20), (28, 20, 20), (27, 20, 1860), (26, 20, 30), (25, 20, 30), (24, 20, 30), (23, 20, 60), (22, 20, 24), (21, 20, 24), (20, 20, 8), (19, 20, 8), (18, 20, 12), (17, 20, 20), (16, 20, 20), (15, 20, 20), (14, 20, 20), (13, 21, 9), (12, 21, 8), (11, 21, 64), (10, 22, 8), (9, 20, 8), (8, 20, 8), (7, 20, 8), (6, 20, 8), (5, 20, 8), (4, 20, 8), (3, 20, 8), (2, 20, 8), (1, 20, 7)] [] (up2 (fun _ _ => 0) 1335 o 100) (up2 (up2 (up2 (up2 (up2 (up2 (up2 (up2 (up2 (fun y i => if y = o + 21 ∧ i < 24 then 10 else (fun y i => if y = o + 17 ∧ i < 20 then -1 else (fun _ _ => 0) y i) y i) (o + 31) 0 104) (o + 31) 1 100) (o + 31) 2 112) (o + 31) 3 99) (o + 31) 4 110) (o + 31) 5 116) (o + 31) 6 114) (o + 31) 7 98) (o + 31) 8 102) (fun _ _ => none) W) : (∀ f, ¬ f = 1335 → gI W f o = 0) ∧ gI W 1335 o = 100 ∧ (∀ j i, ¬ j = 31 → ¬ j = 21 → ¬ j = 17 → gA W (o + j) i = 0) ∧ (∀ i, i < 20 → gA W (o + 17) i = -1) ∧ (∀ i, i < 24 → gA W (o + 21) i = 10) ∧ ∀ k, k < 9 → gA W (o + 31) k = ltrs.getD k 0 := by
  rw [z.2.1.1, z.2.1.2.1]
  refine ⟨fun f hf => ?_, ?_, fun j i h1 h2 h3 => ?_, fun i hi => ?_, fun i hi => ?_, fun k hk => ?_⟩
  · rw [up2_at, if_neg (fun q => hf q.1)]
  · rw [up2_at, if_pos ⟨rfl, rfl⟩]
  · rw [up2_at, if_neg (by omega), up2_at, if_neg (by omega), up2_at, if_neg (by omega), up2_at, if_neg (by omega), up2_at, if_neg (by omega), up2_at, if_neg (by omega), up2_at, if_neg (by omega), up2_at, if_neg (by omega), up2_at, if_neg (by omega)]
    dsimp only
    rw [if_neg (by omega), if_neg (by omega)]
  · rw [up2_at, if_neg (by omega), up2_at, if_neg (by omega), up2_at, if_neg (by omega), up2_at, if_neg (by omega), up2_at, if_neg (by omega), up2_at, if_neg (by omega), up2_at, if_neg (by omega), up2_at, if_neg (by omega), up2_at, if_neg (by omega)]
    dsimp only
    rw [if_neg (by omega), if_pos ⟨rfl, hi⟩]
  · rw [up2_at, if_neg (by omega), up2_at, if_neg (by omega), up2_at, if_neg (by omega), up2_at, if_neg (by omega), up2_at, if_neg (by omega), up2_at, if_neg (by omega), up2_at, if_neg (by omega), up2_at, if_neg (by omega), up2_at, if_neg (by omega)]
    dsimp only
    rw [if_pos ⟨rfl, hi⟩]
  · rcases (show k = 0 ∨ k = 1 ∨ k = 2 ∨ k = 3 ∨ k = 4 ∨ k = 5 ∨ k = 6 ∨ k = 7 ∨ k = 8 by omega) with rfl | rfl | rfl | rfl | rfl | rfl | rfl | rfl | rfl
    · rw [up2_at, if_neg (by omega), up2_at, if_neg (by omega), up2_at, if_neg (by omega), up2_at, if_neg (by omega), up2_at, if_neg (by omega), up2_at, if_neg (by omega), up2_at, if_neg (by omega), up2_at, if_neg (by omega), up2_at, if_pos ⟨rfl, rfl⟩]
      rfl
    · rw [up2_at, if_neg (by omega), up2_at, if_neg (by omega), up2_at, if_neg (by omega), up2_at, if_neg (by omega), up2_at, if_neg (by omega), up2_at, if_neg (by omega), up2_at, if_neg (by omega), up2_at, if_pos ⟨rfl, rfl⟩]
      rfl
    · rw [up2_at, if_neg (by omega), up2_at, if_neg (by omega), up2_at, if_neg (by omega), up2_at, if_neg (by omega), up2_at, if_neg (by omega), up2_at, if_neg (by omega), up2_at, if_pos ⟨rfl, rfl⟩]
      rfl
    · rw [up2_at, if_neg (by omega), up2_at, if_neg (by omega), up2_at, if_neg (by omega), up2_at, if_neg (by omega), up2_at, if_neg (by omega), up2_at, if_pos ⟨rfl, rfl⟩]
      rfl
    · rw [up2_at, if_neg (by omega), up2_at, if_neg (by omega), up2_at, if_neg (by omega), up2_at, if_neg (by omega), up2_at, if_pos ⟨rfl, rfl⟩]
      rfl
    · rw [up2_at, if_neg (by omega), up2_at, if_neg (by omega), up2_at, if_neg (by omega), up2_at, if_pos ⟨rfl, rfl⟩]
      rfl
    · rw [up2_at, if_neg (by omega), up2_at, if_neg (by omega), up2_at, if_pos ⟨rfl, rfl⟩]
      rfl
    · rw [up2_at, if_neg (by omega), up2_at, if_pos ⟨rfl, rfl⟩]
      rfl
    · rw [up2_at, if_pos ⟨rfl, rfl⟩]
      rfl
theorem r_start {x o e s1 s2 : Nat} {M W : Mem} (z : Z x e 54 s1 [(1208, 0, 53), (1207, 0, 52), (1206, 0, 49), (202, 49, 9), (201, 49, 6), (200, 49, 1), (204, 49, 51), (203, 49, 50), (1205, 0, 46), (202, 46, 9), (201, 46, 6), (200, 46, 1), (204, 46, 48), (203, 46, 47), (1204, 0, 16), (905, 16, 20), (904, 16, 19), (903, 16, 18), (902, 16, 17), (1203, 0, 13), (1001, 13, 15), (1000, 13, 14), (1202, 0, 9), (702, 9, 12), (701, 9, 11), (700, 9, 10), (1201, 0, 6), (801, 6, 8), (800, 6, 7), (1200, 0, 1), (1103, 1, 5), (1102, 1, 4), (1101, 1, 3), (1100, 1, 2)] [(52, 1), (50, 1), (49, 3), (47, 1), (46, 3), (16, 10), (13, 11), (10, 1), (9, 8), (6, 9), (2, 1), (1, 12), (0, 13)] ((53, 20, 7) :: (51, 21, 9) :: (48, 21, 9) :: ((20, 24, 25) :: ((List.range 25).map fun i => (20 + 1 + i, 21, 10)) ++ [(19, 21, 24), (18, 21, 24), (17, 21, 24), (15, 20, 60), (14, 20, 60), (12, 21, 60), (11, 21, 9), (8, 20, 8), (7, 20, 8), (5, 20, 24), (4, 20, 24), (3, 20, 12)])) [52, 50, 47, 10, 2] (up2 (fun _ _ => 0) 901 (x + 16) 100) (fun y k => if y = x + 4 ∧ k < 24 then 10 else 0) (fun y i => if y = x + 20 then (if i < 25 then some (x + 20 + 1 + i) else none) else none) M) (w : Z o e 45 s2 [(1357, 0, 44), (1356, 0, 43), (1354, 0, 42), (1353, 0, 41), (1352, 0, 40), (1351, 0, 39), (1350, 0, 38), (1349, 0, 37), (1348, 0, 36), (1347, 0, 35), (1346, 0, 34), (1345, 0, 33), (1344, 0, 32), (1340, 0, 31), (1339, 0, 30), (1338, 0, 29), (1337, 0, 28), (1333, 0, 27), (1332, 0, 26), (1331, 0, 25), (1330, 0, 24), (1327, 0, 23), (1326, 0, 22), (1325, 0, 21), (1324, 0, 20), (1323, 0, 19), (1321, 0, 18), (1320, 0, 17), (1319, 0, 16), (1318, 0, 15), (1317, 0, 14), (1315, 0, 13), (1314, 0, 12), (1313, 0, 11), (1311, 0, 10), (1310, 0, 9), (1309, 0, 8), (1308, 0, 7), (1307, 0, 6), (1306, 0, 5), (1305, 0, 4), (1304, 0, 3), (1303, 0, 2), (1300, 0, 1)] [(0, 14)] [(44, 21, 24), (43, 21, 250), (42, 22, 8), (41, 21, 9), (40, 21, 8), (39, 21, 64), (38, 21, 8), (37, 21, 8), (36, 21, 8), (35, 21, 64), (34, 21, 64), (33, 21, 62), (32, 21, 9), (31, 20, 9), (30, 21, 20), (29, 20, 20), (28, 20, 20), (27, 20, 1860), (26, 20, 30), (25, 20, 30), (24, 20, 30), (23, 20, 60), (22, 20, 24), (21, 20, 24), (20, 20, 8), (19, 20, 8), (18, 20, 12), (17, 20, 20), (16, 20, 20), (15, 20, 20), (14, 20, 20), (13, 21, 9), (12, 21, 8), (11, 21, 64), (10, 22, 8), (9, 20, 8), (8, 20, 8), (7, 20, 8), (6, 20, 8), (5, 20, 8), (4, 20, 8), (3, 20, 8), (2, 20, 8), (1, 20, 7)] [] (up2 (fun _ _ => 0) 1335 o 100) (up2 (up2 (up2 (up2 (up2 (up2 (up2 (up2 (up2 (fun y i => if y = o + 21 ∧ i < 24 then 10 else (fun y i => if y = o + 17 ∧ i < 20 then -1 else (fun _ _ => 0) y i) y i) (o + 31) 0 104) (o + 31) 1 100) (o + 31) 2 112) (o + 31) 3 99) (o + 31) 4 110) (o + 31) 5 116) (o + 31) 6 114) (o + 31) 7 98) (o + 31) 8 102) (fun _ _ => none) W) : Rel x o M W := by
  have hC := z_csh z
  have hS := z_msh w
  obtain ⟨wi, w1335, wa, w17, w21, w31⟩ := z_ia w
  have wb := w.2.1.2.2.2.2
  have zb := z.2.1.2.2.2.2
  have zi : ∀ f j, ¬ f = 901 → gI M f (x + j) = 0 := fun f j hf => by
    rw [z.2.1.1, up2_at, if_neg (fun q => hf q.1)]
  have z901 : gI M 901 (x + 16) = 100 := by
    rw [z.2.1.1, up2_at, if_pos ⟨rfl, rfl⟩]
  have za : ∀ j i, ¬ j = 4 → gA M (x + j) i = 0 := fun j i hj => by
    rw [z.2.1.2.1]
    dsimp only
    rw [if_neg (by omega)]
  have z4 : ∀ i, i < 24 → gA M (x + 4) i = 10 := fun i hi => by
    rw [z.2.1.2.1]
    dsimp only
    rw [if_pos ⟨rfl, hi⟩]
  have ix0 : ixn (0 : Int32) = 0 := rfl
  have nb : nbW W o = 0 := by
    unfold nbW
    rw [wi 1302 (by omega), ix0]
  have nh : nhW W o = 0 := by
    unfold nhW
    rw [wi 1316 (by omega), ix0]
  have np : npW W o = 0 := by
    unfold npW
    rw [wi 1322 (by omega), ix0]
  have nr : nrW W o = 0 := by
    unfold nrW
    rw [wi 1329 (by omega), ix0]
  have nd : ndW W o = 0 := by
    unfold ndW
    rw [wi 1336 (by omega), ix0]
  have b0 : (0 : Int32).toInt = 0 := by decide
  have b10 : (10 : Int32).toInt = 10 := by decide
  have b100 : (100 : Int32).toInt = 100 := by decide
  have hI : MI o W := by
    refine ⟨hS, ⟨by rw [nb, wi 1302 (by omega)]; rfl, by omega⟩, fun b hb => absurd hb (by omega), fun b hb => absurd hb (by omega), fun b _ => Or.inl (wa 10 b (by omega) (by omega) (by omega)), ?_, ⟨by rw [nh, wi 1316 (by omega)]; rfl, by omega⟩, fun i hi => absurd hi (by omega), fun i _ => ?_, ⟨by rw [np, wi 1322 (by omega)]; rfl, by omega⟩, fun k hk => absurd hk (by omega), fun k hk => absurd hk (by omega), fun i hi => ?_, ⟨by rw [nr, wi 1329 (by omega)]; rfl, by omega⟩, fun r hr => absurd hr (by omega)⟩
    · rw [wi 1312 (by omega)]
      exact ⟨by omega, by omega⟩
    · rw [wa 18 i (by omega) (by omega) (by omega)]
      exact ⟨by omega, by omega⟩
    · rw [w21 i hi, wa 22 i (by omega) (by omega) (by omega)]
      exact ⟨⟨by omega, by omega⟩, ⟨by omega, by omega⟩⟩
  have io : ∀ l, (up2 (fun _ _ => (0 : Int32)) 901 (x + 16) 100) 2 (x + l) = 0 := fun l => by
    rw [up2_at, if_neg (fun q => absurd q.1 (by decide))]
  have l2 := z_lis (l := 2) z (by decide) (by decide) (io _) (fun _ => 0) (fun _ => 0) nh
  have l10 := z_lis (l := 10) z (by decide) (by decide) (io _) (fun _ => 0) (fun _ => 0) nr
  have l47 := z_lis (l := 47) z (by decide) (by decide) (io _) (fun _ => 0) (fun _ => 0) nb
  have l50 := z_lis (l := 50) z (by decide) (by decide) (io _) (fun _ => 0) (fun _ => 0) nb
  have l52 := z_lis (l := 52) z (by decide) (by decide) (io _) (fun _ => 0) (fun _ => 0) nd
  have bos : ∀ p, LiS M (p + 1) (nbW W o) (fun _ => 0) → BoS p M o W (fun _ => 0) (fun _ _ => 0) := fun p hp => ⟨hp, fun b k b' k' hb => absurd hb (by omega), fun b b' hb => absurd hb (by omega), fun b hb => absurd hb (by omega)⟩
  have hKH : KH M := ⟨fun a ha => by rw [z.h]; exact z.2.2.2.2.2.2.1 a ha, by rw [z.ee]; exact z.2.2.2.2.2.2.2.1.1⟩
  refine ⟨fun _ => 0, fun _ => 0, fun _ => 0, fun _ => 0, fun _ => 0, fun _ _ => 0, fun _ _ => 0, fun _ => 0, 0, ⟨⟨hC, hC.g46, hI, ⟨l2.1, fun i hi => absurd hi (by omega)⟩, ⟨fun i _ => ?_, fun i hi => ?_, fun i _ => ?_⟩, ⟨?_, fun k _ => ?_, fun k _ => ?_⟩, ⟨l10.1, fun r hr => absurd hr (by omega)⟩, bos _ l47.1, ⟨?_, fun b hb => absurd hb (by omega)⟩⟩, ⟨?_, fun b k hb => absurd hb (by omega), fun b k hb => absurd hb (by omega), fun b k hb => absurd hb (by omega), fun b hb => absurd hb (by omega), ?_⟩, bos _ l50.1, fun b k b' k' hb => absurd hb (by omega), fun b b' hb => absurd hb (by omega)⟩, ⟨⟨?_, by omega⟩, fun b k hb => absurd hb (by omega), ?_, ⟨0, ?_, by omega, fun i hi => absurd hi (by omega)⟩, w31, ⟨⟨0, ?_, by omega⟩, ?_⟩, ⟨?_, by omega, fun i hi => absurd hi (by omega)⟩, fun i _ hi => ?_, fun b _ hb => ?_⟩, ⟨?_, fun i _ => ?_⟩, ⟨?_, ?_, fun c _ => zb _ _⟩, fun i _ => ?_, ⟨l52.1, fun i hi => absurd hi (by omega)⟩, ⟨hKH, l2.2, l10.2, l47.2, l50.2, l52.2, fun b hb => absurd hb (by omega), fun b hb => absurd hb (by omega)⟩, fun i j hi => absurd hi (by omega)⟩
  · rw [za 3 i (by omega), wa 18 i (by omega) (by omega) (by omega)]
  · rw [z4 i hi, w21 i hi]
  · rw [za 5 i (by omega), wa 22 i (by omega) (by omega) (by omega)]
  · rw [zi 802 6 (by omega), wi 1322 (by omega)]
  · rw [za 7 k (by omega), wa 19 k (by omega) (by omega) (by omega)]
  · rw [za 8 k (by omega), wa 20 k (by omega) (by omega) (by omega)]
  · rw [zi 205 46 (by omega), wi 1312 (by omega)]
  · rw [zi 206 46 (by omega)]
    rfl
  · funext i
    rw [zb, wb]
  · rw [wi 1301 (by omega)]
    rfl
  · unfold E3
    rw [wb]
    exact ⟨by decide, by decide⟩
  · rw [wi 1328 (by omega)]
    rfl
  · rw [wi 1334 (by omega)]
    rfl
  · rw [w1335]
    exact ⟨by omega, by omega⟩
  · rw [nd, wi 1336 (by omega)]
    rfl
  · rw [w17 i hi]
    decide
  · exact ⟨wa 8 b (by omega) (by omega) (by omega), wa 9 b (by omega) (by omega) (by omega), wb _ _⟩
  · rw [zi 1002 13 (by omega), wi 1328 (by omega)]
  · rw [za 14 i (by omega), wa 23 i (by omega) (by omega) (by omega)]
  · rw [zi 900 16 (by omega), wi 1334 (by omega)]
  · rw [z901, w1335]
  · rw [za 53 i (by omega), wa 1 i (by omega) (by omega) (by omega)]
