/-- the model's rows: field, place, kind, length -/
def mTab : List (Nat × Nat × Nat × Nat) := [(1300, 1, 20, 7), (1303, 2, 20, 8), (1304, 3, 20, 8), (1305, 4, 20, 8), (1306, 5, 20, 8), (1307, 6, 20, 8), (1308, 7, 20, 8), (1309, 8, 20, 8), (1310, 9, 20, 8), (1311, 10, 22, 8), (1313, 11, 21, 64), (1314, 12, 21, 8), (1315, 13, 21, 9), (1317, 14, 20, 20), (1318, 15, 20, 20), (1319, 16, 20, 20), (1320, 17, 20, 20), (1321, 18, 20, 12), (1323, 19, 20, 8), (1324, 20, 20, 8), (1325, 21, 20, 24), (1326, 22, 20, 24), (1327, 23, 20, 60), (1330, 24, 20, 30), (1331, 25, 20, 30), (1332, 26, 20, 30), (1333, 27, 20, 1860), (1337, 28, 20, 20), (1338, 29, 20, 20), (1339, 30, 21, 20), (1340, 31, 20, 9), (1344, 32, 21, 9), (1345, 33, 21, 62), (1346, 34, 21, 64), (1347, 35, 21, 64), (1348, 36, 21, 8), (1349, 37, 21, 8), (1350, 38, 21, 8), (1351, 39, 21, 64), (1352, 40, 21, 8), (1353, 41, 21, 9), (1354, 42, 22, 8), (1356, 43, 21, 250), (1357, 44, 21, 24)]
/-- the model's object o with its rows behind it -/
def MSh (o : Nat) (M : Mem) : Prop := gK M o = 14 ∧ (∀ t ∈ mTab, gR M t.1 o = some (o + t.2.1) ∧ gK M (o + t.2.1) = t.2.2.1 ∧ gN M (o + t.2.1) = t.2.2.2) ∧ o + 44 < gH M
theorem MSh.r1300 {o : Nat} {M : Mem} (h : MSh o M) : gR M 1300 o = some (o + 1) := (h.2.1 (1300, 1, 20, 7) (by decide)).1
theorem MSh.k1 {o : Nat} {M : Mem} (h : MSh o M) : gK M (o + 1) = 20 := (h.2.1 (1300, 1, 20, 7) (by decide)).2.1
theorem MSh.n1 {o : Nat} {M : Mem} (h : MSh o M) : gN M (o + 1) = 7 := (h.2.1 (1300, 1, 20, 7) (by decide)).2.2
theorem MSh.r1303 {o : Nat} {M : Mem} (h : MSh o M) : gR M 1303 o = some (o + 2) := (h.2.1 (1303, 2, 20, 8) (by decide)).1
theorem MSh.k2 {o : Nat} {M : Mem} (h : MSh o M) : gK M (o + 2) = 20 := (h.2.1 (1303, 2, 20, 8) (by decide)).2.1
theorem MSh.n2 {o : Nat} {M : Mem} (h : MSh o M) : gN M (o + 2) = 8 := (h.2.1 (1303, 2, 20, 8) (by decide)).2.2
theorem MSh.r1304 {o : Nat} {M : Mem} (h : MSh o M) : gR M 1304 o = some (o + 3) := (h.2.1 (1304, 3, 20, 8) (by decide)).1
theorem MSh.k3 {o : Nat} {M : Mem} (h : MSh o M) : gK M (o + 3) = 20 := (h.2.1 (1304, 3, 20, 8) (by decide)).2.1
theorem MSh.n3 {o : Nat} {M : Mem} (h : MSh o M) : gN M (o + 3) = 8 := (h.2.1 (1304, 3, 20, 8) (by decide)).2.2
theorem MSh.r1305 {o : Nat} {M : Mem} (h : MSh o M) : gR M 1305 o = some (o + 4) := (h.2.1 (1305, 4, 20, 8) (by decide)).1
theorem MSh.k4 {o : Nat} {M : Mem} (h : MSh o M) : gK M (o + 4) = 20 := (h.2.1 (1305, 4, 20, 8) (by decide)).2.1
theorem MSh.n4 {o : Nat} {M : Mem} (h : MSh o M) : gN M (o + 4) = 8 := (h.2.1 (1305, 4, 20, 8) (by decide)).2.2
theorem MSh.r1306 {o : Nat} {M : Mem} (h : MSh o M) : gR M 1306 o = some (o + 5) := (h.2.1 (1306, 5, 20, 8) (by decide)).1
theorem MSh.k5 {o : Nat} {M : Mem} (h : MSh o M) : gK M (o + 5) = 20 := (h.2.1 (1306, 5, 20, 8) (by decide)).2.1
theorem MSh.n5 {o : Nat} {M : Mem} (h : MSh o M) : gN M (o + 5) = 8 := (h.2.1 (1306, 5, 20, 8) (by decide)).2.2
theorem MSh.r1307 {o : Nat} {M : Mem} (h : MSh o M) : gR M 1307 o = some (o + 6) := (h.2.1 (1307, 6, 20, 8) (by decide)).1
theorem MSh.k6 {o : Nat} {M : Mem} (h : MSh o M) : gK M (o + 6) = 20 := (h.2.1 (1307, 6, 20, 8) (by decide)).2.1
theorem MSh.n6 {o : Nat} {M : Mem} (h : MSh o M) : gN M (o + 6) = 8 := (h.2.1 (1307, 6, 20, 8) (by decide)).2.2
theorem MSh.r1308 {o : Nat} {M : Mem} (h : MSh o M) : gR M 1308 o = some (o + 7) := (h.2.1 (1308, 7, 20, 8) (by decide)).1
theorem MSh.k7 {o : Nat} {M : Mem} (h : MSh o M) : gK M (o + 7) = 20 := (h.2.1 (1308, 7, 20, 8) (by decide)).2.1
theorem MSh.n7 {o : Nat} {M : Mem} (h : MSh o M) : gN M (o + 7) = 8 := (h.2.1 (1308, 7, 20, 8) (by decide)).2.2
theorem MSh.r1309 {o : Nat} {M : Mem} (h : MSh o M) : gR M 1309 o = some (o + 8) := (h.2.1 (1309, 8, 20, 8) (by decide)).1
theorem MSh.k8 {o : Nat} {M : Mem} (h : MSh o M) : gK M (o + 8) = 20 := (h.2.1 (1309, 8, 20, 8) (by decide)).2.1
theorem MSh.n8 {o : Nat} {M : Mem} (h : MSh o M) : gN M (o + 8) = 8 := (h.2.1 (1309, 8, 20, 8) (by decide)).2.2
theorem MSh.r1310 {o : Nat} {M : Mem} (h : MSh o M) : gR M 1310 o = some (o + 9) := (h.2.1 (1310, 9, 20, 8) (by decide)).1
theorem MSh.k9 {o : Nat} {M : Mem} (h : MSh o M) : gK M (o + 9) = 20 := (h.2.1 (1310, 9, 20, 8) (by decide)).2.1
theorem MSh.n9 {o : Nat} {M : Mem} (h : MSh o M) : gN M (o + 9) = 8 := (h.2.1 (1310, 9, 20, 8) (by decide)).2.2
theorem MSh.r1311 {o : Nat} {M : Mem} (h : MSh o M) : gR M 1311 o = some (o + 10) := (h.2.1 (1311, 10, 22, 8) (by decide)).1
theorem MSh.k10 {o : Nat} {M : Mem} (h : MSh o M) : gK M (o + 10) = 22 := (h.2.1 (1311, 10, 22, 8) (by decide)).2.1
theorem MSh.n10 {o : Nat} {M : Mem} (h : MSh o M) : gN M (o + 10) = 8 := (h.2.1 (1311, 10, 22, 8) (by decide)).2.2
theorem MSh.r1313 {o : Nat} {M : Mem} (h : MSh o M) : gR M 1313 o = some (o + 11) := (h.2.1 (1313, 11, 21, 64) (by decide)).1
theorem MSh.k11 {o : Nat} {M : Mem} (h : MSh o M) : gK M (o + 11) = 21 := (h.2.1 (1313, 11, 21, 64) (by decide)).2.1
theorem MSh.n11 {o : Nat} {M : Mem} (h : MSh o M) : gN M (o + 11) = 64 := (h.2.1 (1313, 11, 21, 64) (by decide)).2.2
theorem MSh.r1314 {o : Nat} {M : Mem} (h : MSh o M) : gR M 1314 o = some (o + 12) := (h.2.1 (1314, 12, 21, 8) (by decide)).1
theorem MSh.k12 {o : Nat} {M : Mem} (h : MSh o M) : gK M (o + 12) = 21 := (h.2.1 (1314, 12, 21, 8) (by decide)).2.1
theorem MSh.n12 {o : Nat} {M : Mem} (h : MSh o M) : gN M (o + 12) = 8 := (h.2.1 (1314, 12, 21, 8) (by decide)).2.2
theorem MSh.r1315 {o : Nat} {M : Mem} (h : MSh o M) : gR M 1315 o = some (o + 13) := (h.2.1 (1315, 13, 21, 9) (by decide)).1
theorem MSh.k13 {o : Nat} {M : Mem} (h : MSh o M) : gK M (o + 13) = 21 := (h.2.1 (1315, 13, 21, 9) (by decide)).2.1
theorem MSh.n13 {o : Nat} {M : Mem} (h : MSh o M) : gN M (o + 13) = 9 := (h.2.1 (1315, 13, 21, 9) (by decide)).2.2
theorem MSh.r1317 {o : Nat} {M : Mem} (h : MSh o M) : gR M 1317 o = some (o + 14) := (h.2.1 (1317, 14, 20, 20) (by decide)).1
theorem MSh.k14 {o : Nat} {M : Mem} (h : MSh o M) : gK M (o + 14) = 20 := (h.2.1 (1317, 14, 20, 20) (by decide)).2.1
theorem MSh.n14 {o : Nat} {M : Mem} (h : MSh o M) : gN M (o + 14) = 20 := (h.2.1 (1317, 14, 20, 20) (by decide)).2.2
theorem MSh.r1318 {o : Nat} {M : Mem} (h : MSh o M) : gR M 1318 o = some (o + 15) := (h.2.1 (1318, 15, 20, 20) (by decide)).1
theorem MSh.k15 {o : Nat} {M : Mem} (h : MSh o M) : gK M (o + 15) = 20 := (h.2.1 (1318, 15, 20, 20) (by decide)).2.1
theorem MSh.n15 {o : Nat} {M : Mem} (h : MSh o M) : gN M (o + 15) = 20 := (h.2.1 (1318, 15, 20, 20) (by decide)).2.2
theorem MSh.r1319 {o : Nat} {M : Mem} (h : MSh o M) : gR M 1319 o = some (o + 16) := (h.2.1 (1319, 16, 20, 20) (by decide)).1
theorem MSh.k16 {o : Nat} {M : Mem} (h : MSh o M) : gK M (o + 16) = 20 := (h.2.1 (1319, 16, 20, 20) (by decide)).2.1
theorem MSh.n16 {o : Nat} {M : Mem} (h : MSh o M) : gN M (o + 16) = 20 := (h.2.1 (1319, 16, 20, 20) (by decide)).2.2
theorem MSh.r1320 {o : Nat} {M : Mem} (h : MSh o M) : gR M 1320 o = some (o + 17) := (h.2.1 (1320, 17, 20, 20) (by decide)).1
theorem MSh.k17 {o : Nat} {M : Mem} (h : MSh o M) : gK M (o + 17) = 20 := (h.2.1 (1320, 17, 20, 20) (by decide)).2.1
theorem MSh.n17 {o : Nat} {M : Mem} (h : MSh o M) : gN M (o + 17) = 20 := (h.2.1 (1320, 17, 20, 20) (by decide)).2.2
theorem MSh.r1321 {o : Nat} {M : Mem} (h : MSh o M) : gR M 1321 o = some (o + 18) := (h.2.1 (1321, 18, 20, 12) (by decide)).1
theorem MSh.k18 {o : Nat} {M : Mem} (h : MSh o M) : gK M (o + 18) = 20 := (h.2.1 (1321, 18, 20, 12) (by decide)).2.1
theorem MSh.n18 {o : Nat} {M : Mem} (h : MSh o M) : gN M (o + 18) = 12 := (h.2.1 (1321, 18, 20, 12) (by decide)).2.2
theorem MSh.r1323 {o : Nat} {M : Mem} (h : MSh o M) : gR M 1323 o = some (o + 19) := (h.2.1 (1323, 19, 20, 8) (by decide)).1
theorem MSh.k19 {o : Nat} {M : Mem} (h : MSh o M) : gK M (o + 19) = 20 := (h.2.1 (1323, 19, 20, 8) (by decide)).2.1
theorem MSh.n19 {o : Nat} {M : Mem} (h : MSh o M) : gN M (o + 19) = 8 := (h.2.1 (1323, 19, 20, 8) (by decide)).2.2
theorem MSh.r1324 {o : Nat} {M : Mem} (h : MSh o M) : gR M 1324 o = some (o + 20) := (h.2.1 (1324, 20, 20, 8) (by decide)).1
theorem MSh.k20 {o : Nat} {M : Mem} (h : MSh o M) : gK M (o + 20) = 20 := (h.2.1 (1324, 20, 20, 8) (by decide)).2.1
theorem MSh.n20 {o : Nat} {M : Mem} (h : MSh o M) : gN M (o + 20) = 8 := (h.2.1 (1324, 20, 20, 8) (by decide)).2.2
theorem MSh.r1325 {o : Nat} {M : Mem} (h : MSh o M) : gR M 1325 o = some (o + 21) := (h.2.1 (1325, 21, 20, 24) (by decide)).1
theorem MSh.k21 {o : Nat} {M : Mem} (h : MSh o M) : gK M (o + 21) = 20 := (h.2.1 (1325, 21, 20, 24) (by decide)).2.1
theorem MSh.n21 {o : Nat} {M : Mem} (h : MSh o M) : gN M (o + 21) = 24 := (h.2.1 (1325, 21, 20, 24) (by decide)).2.2
theorem MSh.r1326 {o : Nat} {M : Mem} (h : MSh o M) : gR M 1326 o = some (o + 22) := (h.2.1 (1326, 22, 20, 24) (by decide)).1
theorem MSh.k22 {o : Nat} {M : Mem} (h : MSh o M) : gK M (o + 22) = 20 := (h.2.1 (1326, 22, 20, 24) (by decide)).2.1
theorem MSh.n22 {o : Nat} {M : Mem} (h : MSh o M) : gN M (o + 22) = 24 := (h.2.1 (1326, 22, 20, 24) (by decide)).2.2
theorem MSh.r1327 {o : Nat} {M : Mem} (h : MSh o M) : gR M 1327 o = some (o + 23) := (h.2.1 (1327, 23, 20, 60) (by decide)).1
theorem MSh.k23 {o : Nat} {M : Mem} (h : MSh o M) : gK M (o + 23) = 20 := (h.2.1 (1327, 23, 20, 60) (by decide)).2.1
theorem MSh.n23 {o : Nat} {M : Mem} (h : MSh o M) : gN M (o + 23) = 60 := (h.2.1 (1327, 23, 20, 60) (by decide)).2.2
theorem MSh.r1330 {o : Nat} {M : Mem} (h : MSh o M) : gR M 1330 o = some (o + 24) := (h.2.1 (1330, 24, 20, 30) (by decide)).1
theorem MSh.k24 {o : Nat} {M : Mem} (h : MSh o M) : gK M (o + 24) = 20 := (h.2.1 (1330, 24, 20, 30) (by decide)).2.1
theorem MSh.n24 {o : Nat} {M : Mem} (h : MSh o M) : gN M (o + 24) = 30 := (h.2.1 (1330, 24, 20, 30) (by decide)).2.2
theorem MSh.r1331 {o : Nat} {M : Mem} (h : MSh o M) : gR M 1331 o = some (o + 25) := (h.2.1 (1331, 25, 20, 30) (by decide)).1
theorem MSh.k25 {o : Nat} {M : Mem} (h : MSh o M) : gK M (o + 25) = 20 := (h.2.1 (1331, 25, 20, 30) (by decide)).2.1
theorem MSh.n25 {o : Nat} {M : Mem} (h : MSh o M) : gN M (o + 25) = 30 := (h.2.1 (1331, 25, 20, 30) (by decide)).2.2
theorem MSh.r1332 {o : Nat} {M : Mem} (h : MSh o M) : gR M 1332 o = some (o + 26) := (h.2.1 (1332, 26, 20, 30) (by decide)).1
theorem MSh.k26 {o : Nat} {M : Mem} (h : MSh o M) : gK M (o + 26) = 20 := (h.2.1 (1332, 26, 20, 30) (by decide)).2.1
theorem MSh.n26 {o : Nat} {M : Mem} (h : MSh o M) : gN M (o + 26) = 30 := (h.2.1 (1332, 26, 20, 30) (by decide)).2.2
theorem MSh.r1333 {o : Nat} {M : Mem} (h : MSh o M) : gR M 1333 o = some (o + 27) := (h.2.1 (1333, 27, 20, 1860) (by decide)).1
theorem MSh.k27 {o : Nat} {M : Mem} (h : MSh o M) : gK M (o + 27) = 20 := (h.2.1 (1333, 27, 20, 1860) (by decide)).2.1
theorem MSh.n27 {o : Nat} {M : Mem} (h : MSh o M) : gN M (o + 27) = 1860 := (h.2.1 (1333, 27, 20, 1860) (by decide)).2.2
theorem MSh.r1337 {o : Nat} {M : Mem} (h : MSh o M) : gR M 1337 o = some (o + 28) := (h.2.1 (1337, 28, 20, 20) (by decide)).1
theorem MSh.k28 {o : Nat} {M : Mem} (h : MSh o M) : gK M (o + 28) = 20 := (h.2.1 (1337, 28, 20, 20) (by decide)).2.1
theorem MSh.n28 {o : Nat} {M : Mem} (h : MSh o M) : gN M (o + 28) = 20 := (h.2.1 (1337, 28, 20, 20) (by decide)).2.2
theorem MSh.r1338 {o : Nat} {M : Mem} (h : MSh o M) : gR M 1338 o = some (o + 29) := (h.2.1 (1338, 29, 20, 20) (by decide)).1
theorem MSh.k29 {o : Nat} {M : Mem} (h : MSh o M) : gK M (o + 29) = 20 := (h.2.1 (1338, 29, 20, 20) (by decide)).2.1
theorem MSh.n29 {o : Nat} {M : Mem} (h : MSh o M) : gN M (o + 29) = 20 := (h.2.1 (1338, 29, 20, 20) (by decide)).2.2
theorem MSh.r1339 {o : Nat} {M : Mem} (h : MSh o M) : gR M 1339 o = some (o + 30) := (h.2.1 (1339, 30, 21, 20) (by decide)).1
theorem MSh.k30 {o : Nat} {M : Mem} (h : MSh o M) : gK M (o + 30) = 21 := (h.2.1 (1339, 30, 21, 20) (by decide)).2.1
theorem MSh.n30 {o : Nat} {M : Mem} (h : MSh o M) : gN M (o + 30) = 20 := (h.2.1 (1339, 30, 21, 20) (by decide)).2.2
theorem MSh.r1340 {o : Nat} {M : Mem} (h : MSh o M) : gR M 1340 o = some (o + 31) := (h.2.1 (1340, 31, 20, 9) (by decide)).1
theorem MSh.k31 {o : Nat} {M : Mem} (h : MSh o M) : gK M (o + 31) = 20 := (h.2.1 (1340, 31, 20, 9) (by decide)).2.1
theorem MSh.n31 {o : Nat} {M : Mem} (h : MSh o M) : gN M (o + 31) = 9 := (h.2.1 (1340, 31, 20, 9) (by decide)).2.2
theorem MSh.r1344 {o : Nat} {M : Mem} (h : MSh o M) : gR M 1344 o = some (o + 32) := (h.2.1 (1344, 32, 21, 9) (by decide)).1
theorem MSh.k32 {o : Nat} {M : Mem} (h : MSh o M) : gK M (o + 32) = 21 := (h.2.1 (1344, 32, 21, 9) (by decide)).2.1
theorem MSh.n32 {o : Nat} {M : Mem} (h : MSh o M) : gN M (o + 32) = 9 := (h.2.1 (1344, 32, 21, 9) (by decide)).2.2
theorem MSh.r1345 {o : Nat} {M : Mem} (h : MSh o M) : gR M 1345 o = some (o + 33) := (h.2.1 (1345, 33, 21, 62) (by decide)).1
theorem MSh.k33 {o : Nat} {M : Mem} (h : MSh o M) : gK M (o + 33) = 21 := (h.2.1 (1345, 33, 21, 62) (by decide)).2.1
theorem MSh.n33 {o : Nat} {M : Mem} (h : MSh o M) : gN M (o + 33) = 62 := (h.2.1 (1345, 33, 21, 62) (by decide)).2.2
theorem MSh.r1346 {o : Nat} {M : Mem} (h : MSh o M) : gR M 1346 o = some (o + 34) := (h.2.1 (1346, 34, 21, 64) (by decide)).1
theorem MSh.k34 {o : Nat} {M : Mem} (h : MSh o M) : gK M (o + 34) = 21 := (h.2.1 (1346, 34, 21, 64) (by decide)).2.1
theorem MSh.n34 {o : Nat} {M : Mem} (h : MSh o M) : gN M (o + 34) = 64 := (h.2.1 (1346, 34, 21, 64) (by decide)).2.2
theorem MSh.r1347 {o : Nat} {M : Mem} (h : MSh o M) : gR M 1347 o = some (o + 35) := (h.2.1 (1347, 35, 21, 64) (by decide)).1
theorem MSh.k35 {o : Nat} {M : Mem} (h : MSh o M) : gK M (o + 35) = 21 := (h.2.1 (1347, 35, 21, 64) (by decide)).2.1
theorem MSh.n35 {o : Nat} {M : Mem} (h : MSh o M) : gN M (o + 35) = 64 := (h.2.1 (1347, 35, 21, 64) (by decide)).2.2
theorem MSh.r1348 {o : Nat} {M : Mem} (h : MSh o M) : gR M 1348 o = some (o + 36) := (h.2.1 (1348, 36, 21, 8) (by decide)).1
theorem MSh.k36 {o : Nat} {M : Mem} (h : MSh o M) : gK M (o + 36) = 21 := (h.2.1 (1348, 36, 21, 8) (by decide)).2.1
theorem MSh.n36 {o : Nat} {M : Mem} (h : MSh o M) : gN M (o + 36) = 8 := (h.2.1 (1348, 36, 21, 8) (by decide)).2.2
theorem MSh.r1349 {o : Nat} {M : Mem} (h : MSh o M) : gR M 1349 o = some (o + 37) := (h.2.1 (1349, 37, 21, 8) (by decide)).1
theorem MSh.k37 {o : Nat} {M : Mem} (h : MSh o M) : gK M (o + 37) = 21 := (h.2.1 (1349, 37, 21, 8) (by decide)).2.1
theorem MSh.n37 {o : Nat} {M : Mem} (h : MSh o M) : gN M (o + 37) = 8 := (h.2.1 (1349, 37, 21, 8) (by decide)).2.2
theorem MSh.r1350 {o : Nat} {M : Mem} (h : MSh o M) : gR M 1350 o = some (o + 38) := (h.2.1 (1350, 38, 21, 8) (by decide)).1
theorem MSh.k38 {o : Nat} {M : Mem} (h : MSh o M) : gK M (o + 38) = 21 := (h.2.1 (1350, 38, 21, 8) (by decide)).2.1
theorem MSh.n38 {o : Nat} {M : Mem} (h : MSh o M) : gN M (o + 38) = 8 := (h.2.1 (1350, 38, 21, 8) (by decide)).2.2
theorem MSh.r1351 {o : Nat} {M : Mem} (h : MSh o M) : gR M 1351 o = some (o + 39) := (h.2.1 (1351, 39, 21, 64) (by decide)).1
theorem MSh.k39 {o : Nat} {M : Mem} (h : MSh o M) : gK M (o + 39) = 21 := (h.2.1 (1351, 39, 21, 64) (by decide)).2.1
theorem MSh.n39 {o : Nat} {M : Mem} (h : MSh o M) : gN M (o + 39) = 64 := (h.2.1 (1351, 39, 21, 64) (by decide)).2.2
theorem MSh.r1352 {o : Nat} {M : Mem} (h : MSh o M) : gR M 1352 o = some (o + 40) := (h.2.1 (1352, 40, 21, 8) (by decide)).1
theorem MSh.k40 {o : Nat} {M : Mem} (h : MSh o M) : gK M (o + 40) = 21 := (h.2.1 (1352, 40, 21, 8) (by decide)).2.1
theorem MSh.n40 {o : Nat} {M : Mem} (h : MSh o M) : gN M (o + 40) = 8 := (h.2.1 (1352, 40, 21, 8) (by decide)).2.2
theorem MSh.r1353 {o : Nat} {M : Mem} (h : MSh o M) : gR M 1353 o = some (o + 41) := (h.2.1 (1353, 41, 21, 9) (by decide)).1
theorem MSh.k41 {o : Nat} {M : Mem} (h : MSh o M) : gK M (o + 41) = 21 := (h.2.1 (1353, 41, 21, 9) (by decide)).2.1
theorem MSh.n41 {o : Nat} {M : Mem} (h : MSh o M) : gN M (o + 41) = 9 := (h.2.1 (1353, 41, 21, 9) (by decide)).2.2
theorem MSh.r1354 {o : Nat} {M : Mem} (h : MSh o M) : gR M 1354 o = some (o + 42) := (h.2.1 (1354, 42, 22, 8) (by decide)).1
theorem MSh.k42 {o : Nat} {M : Mem} (h : MSh o M) : gK M (o + 42) = 22 := (h.2.1 (1354, 42, 22, 8) (by decide)).2.1
theorem MSh.n42 {o : Nat} {M : Mem} (h : MSh o M) : gN M (o + 42) = 8 := (h.2.1 (1354, 42, 22, 8) (by decide)).2.2
theorem MSh.r1356 {o : Nat} {M : Mem} (h : MSh o M) : gR M 1356 o = some (o + 43) := (h.2.1 (1356, 43, 21, 250) (by decide)).1
theorem MSh.k43 {o : Nat} {M : Mem} (h : MSh o M) : gK M (o + 43) = 21 := (h.2.1 (1356, 43, 21, 250) (by decide)).2.1
theorem MSh.n43 {o : Nat} {M : Mem} (h : MSh o M) : gN M (o + 43) = 250 := (h.2.1 (1356, 43, 21, 250) (by decide)).2.2
theorem MSh.r1357 {o : Nat} {M : Mem} (h : MSh o M) : gR M 1357 o = some (o + 44) := (h.2.1 (1357, 44, 21, 24) (by decide)).1
theorem MSh.k44 {o : Nat} {M : Mem} (h : MSh o M) : gK M (o + 44) = 21 := (h.2.1 (1357, 44, 21, 24) (by decide)).2.1
theorem MSh.n44 {o : Nat} {M : Mem} (h : MSh o M) : gN M (o + 44) = 24 := (h.2.1 (1357, 44, 21, 24) (by decide)).2.2
