theorem mi_soil {o : Nat} {W W1 : Mem} (hI : MI o W) (hW : WM o W W1 (fun _ => False) (fun j => j = 8 ∨ j = 9) (fun _ => False)) (g_bo : ∀ b, b < nbW W1 o → bt (gA W1 (o + 5) b) 100 9999 ∧ bt (gA W1 (o + 6) b) 0 999 ∧ bt (gA W1 (o + 7) b) 0 99 ∧ bt (gA W1 (o + 8) b) 0 999 ∧ bt (gA W1 (o + 9) b) 0 100 ∧ bt (gA W1 (o + 2) b) 0 99 ∧ bt (gA W1 (o + 3) b) 0 99) : MI o W1 := by
  have f1302 := hW.i (f := 1302) (by intro z; first | exact z | omega | (dsimp only at z; omega))
  have f1312 := hW.i (f := 1312) (by intro z; first | exact z | omega | (dsimp only at z; omega))
  have f1316 := hW.i (f := 1316) (by intro z; first | exact z | omega | (dsimp only at z; omega))
  have f1322 := hW.i (f := 1322) (by intro z; first | exact z | omega | (dsimp only at z; omega))
  have f1329 := hW.i (f := 1329) (by intro z; first | exact z | omega | (dsimp only at z; omega))
  have en := hW.nb (by intro z; first | exact z | omega | (dsimp only at z; omega))
  have er := hW.rg (by intro z; first | exact z | omega | (dsimp only at z; omega))
  have eh : nhW W1 o = nhW W o := by
    unfold nhW
    rw [f1316]
  have ep : npW W1 o = npW W o := by
    unfold npW
    rw [f1322]
  have eu : nrW W1 o = nrW W o := by
    unfold nrW
    rw [f1329]
  have a2 := hW.a (j := 2) (by intro z; first | exact z | omega | (dsimp only at z; omega))
  have a3 := hW.a (j := 3) (by intro z; first | exact z | omega | (dsimp only at z; omega))
  have a4 := hW.a (j := 4) (by intro z; first | exact z | omega | (dsimp only at z; omega))
  have a5 := hW.a (j := 5) (by intro z; first | exact z | omega | (dsimp only at z; omega))
  have a6 := hW.a (j := 6) (by intro z; first | exact z | omega | (dsimp only at z; omega))
  have a7 := hW.a (j := 7) (by intro z; first | exact z | omega | (dsimp only at z; omega))
  have a10 := hW.a (j := 10) (by intro z; first | exact z | omega | (dsimp only at z; omega))
  have a14 := hW.a (j := 14) (by intro z; first | exact z | omega | (dsimp only at z; omega))
  have a15 := hW.a (j := 15) (by intro z; first | exact z | omega | (dsimp only at z; omega))
  have a18 := hW.a (j := 18) (by intro z; first | exact z | omega | (dsimp only at z; omega))
  have a19 := hW.a (j := 19) (by intro z; first | exact z | omega | (dsimp only at z; omega))
  have a20 := hW.a (j := 20) (by intro z; first | exact z | omega | (dsimp only at z; omega))
  have a21 := hW.a (j := 21) (by intro z; first | exact z | omega | (dsimp only at z; omega))
  have a22 := hW.a (j := 22) (by intro z; first | exact z | omega | (dsimp only at z; omega))
  have a26 := hW.a (j := 26) (by intro z; first | exact z | omega | (dsimp only at z; omega))
  have a27 := hW.a (j := 27) (by intro z; first | exact z | omega | (dsimp only at z; omega))
  have es : szW W1 o = szW W o := by
    funext r
    unfold szW
    rw [a26]
  obtain ⟨-, q_nb, q_rg, q_bo, q_op, q_sh, q_nh, q_ho, q_cd, q_np, q_po, q_ris, q_pr, q_nr, q_ru⟩ := id hI
  refine ⟨hW.msh hI.sh, ?_, ?_, g_bo, ?_, ?_, ?_, ?_, ?_, ?_, ?_, ?_, ?_, ?_, ?_⟩
  · simp only [en, f1302]
    exact q_nb
  · simp only [en, er, a4]
    exact q_rg
  · simp only [a10]
    exact q_op
  · simp only [f1312]
    exact q_sh
  · simp only [eh, f1316]
    exact q_nh
  · simp only [eh, a14, a15]
    exact q_ho
  · simp only [a18]
    exact q_cd
  · simp only [ep, f1322]
    exact q_np
  · simp only [ep, a19, a20]
    exact q_po
  · simp only [ep, a19]
    exact q_ris
  · simp only [a21, a22]
    exact q_pr
  · simp only [eu, f1329]
    exact q_nr
  · simp only [eu, es, a26, a27]
    exact q_ru
theorem mi_share {o : Nat} {W W1 : Mem} (hI : MI o W) (hW : WM o W W1 (fun f => f = 1312) (fun _ => False) (fun _ => False)) (g_sh : bt (gI W1 1312 o) 0 999) : MI o W1 := by
  have f1302 := hW.i (f := 1302) (by intro z; first | exact z | omega | (dsimp only at z; omega))
  have f1316 := hW.i (f := 1316) (by intro z; first | exact z | omega | (dsimp only at z; omega))
  have f1322 := hW.i (f := 1322) (by intro z; first | exact z | omega | (dsimp only at z; omega))
  have f1329 := hW.i (f := 1329) (by intro z; first | exact z | omega | (dsimp only at z; omega))
  have en := hW.nb (by intro z; first | exact z | omega | (dsimp only at z; omega))
  have er := hW.rg (by intro z; first | exact z | omega | (dsimp only at z; omega))
  have eh : nhW W1 o = nhW W o := by
    unfold nhW
    rw [f1316]
  have ep : npW W1 o = npW W o := by
    unfold npW
    rw [f1322]
  have eu : nrW W1 o = nrW W o := by
    unfold nrW
    rw [f1329]
  have a2 := hW.a (j := 2) (by intro z; first | exact z | omega | (dsimp only at z; omega))
  have a3 := hW.a (j := 3) (by intro z; first | exact z | omega | (dsimp only at z; omega))
  have a4 := hW.a (j := 4) (by intro z; first | exact z | omega | (dsimp only at z; omega))
  have a5 := hW.a (j := 5) (by intro z; first | exact z | omega | (dsimp only at z; omega))
  have a6 := hW.a (j := 6) (by intro z; first | exact z | omega | (dsimp only at z; omega))
  have a7 := hW.a (j := 7) (by intro z; first | exact z | omega | (dsimp only at z; omega))
  have a8 := hW.a (j := 8) (by intro z; first | exact z | omega | (dsimp only at z; omega))
  have a9 := hW.a (j := 9) (by intro z; first | exact z | omega | (dsimp only at z; omega))
  have a10 := hW.a (j := 10) (by intro z; first | exact z | omega | (dsimp only at z; omega))
  have a14 := hW.a (j := 14) (by intro z; first | exact z | omega | (dsimp only at z; omega))
  have a15 := hW.a (j := 15) (by intro z; first | exact z | omega | (dsimp only at z; omega))
  have a18 := hW.a (j := 18) (by intro z; first | exact z | omega | (dsimp only at z; omega))
  have a19 := hW.a (j := 19) (by intro z; first | exact z | omega | (dsimp only at z; omega))
  have a20 := hW.a (j := 20) (by intro z; first | exact z | omega | (dsimp only at z; omega))
  have a21 := hW.a (j := 21) (by intro z; first | exact z | omega | (dsimp only at z; omega))
  have a22 := hW.a (j := 22) (by intro z; first | exact z | omega | (dsimp only at z; omega))
  have a26 := hW.a (j := 26) (by intro z; first | exact z | omega | (dsimp only at z; omega))
  have a27 := hW.a (j := 27) (by intro z; first | exact z | omega | (dsimp only at z; omega))
  have es : szW W1 o = szW W o := by
    funext r
    unfold szW
    rw [a26]
  obtain ⟨-, q_nb, q_rg, q_bo, q_op, q_sh, q_nh, q_ho, q_cd, q_np, q_po, q_ris, q_pr, q_nr, q_ru⟩ := id hI
  refine ⟨hW.msh hI.sh, ?_, ?_, ?_, ?_, g_sh, ?_, ?_, ?_, ?_, ?_, ?_, ?_, ?_, ?_⟩
  · simp only [en, f1302]
    exact q_nb
  · simp only [en, er, a4]
    exact q_rg
  · simp only [en, a2, a3, a5, a6, a7, a8, a9]
    exact q_bo
  · simp only [a10]
    exact q_op
  · simp only [eh, f1316]
    exact q_nh
  · simp only [eh, a14, a15]
    exact q_ho
  · simp only [a18]
    exact q_cd
  · simp only [ep, f1322]
    exact q_np
  · simp only [ep, a19, a20]
    exact q_po
  · simp only [ep, a19]
    exact q_ris
  · simp only [a21, a22]
    exact q_pr
  · simp only [eu, f1329]
    exact q_nr
  · simp only [eu, es, a26, a27]
    exact q_ru
theorem mi_cold {o : Nat} {W W1 : Mem} (hI : MI o W) (hW : WM o W W1 (fun _ => False) (fun j => j = 18) (fun _ => False)) (g_cd : ∀ i, i < 12 → bt (gA W1 (o + 18) i) (-40) 40) : MI o W1 := by
  have f1302 := hW.i (f := 1302) (by intro z; first | exact z | omega | (dsimp only at z; omega))
  have f1312 := hW.i (f := 1312) (by intro z; first | exact z | omega | (dsimp only at z; omega))
  have f1316 := hW.i (f := 1316) (by intro z; first | exact z | omega | (dsimp only at z; omega))
  have f1322 := hW.i (f := 1322) (by intro z; first | exact z | omega | (dsimp only at z; omega))
  have f1329 := hW.i (f := 1329) (by intro z; first | exact z | omega | (dsimp only at z; omega))
  have en := hW.nb (by intro z; first | exact z | omega | (dsimp only at z; omega))
  have er := hW.rg (by intro z; first | exact z | omega | (dsimp only at z; omega))
  have eh : nhW W1 o = nhW W o := by
    unfold nhW
    rw [f1316]
  have ep : npW W1 o = npW W o := by
    unfold npW
    rw [f1322]
  have eu : nrW W1 o = nrW W o := by
    unfold nrW
    rw [f1329]
  have a2 := hW.a (j := 2) (by intro z; first | exact z | omega | (dsimp only at z; omega))
  have a3 := hW.a (j := 3) (by intro z; first | exact z | omega | (dsimp only at z; omega))
  have a4 := hW.a (j := 4) (by intro z; first | exact z | omega | (dsimp only at z; omega))
  have a5 := hW.a (j := 5) (by intro z; first | exact z | omega | (dsimp only at z; omega))
  have a6 := hW.a (j := 6) (by intro z; first | exact z | omega | (dsimp only at z; omega))
  have a7 := hW.a (j := 7) (by intro z; first | exact z | omega | (dsimp only at z; omega))
  have a8 := hW.a (j := 8) (by intro z; first | exact z | omega | (dsimp only at z; omega))
  have a9 := hW.a (j := 9) (by intro z; first | exact z | omega | (dsimp only at z; omega))
  have a10 := hW.a (j := 10) (by intro z; first | exact z | omega | (dsimp only at z; omega))
  have a14 := hW.a (j := 14) (by intro z; first | exact z | omega | (dsimp only at z; omega))
  have a15 := hW.a (j := 15) (by intro z; first | exact z | omega | (dsimp only at z; omega))
  have a19 := hW.a (j := 19) (by intro z; first | exact z | omega | (dsimp only at z; omega))
  have a20 := hW.a (j := 20) (by intro z; first | exact z | omega | (dsimp only at z; omega))
  have a21 := hW.a (j := 21) (by intro z; first | exact z | omega | (dsimp only at z; omega))
  have a22 := hW.a (j := 22) (by intro z; first | exact z | omega | (dsimp only at z; omega))
  have a26 := hW.a (j := 26) (by intro z; first | exact z | omega | (dsimp only at z; omega))
  have a27 := hW.a (j := 27) (by intro z; first | exact z | omega | (dsimp only at z; omega))
  have es : szW W1 o = szW W o := by
    funext r
    unfold szW
    rw [a26]
  obtain ⟨-, q_nb, q_rg, q_bo, q_op, q_sh, q_nh, q_ho, q_cd, q_np, q_po, q_ris, q_pr, q_nr, q_ru⟩ := id hI
  refine ⟨hW.msh hI.sh, ?_, ?_, ?_, ?_, ?_, ?_, ?_, g_cd, ?_, ?_, ?_, ?_, ?_, ?_⟩
  · simp only [en, f1302]
    exact q_nb
  · simp only [en, er, a4]
    exact q_rg
  · simp only [en, a2, a3, a5, a6, a7, a8, a9]
    exact q_bo
  · simp only [a10]
    exact q_op
  · simp only [f1312]
    exact q_sh
  · simp only [eh, f1316]
    exact q_nh
  · simp only [eh, a14, a15]
    exact q_ho
  · simp only [ep, f1322]
    exact q_np
  · simp only [ep, a19, a20]
    exact q_po
  · simp only [ep, a19]
    exact q_ris
  · simp only [a21, a22]
    exact q_pr
  · simp only [eu, f1329]
    exact q_nr
  · simp only [eu, es, a26, a27]
    exact q_ru
theorem mi_price {o : Nat} {W W1 : Mem} (hI : MI o W) (hW : WM o W W1 (fun _ => False) (fun j => j = 21) (fun _ => False)) (g_pr : ∀ i, i < 24 → bt (gA W1 (o + 21) i) 0 999 ∧ bt (gA W1 (o + 22) i) 0 99999) : MI o W1 := by
  have f1302 := hW.i (f := 1302) (by intro z; first | exact z | omega | (dsimp only at z; omega))
  have f1312 := hW.i (f := 1312) (by intro z; first | exact z | omega | (dsimp only at z; omega))
  have f1316 := hW.i (f := 1316) (by intro z; first | exact z | omega | (dsimp only at z; omega))
  have f1322 := hW.i (f := 1322) (by intro z; first | exact z | omega | (dsimp only at z; omega))
  have f1329 := hW.i (f := 1329) (by intro z; first | exact z | omega | (dsimp only at z; omega))
  have en := hW.nb (by intro z; first | exact z | omega | (dsimp only at z; omega))
  have er := hW.rg (by intro z; first | exact z | omega | (dsimp only at z; omega))
  have eh : nhW W1 o = nhW W o := by
    unfold nhW
    rw [f1316]
  have ep : npW W1 o = npW W o := by
    unfold npW
    rw [f1322]
  have eu : nrW W1 o = nrW W o := by
    unfold nrW
    rw [f1329]
  have a2 := hW.a (j := 2) (by intro z; first | exact z | omega | (dsimp only at z; omega))
  have a3 := hW.a (j := 3) (by intro z; first | exact z | omega | (dsimp only at z; omega))
  have a4 := hW.a (j := 4) (by intro z; first | exact z | omega | (dsimp only at z; omega))
  have a5 := hW.a (j := 5) (by intro z; first | exact z | omega | (dsimp only at z; omega))
  have a6 := hW.a (j := 6) (by intro z; first | exact z | omega | (dsimp only at z; omega))
  have a7 := hW.a (j := 7) (by intro z; first | exact z | omega | (dsimp only at z; omega))
  have a8 := hW.a (j := 8) (by intro z; first | exact z | omega | (dsimp only at z; omega))
  have a9 := hW.a (j := 9) (by intro z; first | exact z | omega | (dsimp only at z; omega))
  have a10 := hW.a (j := 10) (by intro z; first | exact z | omega | (dsimp only at z; omega))
  have a14 := hW.a (j := 14) (by intro z; first | exact z | omega | (dsimp only at z; omega))
  have a15 := hW.a (j := 15) (by intro z; first | exact z | omega | (dsimp only at z; omega))
  have a18 := hW.a (j := 18) (by intro z; first | exact z | omega | (dsimp only at z; omega))
  have a19 := hW.a (j := 19) (by intro z; first | exact z | omega | (dsimp only at z; omega))
  have a20 := hW.a (j := 20) (by intro z; first | exact z | omega | (dsimp only at z; omega))
  have a22 := hW.a (j := 22) (by intro z; first | exact z | omega | (dsimp only at z; omega))
  have a26 := hW.a (j := 26) (by intro z; first | exact z | omega | (dsimp only at z; omega))
  have a27 := hW.a (j := 27) (by intro z; first | exact z | omega | (dsimp only at z; omega))
  have es : szW W1 o = szW W o := by
    funext r
    unfold szW
    rw [a26]
  obtain ⟨-, q_nb, q_rg, q_bo, q_op, q_sh, q_nh, q_ho, q_cd, q_np, q_po, q_ris, q_pr, q_nr, q_ru⟩ := id hI
  refine ⟨hW.msh hI.sh, ?_, ?_, ?_, ?_, ?_, ?_, ?_, ?_, ?_, ?_, ?_, g_pr, ?_, ?_⟩
  · simp only [en, f1302]
    exact q_nb
  · simp only [en, er, a4]
    exact q_rg
  · simp only [en, a2, a3, a5, a6, a7, a8, a9]
    exact q_bo
  · simp only [a10]
    exact q_op
  · simp only [f1312]
    exact q_sh
  · simp only [eh, f1316]
    exact q_nh
  · simp only [eh, a14, a15]
    exact q_ho
  · simp only [a18]
    exact q_cd
  · simp only [ep, f1322]
    exact q_np
  · simp only [ep, a19, a20]
    exact q_po
  · simp only [ep, a19]
    exact q_ris
  · simp only [eu, f1329]
    exact q_nr
  · simp only [eu, es, a26, a27]
    exact q_ru
theorem mi_sun {o : Nat} {W W1 : Mem} (hI : MI o W) (hW : WM o W W1 (fun _ => False) (fun j => j = 22) (fun _ => False)) (g_pr : ∀ i, i < 24 → bt (gA W1 (o + 21) i) 0 999 ∧ bt (gA W1 (o + 22) i) 0 99999) : MI o W1 := by
  have f1302 := hW.i (f := 1302) (by intro z; first | exact z | omega | (dsimp only at z; omega))
  have f1312 := hW.i (f := 1312) (by intro z; first | exact z | omega | (dsimp only at z; omega))
  have f1316 := hW.i (f := 1316) (by intro z; first | exact z | omega | (dsimp only at z; omega))
  have f1322 := hW.i (f := 1322) (by intro z; first | exact z | omega | (dsimp only at z; omega))
  have f1329 := hW.i (f := 1329) (by intro z; first | exact z | omega | (dsimp only at z; omega))
  have en := hW.nb (by intro z; first | exact z | omega | (dsimp only at z; omega))
  have er := hW.rg (by intro z; first | exact z | omega | (dsimp only at z; omega))
  have eh : nhW W1 o = nhW W o := by
    unfold nhW
    rw [f1316]
  have ep : npW W1 o = npW W o := by
    unfold npW
    rw [f1322]
  have eu : nrW W1 o = nrW W o := by
    unfold nrW
    rw [f1329]
  have a2 := hW.a (j := 2) (by intro z; first | exact z | omega | (dsimp only at z; omega))
  have a3 := hW.a (j := 3) (by intro z; first | exact z | omega | (dsimp only at z; omega))
  have a4 := hW.a (j := 4) (by intro z; first | exact z | omega | (dsimp only at z; omega))
  have a5 := hW.a (j := 5) (by intro z; first | exact z | omega | (dsimp only at z; omega))
  have a6 := hW.a (j := 6) (by intro z; first | exact z | omega | (dsimp only at z; omega))
  have a7 := hW.a (j := 7) (by intro z; first | exact z | omega | (dsimp only at z; omega))
  have a8 := hW.a (j := 8) (by intro z; first | exact z | omega | (dsimp only at z; omega))
  have a9 := hW.a (j := 9) (by intro z; first | exact z | omega | (dsimp only at z; omega))
  have a10 := hW.a (j := 10) (by intro z; first | exact z | omega | (dsimp only at z; omega))
  have a14 := hW.a (j := 14) (by intro z; first | exact z | omega | (dsimp only at z; omega))
  have a15 := hW.a (j := 15) (by intro z; first | exact z | omega | (dsimp only at z; omega))
  have a18 := hW.a (j := 18) (by intro z; first | exact z | omega | (dsimp only at z; omega))
  have a19 := hW.a (j := 19) (by intro z; first | exact z | omega | (dsimp only at z; omega))
  have a20 := hW.a (j := 20) (by intro z; first | exact z | omega | (dsimp only at z; omega))
  have a21 := hW.a (j := 21) (by intro z; first | exact z | omega | (dsimp only at z; omega))
  have a26 := hW.a (j := 26) (by intro z; first | exact z | omega | (dsimp only at z; omega))
  have a27 := hW.a (j := 27) (by intro z; first | exact z | omega | (dsimp only at z; omega))
  have es : szW W1 o = szW W o := by
    funext r
    unfold szW
    rw [a26]
  obtain ⟨-, q_nb, q_rg, q_bo, q_op, q_sh, q_nh, q_ho, q_cd, q_np, q_po, q_ris, q_pr, q_nr, q_ru⟩ := id hI
  refine ⟨hW.msh hI.sh, ?_, ?_, ?_, ?_, ?_, ?_, ?_, ?_, ?_, ?_, ?_, g_pr, ?_, ?_⟩
  · simp only [en, f1302]
    exact q_nb
  · simp only [en, er, a4]
    exact q_rg
  · simp only [en, a2, a3, a5, a6, a7, a8, a9]
    exact q_bo
  · simp only [a10]
    exact q_op
  · simp only [f1312]
    exact q_sh
  · simp only [eh, f1316]
    exact q_nh
  · simp only [eh, a14, a15]
    exact q_ho
  · simp only [a18]
    exact q_cd
  · simp only [ep, f1322]
    exact q_np
  · simp only [ep, a19, a20]
    exact q_po
  · simp only [ep, a19]
    exact q_ris
  · simp only [eu, f1329]
    exact q_nr
  · simp only [eu, es, a26, a27]
    exact q_ru
theorem mi_table {o : Nat} {W W1 : Mem} (hI : MI o W) (hW : WM o W W1 (fun f => f = 1322) (fun j => j = 19 ∨ j = 20) (fun _ => False)) (g_np : gI W1 1322 o = Int32.ofNat (npW W1 o) ∧ npW W1 o ≤ 8) (g_po : ∀ k, k < npW W1 o → bt (gA W1 (o + 19) k) (-20) 99 ∧ bt (gA W1 (o + 20) k) 100 999) (g_ris : ∀ k, k + 1 < npW W1 o → (gA W1 (o + 19) k).toInt < (gA W1 (o + 19) (k + 1)).toInt) : MI o W1 := by
  have f1302 := hW.i (f := 1302) (by intro z; first | exact z | omega | (dsimp only at z; omega))
  have f1312 := hW.i (f := 1312) (by intro z; first | exact z | omega | (dsimp only at z; omega))
  have f1316 := hW.i (f := 1316) (by intro z; first | exact z | omega | (dsimp only at z; omega))
  have f1329 := hW.i (f := 1329) (by intro z; first | exact z | omega | (dsimp only at z; omega))
  have en := hW.nb (by intro z; first | exact z | omega | (dsimp only at z; omega))
  have er := hW.rg (by intro z; first | exact z | omega | (dsimp only at z; omega))
  have eh : nhW W1 o = nhW W o := by
    unfold nhW
    rw [f1316]
  have eu : nrW W1 o = nrW W o := by
    unfold nrW
    rw [f1329]
  have a2 := hW.a (j := 2) (by intro z; first | exact z | omega | (dsimp only at z; omega))
  have a3 := hW.a (j := 3) (by intro z; first | exact z | omega | (dsimp only at z; omega))
  have a4 := hW.a (j := 4) (by intro z; first | exact z | omega | (dsimp only at z; omega))
  have a5 := hW.a (j := 5) (by intro z; first | exact z | omega | (dsimp only at z; omega))
  have a6 := hW.a (j := 6) (by intro z; first | exact z | omega | (dsimp only at z; omega))
  have a7 := hW.a (j := 7) (by intro z; first | exact z | omega | (dsimp only at z; omega))
  have a8 := hW.a (j := 8) (by intro z; first | exact z | omega | (dsimp only at z; omega))
  have a9 := hW.a (j := 9) (by intro z; first | exact z | omega | (dsimp only at z; omega))
  have a10 := hW.a (j := 10) (by intro z; first | exact z | omega | (dsimp only at z; omega))
  have a14 := hW.a (j := 14) (by intro z; first | exact z | omega | (dsimp only at z; omega))
  have a15 := hW.a (j := 15) (by intro z; first | exact z | omega | (dsimp only at z; omega))
  have a18 := hW.a (j := 18) (by intro z; first | exact z | omega | (dsimp only at z; omega))
  have a21 := hW.a (j := 21) (by intro z; first | exact z | omega | (dsimp only at z; omega))
  have a22 := hW.a (j := 22) (by intro z; first | exact z | omega | (dsimp only at z; omega))
  have a26 := hW.a (j := 26) (by intro z; first | exact z | omega | (dsimp only at z; omega))
  have a27 := hW.a (j := 27) (by intro z; first | exact z | omega | (dsimp only at z; omega))
  have es : szW W1 o = szW W o := by
    funext r
    unfold szW
    rw [a26]
  obtain ⟨-, q_nb, q_rg, q_bo, q_op, q_sh, q_nh, q_ho, q_cd, q_np, q_po, q_ris, q_pr, q_nr, q_ru⟩ := id hI
  refine ⟨hW.msh hI.sh, ?_, ?_, ?_, ?_, ?_, ?_, ?_, ?_, g_np, g_po, g_ris, ?_, ?_, ?_⟩
  · simp only [en, f1302]
    exact q_nb
  · simp only [en, er, a4]
    exact q_rg
  · simp only [en, a2, a3, a5, a6, a7, a8, a9]
    exact q_bo
  · simp only [a10]
    exact q_op
  · simp only [f1312]
    exact q_sh
  · simp only [eh, f1316]
    exact q_nh
  · simp only [eh, a14, a15]
    exact q_ho
  · simp only [a18]
    exact q_cd
  · simp only [a21, a22]
    exact q_pr
  · simp only [eu, f1329]
    exact q_nr
  · simp only [eu, es, a26, a27]
    exact q_ru
theorem mi_house {o : Nat} {W W1 : Mem} (hI : MI o W) (hW : WM o W W1 (fun f => f = 1316) (fun j => j = 14 ∨ j = 15 ∨ j = 16 ∨ j = 17) (fun _ => False)) (g_nh : gI W1 1316 o = Int32.ofNat (nhW W1 o) ∧ nhW W1 o ≤ 20) (g_ho : ∀ i, i < nhW W1 o → bt (gA W1 (o + 14) i) 0 9999 ∧ bt (gA W1 (o + 15) i) 0 999) : MI o W1 := by
  have f1302 := hW.i (f := 1302) (by intro z; first | exact z | omega | (dsimp only at z; omega))
  have f1312 := hW.i (f := 1312) (by intro z; first | exact z | omega | (dsimp only at z; omega))
  have f1322 := hW.i (f := 1322) (by intro z; first | exact z | omega | (dsimp only at z; omega))
  have f1329 := hW.i (f := 1329) (by intro z; first | exact z | omega | (dsimp only at z; omega))
  have en := hW.nb (by intro z; first | exact z | omega | (dsimp only at z; omega))
  have er := hW.rg (by intro z; first | exact z | omega | (dsimp only at z; omega))
  have ep : npW W1 o = npW W o := by
    unfold npW
    rw [f1322]
  have eu : nrW W1 o = nrW W o := by
    unfold nrW
    rw [f1329]
  have a2 := hW.a (j := 2) (by intro z; first | exact z | omega | (dsimp only at z; omega))
  have a3 := hW.a (j := 3) (by intro z; first | exact z | omega | (dsimp only at z; omega))
  have a4 := hW.a (j := 4) (by intro z; first | exact z | omega | (dsimp only at z; omega))
  have a5 := hW.a (j := 5) (by intro z; first | exact z | omega | (dsimp only at z; omega))
  have a6 := hW.a (j := 6) (by intro z; first | exact z | omega | (dsimp only at z; omega))
  have a7 := hW.a (j := 7) (by intro z; first | exact z | omega | (dsimp only at z; omega))
  have a8 := hW.a (j := 8) (by intro z; first | exact z | omega | (dsimp only at z; omega))
  have a9 := hW.a (j := 9) (by intro z; first | exact z | omega | (dsimp only at z; omega))
  have a10 := hW.a (j := 10) (by intro z; first | exact z | omega | (dsimp only at z; omega))
  have a18 := hW.a (j := 18) (by intro z; first | exact z | omega | (dsimp only at z; omega))
  have a19 := hW.a (j := 19) (by intro z; first | exact z | omega | (dsimp only at z; omega))
  have a20 := hW.a (j := 20) (by intro z; first | exact z | omega | (dsimp only at z; omega))
  have a21 := hW.a (j := 21) (by intro z; first | exact z | omega | (dsimp only at z; omega))
  have a22 := hW.a (j := 22) (by intro z; first | exact z | omega | (dsimp only at z; omega))
  have a26 := hW.a (j := 26) (by intro z; first | exact z | omega | (dsimp only at z; omega))
  have a27 := hW.a (j := 27) (by intro z; first | exact z | omega | (dsimp only at z; omega))
  have es : szW W1 o = szW W o := by
    funext r
    unfold szW
    rw [a26]
  obtain ⟨-, q_nb, q_rg, q_bo, q_op, q_sh, q_nh, q_ho, q_cd, q_np, q_po, q_ris, q_pr, q_nr, q_ru⟩ := id hI
  refine ⟨hW.msh hI.sh, ?_, ?_, ?_, ?_, ?_, g_nh, g_ho, ?_, ?_, ?_, ?_, ?_, ?_, ?_⟩
  · simp only [en, f1302]
    exact q_nb
  · simp only [en, er, a4]
    exact q_rg
  · simp only [en, a2, a3, a5, a6, a7, a8, a9]
    exact q_bo
  · simp only [a10]
    exact q_op
  · simp only [f1312]
    exact q_sh
  · simp only [a18]
    exact q_cd
  · simp only [ep, f1322]
    exact q_np
  · simp only [ep, a19, a20]
    exact q_po
  · simp only [ep, a19]
    exact q_ris
  · simp only [a21, a22]
    exact q_pr
  · simp only [eu, f1329]
    exact q_nr
  · simp only [eu, es, a26, a27]
    exact q_ru
theorem mi_rule {o : Nat} {W W1 : Mem} (hI : MI o W) (hW : WM o W W1 (fun f => f = 1329) (fun j => j = 24 ∨ j = 25 ∨ j = 26 ∨ j = 27) (fun _ => False)) (g_nr : gI W1 1329 o = Int32.ofNat (nrW W1 o) ∧ nrW W1 o ≤ 30) (g_ru : ∀ r, r < nrW W1 o → gA W1 (o + 26) r = Int32.ofNat (szW W1 o r) ∧ szW W1 o r ≤ 60 ∧ okC (gA W1 (o + 27)) (szW W1 o r) (62 * r) 0) : MI o W1 := by
  have f1302 := hW.i (f := 1302) (by intro z; first | exact z | omega | (dsimp only at z; omega))
  have f1312 := hW.i (f := 1312) (by intro z; first | exact z | omega | (dsimp only at z; omega))
  have f1316 := hW.i (f := 1316) (by intro z; first | exact z | omega | (dsimp only at z; omega))
  have f1322 := hW.i (f := 1322) (by intro z; first | exact z | omega | (dsimp only at z; omega))
  have en := hW.nb (by intro z; first | exact z | omega | (dsimp only at z; omega))
  have er := hW.rg (by intro z; first | exact z | omega | (dsimp only at z; omega))
  have eh : nhW W1 o = nhW W o := by
    unfold nhW
    rw [f1316]
  have ep : npW W1 o = npW W o := by
    unfold npW
    rw [f1322]
  have a2 := hW.a (j := 2) (by intro z; first | exact z | omega | (dsimp only at z; omega))
  have a3 := hW.a (j := 3) (by intro z; first | exact z | omega | (dsimp only at z; omega))
  have a4 := hW.a (j := 4) (by intro z; first | exact z | omega | (dsimp only at z; omega))
  have a5 := hW.a (j := 5) (by intro z; first | exact z | omega | (dsimp only at z; omega))
  have a6 := hW.a (j := 6) (by intro z; first | exact z | omega | (dsimp only at z; omega))
  have a7 := hW.a (j := 7) (by intro z; first | exact z | omega | (dsimp only at z; omega))
  have a8 := hW.a (j := 8) (by intro z; first | exact z | omega | (dsimp only at z; omega))
  have a9 := hW.a (j := 9) (by intro z; first | exact z | omega | (dsimp only at z; omega))
  have a10 := hW.a (j := 10) (by intro z; first | exact z | omega | (dsimp only at z; omega))
  have a14 := hW.a (j := 14) (by intro z; first | exact z | omega | (dsimp only at z; omega))
  have a15 := hW.a (j := 15) (by intro z; first | exact z | omega | (dsimp only at z; omega))
  have a18 := hW.a (j := 18) (by intro z; first | exact z | omega | (dsimp only at z; omega))
  have a19 := hW.a (j := 19) (by intro z; first | exact z | omega | (dsimp only at z; omega))
  have a20 := hW.a (j := 20) (by intro z; first | exact z | omega | (dsimp only at z; omega))
  have a21 := hW.a (j := 21) (by intro z; first | exact z | omega | (dsimp only at z; omega))
  have a22 := hW.a (j := 22) (by intro z; first | exact z | omega | (dsimp only at z; omega))
  obtain ⟨-, q_nb, q_rg, q_bo, q_op, q_sh, q_nh, q_ho, q_cd, q_np, q_po, q_ris, q_pr, q_nr, q_ru⟩ := id hI
  refine ⟨hW.msh hI.sh, ?_, ?_, ?_, ?_, ?_, ?_, ?_, ?_, ?_, ?_, ?_, ?_, g_nr, g_ru⟩
  · simp only [en, f1302]
    exact q_nb
  · simp only [en, er, a4]
    exact q_rg
  · simp only [en, a2, a3, a5, a6, a7, a8, a9]
    exact q_bo
  · simp only [a10]
    exact q_op
  · simp only [f1312]
    exact q_sh
  · simp only [eh, f1316]
    exact q_nh
  · simp only [eh, a14, a15]
    exact q_ho
  · simp only [a18]
    exact q_cd
  · simp only [ep, f1322]
    exact q_np
  · simp only [ep, a19, a20]
    exact q_po
  · simp only [ep, a19]
    exact q_ris
  · simp only [a21, a22]
    exact q_pr
theorem mi_bore {o : Nat} {W W1 : Mem} (hI : MI o W) (hW : WM o W W1 (fun f => f = 1302) (fun j => j = 2 ∨ j = 3 ∨ j = 4 ∨ j = 5 ∨ j = 6 ∨ j = 7 ∨ j = 8 ∨ j = 9 ∨ j = 10) (fun j => j = 11 ∨ j = 12)) (g_nb : gI W1 1302 o = Int32.ofNat (nbW W1 o) ∧ nbW W1 o ≤ 8) (g_rg : ∀ b, b < nbW W1 o → gA W1 (o + 4) b = Int32.ofNat (rgW W1 o b) ∧ 1 ≤ rgW W1 o b ∧ rgW W1 o b ≤ 8) (g_bo : ∀ b, b < nbW W1 o → bt (gA W1 (o + 5) b) 100 9999 ∧ bt (gA W1 (o + 6) b) 0 999 ∧ bt (gA W1 (o + 7) b) 0 99 ∧ bt (gA W1 (o + 8) b) 0 999 ∧ bt (gA W1 (o + 9) b) 0 100 ∧ bt (gA W1 (o + 2) b) 0 99 ∧ bt (gA W1 (o + 3) b) 0 99) (g_op : ∀ b, b < 8 → gA W1 (o + 10) b = 0 ∨ gA W1 (o + 10) b = 1) : MI o W1 := by
  have f1312 := hW.i (f := 1312) (by intro z; first | exact z | omega | (dsimp only at z; omega))
  have f1316 := hW.i (f := 1316) (by intro z; first | exact z | omega | (dsimp only at z; omega))
  have f1322 := hW.i (f := 1322) (by intro z; first | exact z | omega | (dsimp only at z; omega))
  have f1329 := hW.i (f := 1329) (by intro z; first | exact z | omega | (dsimp only at z; omega))
  have eh : nhW W1 o = nhW W o := by
    unfold nhW
    rw [f1316]
  have ep : npW W1 o = npW W o := by
    unfold npW
    rw [f1322]
  have eu : nrW W1 o = nrW W o := by
    unfold nrW
    rw [f1329]
  have a14 := hW.a (j := 14) (by intro z; first | exact z | omega | (dsimp only at z; omega))
  have a15 := hW.a (j := 15) (by intro z; first | exact z | omega | (dsimp only at z; omega))
  have a18 := hW.a (j := 18) (by intro z; first | exact z | omega | (dsimp only at z; omega))
  have a19 := hW.a (j := 19) (by intro z; first | exact z | omega | (dsimp only at z; omega))
  have a20 := hW.a (j := 20) (by intro z; first | exact z | omega | (dsimp only at z; omega))
  have a21 := hW.a (j := 21) (by intro z; first | exact z | omega | (dsimp only at z; omega))
  have a22 := hW.a (j := 22) (by intro z; first | exact z | omega | (dsimp only at z; omega))
  have a26 := hW.a (j := 26) (by intro z; first | exact z | omega | (dsimp only at z; omega))
  have a27 := hW.a (j := 27) (by intro z; first | exact z | omega | (dsimp only at z; omega))
  have es : szW W1 o = szW W o := by
    funext r
    unfold szW
    rw [a26]
  obtain ⟨-, q_nb, q_rg, q_bo, q_op, q_sh, q_nh, q_ho, q_cd, q_np, q_po, q_ris, q_pr, q_nr, q_ru⟩ := id hI
  refine ⟨hW.msh hI.sh, g_nb, g_rg, g_bo, g_op, ?_, ?_, ?_, ?_, ?_, ?_, ?_, ?_, ?_, ?_⟩
  · simp only [f1312]
    exact q_sh
  · simp only [eh, f1316]
    exact q_nh
  · simp only [eh, a14, a15]
    exact q_ho
  · simp only [a18]
    exact q_cd
  · simp only [ep, f1322]
    exact q_np
  · simp only [ep, a19, a20]
    exact q_po
  · simp only [ep, a19]
    exact q_ris
  · simp only [a21, a22]
    exact q_pr
  · simp only [eu, f1329]
    exact q_nr
  · simp only [eu, es, a26, a27]
    exact q_ru
