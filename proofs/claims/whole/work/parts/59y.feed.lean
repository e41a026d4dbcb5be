theorem m_feed_loop {o : Nat} {W : Mem} (hS : MSh o W) (z : Int64) {n u : Nat} (hn : n ≤ 8) (hu : u + n ≤ 60) (κ : Nat → Int32) : ∀ d k fu, k + d = n → 100 ≤ fu + k → F_X12_feed_p39 F_X12_feed_p82 (fu + d + 1) (FW W o (Int32.ofNat (u + k)) (tpS z u κ k)) o (Int32.ofNat n) z (Int32.ofNat k) = some (FW W o (Int32.ofNat (u + n)) (tpS z u κ n), Int32.ofNat (u + n)) := by
  intro d
  induction d with
  | zero =>
    intro k fu hk _
    have : k = n := by omega
    subst this
    unfold F_X12_feed_p39 F_X12_feed_p82
    rw [if_pos (Int32.le_refl _)]
    have eu : gI (FW W o (Int32.ofNat (u + k)) (tpS z u κ k)) 1328 o = Int32.ofNat (u + k) := by
      show gI (sI W 1328 o _) 1328 o = _
      rw [gI_sI, if_pos ⟨rfl, rfl⟩]
    rw [eu]
  | succ d ih =>
    intro k fu hk hf
    unfold F_X12_feed_p39
    have c1 : ¬ Int32.ofNat n ≤ Int32.ofNat k := by
      rw [Int32.le_iff_toInt_le, ofN_toInt (by omega), ofN_toInt (by omega)]
      omega
    have i1 : inb (Int32.ofNat (u + k)) 60 := ofN_inb (by omega) (by omega)
    have i2 : ixn (Int32.ofNat (u + k)) = u + k := ofN_ix (by omega)
    have eu : gI (FW W o (Int32.ofNat (u + k)) (tpS z u κ k)) 1328 o = Int32.ofNat (u + k) := by
      show gI (sI W 1328 o _) 1328 o = _
      rw [gI_sI, if_pos ⟨rfl, rfl⟩]
    have eq : ∀ w v : Int32, w = Int32.ofNat (u + (k + 1)) → v = byS z k → sI (sA (FW W o (Int32.ofNat (u + k)) (tpS z u κ k)) (o + 23) (u + k) v) 1328 o w = FW W o (Int32.ofNat (u + (k + 1))) (tpS z u κ (k + 1)) := by
      intro w v hw hv
      subst hw hv
      have e1 : gI (sI (sA (FW W o (Int32.ofNat (u + k)) (tpS z u κ k)) (o + 23) (u + k) (byS z k)) 1328 o (Int32.ofNat (u + (k + 1)))) = gI (FW W o (Int32.ofNat (u + (k + 1))) (tpS z u κ (k + 1))) := by
        funext f a
        show (if f = 1328 ∧ a = o then _ else if f = 1328 ∧ a = o then _ else gI W f a) = (if f = 1328 ∧ a = o then _ else gI W f a)
        by_cases c : f = 1328 ∧ a = o
        · rw [if_pos c, if_pos c]
        · rw [if_neg c, if_neg c, if_neg c]
      have e2 : gA (sI (sA (FW W o (Int32.ofNat (u + k)) (tpS z u κ k)) (o + 23) (u + k) (byS z k)) 1328 o (Int32.ofNat (u + (k + 1)))) = gA (FW W o (Int32.ofNat (u + (k + 1))) (tpS z u κ (k + 1))) := by
        funext a
        show gA (sA (FW W o (Int32.ofNat (u + k)) (tpS z u κ k)) (o + 23) (u + k) (byS z k)) a = gA (wA (sI W 1328 o _) (o + 23) _) a
        by_cases c : a = o + 23
        · subst c
          rw [gA_sf, gA_wA, if_pos rfl]
          show ud (gA (wA (sI W 1328 o _) (o + 23) _) (o + 23)) _ _ = _
          rw [gA_wA, if_pos rfl]
          rfl
        · rw [gA_nf c, gA_wA, if_neg c]
          show gA (wA (sI W 1328 o _) (o + 23) _) a = _
          rw [gA_wA, if_neg c]
          rfl
      exact congr (congrArg (fun i a => mk (gK W) (gN W) i (gJ W) (gR W) a (gB W) (gO W) (gH W) (gS W) (gE W)) e1) e2
    rw [if_neg c1, eu]
    show lr (gR W 1327 o) (gK W) 20 _ = _
    rw [hS.r1327, lr_some hS.k23]
    show grd (inb _ (gN W (o + 23))) _ = _
    rw [hS.n23, grd_pos i1, i2]
    refine bnd_i (bnd_i (bnd_i ?_))
    have e3 : gI (sA (FW W o (Int32.ofNat (u + k)) (tpS z u κ k)) (o + 23) (u + k) (((z >>> (((8 : Int32) * Int32.ofNat k).toInt64 &&& 63)) &&& (255 : Int64)).toInt32)) 1328 o + 1 = Int32.ofNat (u + (k + 1)) := by
      show gI (FW W o (Int32.ofNat (u + k)) (tpS z u κ k)) 1328 o + 1 = _
      rw [eu]
      exact ofN_succ
    rw [eq _ _ e3 (byte_eq z (by omega)).symm, show Int32.ofNat k + 1 = Int32.ofNat (k + 1) from ofN_succ, show fu + (d + 1) = fu + d + 1 by omega]
    exact ih (k + 1) fu (by omega) (by omega)
theorem tpS_byte (z : Int64) (u : Nat) (κ : Nat → Int32) (h : ∀ i, i < u → ∃ b, b < 256 ∧ κ i = Int32.ofNat b) : ∀ k i, i < u + k → ∃ b, b < 256 ∧ tpS z u κ k i = Int32.ofNat b := by
  intro k
  induction k with
  | zero =>
    intro i hi
    exact h i hi
  | succ k ih =>
    intro i hi
    show ∃ b, b < 256 ∧ ud (tpS z u κ k) (u + k) (byS z k) i = _
    by_cases c : i = u + k
    · subst c
      rw [ud_s]
      exact byte_lt _
    · rw [ud_n _ c]
      exact ih i (by omega)
theorem tpS_eq (z : Int64) (u : Nat) {κ κ1 : Nat → Int32} (h : ∀ i, i < 60 → κ i = κ1 i) : ∀ k i, i < 60 → tpS z u κ k i = tpS z u κ1 k i := by
  intro k
  induction k with
  | zero =>
    intro i hi
    exact h i hi
  | succ k ih =>
    intro i hi
    show ud (tpS z u κ k) (u + k) (byS z k) i = ud (tpS z u κ1 k) (u + k) (byS z k) i
    by_cases c : i = u + k
    · subst c
      rw [ud_s, ud_s]
    · rw [ud_n _ c, ud_n _ c, ih i hi]
theorem op_feed {x o : Nat} {M W : Mem} (h : Rel x o M W) (a : Int32) (z : Int64) : OPR x o M W (F_X11_feed M x a z) (F_X12_feed W o a z) := by
  have r6 : OPR x o M W (F_X11_feed_p32 M x) (F_X12_feed_p29 W o) := opr_map id (opr_refuse h rf6 (by omega) (by omega)) (fun _ _ => rfl) (fun _ _ => rfl)
  obtain ⟨ha, ua, ba, ma, ea, ra, rb, tg, hr, hR⟩ := id h
  have hC := hR.csh
  have hI := hR.mi
  have hS := hI.sh
  obtain ⟨tp, t1, t2, t3⟩ := hR.2.1.2.2.2.1
  have hT := hR.2.2.1
  have z1 : (1 : Int32).toInt = 1 := by decide
  have z8 : (8 : Int32).toInt = 8 := by decide
  unfold F_X11_feed F_X12_feed
  by_cases c1 : (1 : Int32) ≤ a
  · rw [if_pos c1, if_pos c1]
    by_cases c2 : (8 : Int32) < a
    · rw [if_pos c2, if_pos c2]
      exact r6
    · rw [if_neg c2, if_neg c2, hC.r1203, lr_some hC.k13, hT.1, t1]
      have c1 := i32_le.mp c1
      rw [Int32.lt_iff_toInt_lt] at c2
      obtain ⟨n, hn, rfl⟩ := isB_of (n := 9) (b := a) ⟨by omega, by omega⟩
      rw [show (60 : Int32) - Int32.ofNat tp = Int32.ofNat (60 - tp) from ofN_subk (show 60 < 2147483648 by omega) (by omega), ← Int32.ofNat_add]
      by_cases c3 : tp + n ≤ 60
      · rw [if_pos ((ofN_le (by omega) (by omega)).mpr (by omega)), if_pos (show Int32.ofNat (tp + n) ≤ (60 : Int32) from (ofN_le (m := 60) (by omega) (by omega)).mpr c3)]
        have e1 : FC M x (Int32.ofNat (tp + 0)) (tpS z tp (gA M (x + 14)) 0) = M := by
          have e : sI M 1002 (x + 13) (Int32.ofNat (tp + 0)) = M := by
            have e3 : up2 (gI M) 1002 (x + 13) (Int32.ofNat tp) = gI M := by
              funext f a
              show (if f = 1002 ∧ a = x + 13 then _ else _) = _
              by_cases c : f = 1002 ∧ a = x + 13
              · rw [if_pos c, c.1, c.2, hT.1, t1]
              · rw [if_neg c]
            exact congrArg (fun i => mk (gK M) (gN M) i (gJ M) (gR M) (gA M) (gB M) (gO M) (gH M) (gS M) (gE M)) e3
          unfold FC
          rw [e]
          exact wA_self M (x + 14)
        have e2 : FW W o (Int32.ofNat (tp + 0)) (tpS z tp (gA W (o + 23)) 0) = W := by
          have e : sI W 1328 o (Int32.ofNat (tp + 0)) = W := by
            have e3 : up2 (gI W) 1328 o (Int32.ofNat tp) = gI W := by
              funext f a
              show (if f = 1328 ∧ a = o then _ else _) = _
              by_cases c : f = 1328 ∧ a = o
              · rw [if_pos c, c.1, c.2, t1]
              · rw [if_neg c]
            exact congrArg (fun i => mk (gK W) (gN W) i (gJ W) (gR W) (gA W) (gB W) (gO W) (gH W) (gS W) (gE W)) e3
          unfold FW
          rw [e]
          exact wA_self W (o + 23)
        have f1 := c_feed_loop hC z (n := n) (u := tp) (by omega) (by omega) (gA M (x + 14)) n 0 (FU - (n + 1)) (by omega) (by unfold FU; omega)
        have f2 := m_feed_loop hS z (n := n) (u := tp) (by omega) (by omega) (gA W (o + 23)) n 0 (FU - (n + 1)) (by omega) (by unfold FU; omega)
        rw [e1, show FU - (n + 1) + n + 1 = FU by unfold FU; omega] at f1
        rw [e2, show FU - (n + 1) + n + 1 = FU by unfold FU; omega] at f2
        refine opr_of f1 f2 (upd_feed hR ⟨Nat.le_refl _, rfl, fun a1 _ => ⟨rfl, rfl, fun f w => ?_, fun _ _ => rfl, fun _ _ => rfl, fun w => ?_, fun _ => rfl, fun _ => rfl⟩⟩ ⟨rfl, rfl, rfl, rfl, rfl, rfl, rfl, rfl, fun f w => ?_, fun j w => ?_, fun _ _ => rfl⟩ rfl rfl ⟨tp + n, ?_, c3, ?_⟩ ⟨?_, ?_⟩) rfl rfl rfl rfl
        · show gI (sI M 1002 (x + 13) _) f a1 = _
          rw [gI_sI, if_neg (fun k => w ⟨by omega, by omega, k.2⟩)]
        · show gA (wA _ _ _) a1 = _
          rw [gA_wA, if_neg w]
          rfl
        · show gI (sI W 1328 o _) f o = _
          rw [gI_sI, if_neg (fun k => w k.1)]
        · show gA (wA _ _ _) (o + j) = _
          rw [gA_wA, if_neg (by omega)]
          rfl
        · show gI (sI W 1328 o _) 1328 o = _
          rw [gI_sI, if_pos ⟨rfl, rfl⟩]
        · intro i hi
          show ∃ b, b < 256 ∧ gA (wA _ _ _) (o + 23) i = _
          rw [gA_wA, if_pos rfl]
          exact tpS_byte z tp _ t3 n i hi
        · show gI (sI M 1002 (x + 13) _) 1002 (x + 13) = gI (sI W 1328 o _) 1328 o
          rw [gI_sI, if_pos ⟨rfl, rfl⟩, gI_sI, if_pos ⟨rfl, rfl⟩]
        · intro i hi
          show gA (wA _ _ _) (x + 14) i = gA (wA _ _ _) (o + 23) i
          rw [gA_wA, if_pos rfl, gA_wA, if_pos rfl]
          exact tpS_eq z tp hT.2 n i hi
      · rw [if_neg (fun k => c3 (by have := (ofN_le (by omega) (by omega)).mp k; omega)), if_neg (show ¬ Int32.ofNat (tp + n) ≤ (60 : Int32) from fun k => c3 ((ofN_le (m := 60) (by omega) (by omega)).mp k))]
        exact r6
  · rw [if_neg c1, if_neg c1]
    exact opr_map id (opr_refuse h rf4 (by omega) (by omega)) (fun _ _ => rfl) (fun _ _ => rfl)
