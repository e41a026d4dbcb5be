/-- the bracket's end -/
theorem close_out {x o T nr : Nat} {tb : Nat → Nat} {M W : Mem} (hc : CT x T tb M) (hm : MT o T nr tb W) (rc rm : Nat → Mem → Nat → Int32 → Option (Mem × Unit)) {a0 n0 a n : Nat} {κ0 γ0 κ γ : Nat → Int32} (G : GOOD T nr a0 n0 κ0 γ0 a n κ γ) (hn0 : n0 ≤ a0) : OUT x o T nr M W a0 n0 κ0 γ0 (F_X9_readBracket_p29 rc (PC M x (Int32.ofNat n) (Int32.ofNat a) (-1) κ) (x + 13)) (F_X12_compares_p73 rm (PQ W o (Int32.ofNat n) (Int32.ofNat a) 0 γ) o) := by
  have hby := hc.2.2.2.2
  have hT := hc.2.2.1
  have haT := G.1
  have g2 := G.2.1
  have g3 := G.2.2.1
  by_cases cl1 : a < T ∧ tb a = 41
  · obtain ⟨ca, hb⟩ := cl1
    have i5 : ¬ idxS 5 (tb a) < 0 := fun k => (ix_5 (tb a) (hby a ca)).mp k hb
    have hh : hereN T tb a = (41 : Int32) := by
      unfold hereN
      rw [if_pos ca, hb]
      rfl
    refine Or.inl ⟨a + 1, n, κ, γ, ?_, ?_, good_wide G (Nat.le_refl _) (by omega) (by omega)⟩
    · unfold F_X9_readBracket_p29 F_X9_readBracket_p55
      rw [c_isAt hc _ a haT κ (by omega), cl_some]
      dsimp only
      rw [if_pos (show a < T ∧ ¬ idxS 5 (tb a) < 0 from ⟨ca, i5⟩), if_neg (show ¬ (1 : Int32) = 0 by decide), PC_a, sPC_a]
      refine bnd_i ?_
      rw [ofN_add1]
    · unfold F_X12_compares_p73
      rw [PQ_f, if_pos rfl, m_here hm _ 0 a haT γ, cl_some]
      dsimp only
      rw [if_pos hh, PQ_a, sPQ_a]
      refine bnd_i ?_
      rw [ofN_add1]
  · have i5 : ¬ (a < T ∧ ¬ idxS 5 (tb a) < 0) := fun k => k.2 ((ix_5 (tb a) (hby a k.1)).mpr (fun z => cl1 ⟨k.1, z⟩))
    have hh : ¬ hereN T tb a = (41 : Int32) := by
      unfold hereN
      by_cases ca : a < T
      · rw [if_pos ca]
        intro k
        exact cl1 ⟨ca, (ofN_eq (m := 41) (by have := hby a ca; omega) (by omega)).mp k⟩
      · rw [if_neg ca]
        decide
    refine Or.inr ⟨a, n, Int32.ofNat n, κ, γ, ?_, ?_, by omega, haT, by omega, g3, G.2.2.2.2.1⟩
    · unfold F_X9_readBracket_p29 F_X9_readBracket_p55
      rw [c_isAt hc _ a haT κ (by omega), cl_some]
      dsimp only
      rw [if_neg i5, if_pos rfl, c_fail, cl_some]
    · unfold F_X12_compares_p73 F_X12_compares_p89
      rw [PQ_f, if_pos rfl, m_here hm _ 0 a haT γ, cl_some]
      dsimp only
      rw [if_neg hh, grd_pos (Or.inr rfl), sPQ_f]
      rfl
theorem close_fault {x o : Nat} (M W : Mem) (rc rm : Nat → Mem → Nat → Int32 → Option (Mem × Unit)) (u a : Int32) {ft : Int32} (hf : ¬ ft = -1) (κ : Nat → Int32) (n a2 : Int32) (γ : Nat → Int32) : F_X9_readBracket_p29 rc (PC M x u a ft κ) (x + 13) = some (PC M x u a ft κ, ()) ∧ F_X12_compares_p73 rm (PQ W o n a2 1 γ) o = some (PQ W o n a2 1 γ, ()) := by
  constructor
  · unfold F_X9_readBracket_p29 F_X9_readBracket_p55
    rw [c_isAt_f u a hf κ, cl_some]
    dsimp only
    rw [if_pos rfl, c_fail_f M u a hf κ, cl_some]
  · unfold F_X12_compares_p73 F_X12_compares_p89
    rw [PQ_f, if_neg (show ¬ (1 : Int32) = 0 by decide), grd_pos (Or.inr rfl), sPQ_f]
    rfl
theorem br_alk {x o T nr : Nat} {tb : Nat → Nat} {M W : Mem} (hc : CT x T tb M) (hm : MT o T nr tb W) (rc rm1 rm2 : Nat → Mem → Nat → Int32 → Option (Mem × Unit)) {d : Int32} (h1 : ALK x o T nr M W (fun M' => rc 0 M' (x + 13) d) (fun W' => rm1 0 W' o d)) (h2 : ALK x o T nr M W (fun M' => rc 0 M' (x + 13) d) (fun W' => rm2 0 W' o d)) : ALK x o T nr M W (fun M' => B_X9_readBracket rc M' (x + 13) d) (fun W' => cl (rm1 0 W' o d) fun M6 _ => B_X12_compares rm2 M6 o d) := by
  have hC := hc.1
  have hT := hc.2.2.1
  have hby := hc.2.2.2.2
  intro a n κ γ ha hn
  show OUT x o T nr M W a n κ γ (B_X9_readBracket rc (PC M x (Int32.ofNat n) (Int32.ofNat a) (-1) κ) (x + 13) d) (cl (rm1 0 (PQ W o (Int32.ofNat n) (Int32.ofNat a) 0 γ) o d) fun M6 _ => B_X12_compares rm2 M6 o d)
  unfold B_X9_readBracket
  rcases h1 a n κ γ ha hn with ⟨a1, n1, κ1, γ1, r1, r2, G⟩ | ⟨a1, n1, u1, κ1, γ1, r1, r2, r3, r4, r5, r6, r7⟩
  · have r1 : rc 0 (PC M x (Int32.ofNat n) (Int32.ofNat a) (-1) κ) (x + 13) d = _ := r1
    have r2 : rm1 0 (PQ W o (Int32.ofNat n) (Int32.ofNat a) 0 γ) o d = _ := r2
    have haT := G.1
    have g2 := G.2.1
    have g3 := G.2.2.1
    rw [r1, r2, cl_some, cl_some]
    dsimp only
    rw [c_isAt hc _ a1 haT κ1 (by omega), cl_some]
    dsimp only
    unfold B_X12_compares
    rw [m_here hm _ 0 a1 haT γ1, cl_some]
    dsimp only
    rw [PQ_f, if_pos rfl]
    by_cases op : a1 < T ∧ (tb a1 = 60 ∨ tb a1 = 61 ∨ tb a1 = 62)
    · obtain ⟨ca, ob⟩ := op
      have hh : hereN T tb a1 = Int32.ofNat (tb a1) := if_pos ca
      have i4 : ¬ idxS 4 (tb a1) < 0 := fun k => (ix_4 (tb a1) (hby a1 ca)).mp k ob
      rw [if_pos (show a1 < T ∧ ¬ idxS 4 (tb a1) < 0 from ⟨ca, i4⟩), if_neg (show ¬ (1 : Int32) = 0 by decide), c_takeOp hc _ a1 ca κ1, cl_some]
      dsimp only
      obtain ⟨c, hc1, hc2, hc3⟩ : ∃ c : Int32, opr c ∧ cmap c = (-10 : Int32) - idxS 6 (tb a1) ∧ (if hereN T tb a1 = (60 : Int32) then F_X12_compares_p30 rm2 (PQ W o (Int32.ofNat n1) (Int32.ofNat a1) 0 γ1) o d (hereN T tb a1) else if hereN T tb a1 = (61 : Int32) then F_X12_compares_p30 rm2 (PQ W o (Int32.ofNat n1) (Int32.ofNat a1) 0 γ1) o d (hereN T tb a1) else if hereN T tb a1 = (62 : Int32) then F_X12_compares_p30 rm2 (PQ W o (Int32.ofNat n1) (Int32.ofNat a1) 0 γ1) o d (hereN T tb a1) else F_X12_compares_p73 rm2 (PQ W o (Int32.ofNat n1) (Int32.ofNat a1) 0 γ1) o) = cl (rm2 0 (PQ W o (Int32.ofNat n1) (Int32.ofNat (a1 + 1)) 0 γ1) o d) fun M2 _ => F_X12_compares_p70 rm2 M2 o o c := by
        have e30 : F_X12_compares_p30 rm2 (PQ W o (Int32.ofNat n1) (Int32.ofNat a1) 0 γ1) o d (hereN T tb a1) = cl (rm2 0 (PQ W o (Int32.ofNat n1) (Int32.ofNat (a1 + 1)) 0 γ1) o d) fun M2 _ => if hereN T tb a1 = (60 : Int32) then F_X12_compares_p70 rm2 M2 o o 24 else if hereN T tb a1 = (61 : Int32) then F_X12_compares_p70 rm2 M2 o o 25 else F_X12_compares_p70 rm2 M2 o o 26 := by
          unfold F_X12_compares_p30
          rw [PQ_a, sPQ_a]
          refine bnd_i ?_
          rw [ofN_add1]
        rcases ob with ob | ob | ob
        · have z1 : hereN T tb a1 = (60 : Int32) := by
            rw [hh, ob]
            rfl
          refine ⟨24, ⟨by decide, by decide⟩, by rw [ob, ix_6.2.2.2.2.1]; decide, ?_⟩
          rw [if_pos z1, e30]
          simp only [if_pos z1]
        · have z1 : ¬ hereN T tb a1 = (60 : Int32) := by
            rw [hh, ob]
            decide
          have z2 : hereN T tb a1 = (61 : Int32) := by
            rw [hh, ob]
            rfl
          refine ⟨25, ⟨by decide, by decide⟩, by rw [ob, ix_6.2.2.2.2.2.1]; decide, ?_⟩
          rw [if_neg z1, if_pos z2, e30]
          simp only [if_neg z1, if_pos z2]
        · have z1 : ¬ hereN T tb a1 = (60 : Int32) := by
            rw [hh, ob]
            decide
          have z2 : ¬ hereN T tb a1 = (61 : Int32) := by
            rw [hh, ob]
            decide
          have z3 : hereN T tb a1 = (62 : Int32) := by
            rw [hh, ob]
            rfl
          refine ⟨26, ⟨by decide, by decide⟩, by rw [ob, ix_6.2.2.2.2.2.2]; decide, ?_⟩
          rw [if_neg z1, if_neg z2, if_pos z3, e30]
          simp only [if_neg z1, if_neg z2]
      rw [hc3]
      rcases h2 (a1 + 1) n1 κ1 γ1 (by omega) (by omega) with ⟨a2, n2, κ2, γ2, s1, s2, G2⟩ | ⟨a2, n2, u2, κ2, γ2, s1, s2, s3, s4, s5, s6, s7⟩
      · have s1 : rc 0 (PC M x (Int32.ofNat n1) (Int32.ofNat (a1 + 1)) (-1) κ1) (x + 13) d = _ := s1
        have s2 : rm2 0 (PQ W o (Int32.ofNat n1) (Int32.ofNat (a1 + 1)) 0 γ1) o d = _ := s2
        have k1 := G2.1
        have k2 := G2.2.1
        have k3 := G2.2.2.1
        rw [s1, s2, cl_some, cl_some]
        dsimp only
        unfold F_X12_compares_p70
        rw [c_emit hC (by omega), m_puts hm (by omega), cl_some, cl_some]
        exact close_out hc hm rc rm2 (good_op G G2 hc1 hc2) hn
      · have s1 : rc 0 (PC M x (Int32.ofNat n1) (Int32.ofNat (a1 + 1)) (-1) κ1) (x + 13) d = _ := s1
        have s2 : rm2 0 (PQ W o (Int32.ofNat n1) (Int32.ofNat (a1 + 1)) 0 γ1) o d = _ := s2
        obtain ⟨u3, κ3, e3⟩ := c_emit_any (M := M) hC u2 (Int32.ofNat a2) (Int32.ofNat a2) κ2 ((-10 : Int32) - idxS 6 (tb a1))
        rw [s1, s2, cl_some, cl_some]
        dsimp only
        unfold F_X12_compares_p70
        rw [e3, m_puts hm (by omega), cl_some, cl_some]
        dsimp only
        obtain ⟨f1, f2⟩ := close_fault (x := x) (o := o) M W rc rm2 u3 (Int32.ofNat a2) (ofN_nn (n := a2) (by omega)) κ3 (Int32.ofNat (n2 + 1)) (Int32.ofNat a2) (ud γ2 (62 * nr + n2) c)
        rw [f1, f2]
        refine Or.inr ⟨a2, n2 + 1, u3, κ3, _, rfl, rfl, by omega, s4, by omega, by omega, fun j hj => ?_⟩
        rw [ud_n _ (by omega), s7 j (by omega)]
        exact G.2.2.2.2.1 j hj
    · have i4 : ¬ (a1 < T ∧ ¬ idxS 4 (tb a1) < 0) := fun k => k.2 ((ix_4 (tb a1) (hby a1 k.1)).mpr (fun z => op ⟨k.1, z⟩))
      have nz : ∀ b, b < 256 → (b = 60 ∨ b = 61 ∨ b = 62) → ¬ hereN T tb a1 = Int32.ofNat b := by
        intro b hb ho
        unfold hereN
        by_cases ca : a1 < T
        · rw [if_pos ca]
          intro k
          have := (ofN_eq (m := b) (by have := hby a1 ca; omega) (by omega)).mp k
          exact op ⟨ca, by omega⟩
        · rw [if_neg ca]
          exact fun k => ofN_nn (n := b) (by omega) k.symm
      rw [if_neg i4, if_pos rfl, if_neg (show ¬ hereN T tb a1 = (60 : Int32) from nz 60 (by omega) (by omega)), if_neg (show ¬ hereN T tb a1 = (61 : Int32) from nz 61 (by omega) (by omega)), if_neg (show ¬ hereN T tb a1 = (62 : Int32) from nz 62 (by omega) (by omega))]
      exact close_out hc hm rc rm2 G hn
  · have r1 : rc 0 (PC M x (Int32.ofNat n) (Int32.ofNat a) (-1) κ) (x + 13) d = _ := r1
    have r2 : rm1 0 (PQ W o (Int32.ofNat n) (Int32.ofNat a) 0 γ) o d = _ := r2
    obtain ⟨f1, f2⟩ := close_fault (x := x) (o := o) M W rc rm2 u1 (Int32.ofNat a1) (ofN_nn (n := a1) (by omega)) κ1 (Int32.ofNat n1) (Int32.ofNat a1) γ1
    rw [r1, r2, cl_some, cl_some]
    dsimp only
    rw [c_isAt_f u1 (Int32.ofNat a1) (ofN_nn (n := a1) (by omega)) κ1, cl_some]
    dsimp only
    rw [if_pos rfl, f1]
    unfold B_X12_compares
    rw [m_here hm _ 1 a1 r4 γ1, cl_some]
    dsimp only
    rw [PQ_f, if_neg (show ¬ (1 : Int32) = 0 by decide), f2]
    exact Or.inr ⟨a1, n1, u1, κ1, γ1, rfl, rfl, r3, r4, r5, r6, r7⟩
theorem g9_0 (n : Nat) (M : Mem) (y : Nat) (d : Int32) : F_X9_g (n + 1) 0 M y d = B_X9_readSum (F_X9_g n) M y d := rfl
theorem g9_1 (n : Nat) (M : Mem) (y : Nat) (d : Int32) : F_X9_g (n + 1) 1 M y d = B_X9_readTerm (F_X9_g n) M y d := rfl
theorem g9_2 (n : Nat) (M : Mem) (y : Nat) (d : Int32) : F_X9_g (n + 1) 2 M y d = B_X9_readUnit (F_X9_g n) M y d := rfl
theorem g9_3 (n : Nat) (M : Mem) (y : Nat) (d : Int32) : F_X9_g (n + 1) 3 M y d = B_X9_readBracket (F_X9_g n) M y d := rfl
theorem g12_0 (n : Nat) (M : Mem) (y : Nat) (d : Int32) : F_X12_g (n + 1) 0 M y d = B_X12_sum (F_X12_g n) M y d := rfl
theorem g12_1 (n : Nat) (M : Mem) (y : Nat) (d : Int32) : F_X12_g (n + 1) 1 M y d = B_X12_term (F_X12_g n) M y d := rfl
theorem g12_2 (n : Nat) (M : Mem) (y : Nat) (d : Int32) : F_X12_g (n + 1) 2 M y d = B_X12_unit (F_X12_g n) M y d := rfl
theorem g12_3 (n : Nat) (M : Mem) (y : Nat) (d : Int32) : F_X12_g (n + 1) 3 M y d = B_X12_compares (F_X12_g n) M y d := rfl
theorem parse_alk {x o T nr : Nat} {tb : Nat → Nat} {M W : Mem} (hc : CT x T tb M) (hm : MT o T nr tb W) : ∀ (k d fc fm : Nat), d + k = 5 → 4 * k + 3 ≤ fc → 4 * k + 3 ≤ fm → ALK x o T nr M W (fun M' => F_X9_g fc 0 M' (x + 13) (Int32.ofNat d)) (fun W' => F_X12_g fm 0 W' o (Int32.ofNat d)) := by
  intro k
  induction k with
  | zero =>
    intro d fc fm hd hfc hfm
    obtain ⟨fc, rfl⟩ : ∃ z, fc = z + 3 := ⟨fc - 3, by omega⟩
    obtain ⟨fm, rfl⟩ : ∃ z, fm = z + 3 := ⟨fm - 3, by omega⟩
    have hu : ALK x o T nr M W (fun M' => F_X9_g (fc + 1) 2 M' (x + 13) (Int32.ofNat d)) (fun W' => F_X12_g (fm + 1) 2 W' o (Int32.ofNat d)) := unit_alk hc hm (F_X9_g fc) (F_X12_g fm) (by omega) (fun h => by omega)
    have ht : ALK x o T nr M W (fun M' => F_X9_g (fc + 2) 1 M' (x + 13) (Int32.ofNat d)) (fun W' => F_X12_g (fm + 2) 1 W' o (Int32.ofNat d)) := term_alk hc hm (F_X9_g (fc + 1)) (F_X12_g (fm + 1)) hu
    exact sum_alk hc hm (F_X9_g (fc + 2)) (F_X12_g (fm + 2)) ht
  | succ k ih =>
    intro d fc fm hd hfc hfm
    obtain ⟨fc, rfl⟩ : ∃ z, fc = z + 4 := ⟨fc - 4, by omega⟩
    obtain ⟨fm, rfl⟩ : ∃ z, fm = z + 4 := ⟨fm - 4, by omega⟩
    have hb : ALK x o T nr M W (fun M' => F_X9_g (fc + 1) 3 M' (x + 13) (Int32.ofNat (d + 1))) (fun W' => cl (F_X12_g (fm + 1) 0 W' o (Int32.ofNat (d + 1))) fun M6 _ => F_X12_g (fm + 1) 3 M6 o (Int32.ofNat (d + 1))) := br_alk hc hm (F_X9_g fc) (F_X12_g (fm + 1)) (F_X12_g fm) (ih (d + 1) fc (fm + 1) (by omega) (by omega) (by omega)) (ih (d + 1) fc fm (by omega) (by omega) (by omega))
    have hu : ALK x o T nr M W (fun M' => F_X9_g (fc + 2) 2 M' (x + 13) (Int32.ofNat d)) (fun W' => F_X12_g (fm + 2) 2 W' o (Int32.ofNat d)) := unit_alk hc hm (F_X9_g (fc + 1)) (F_X12_g (fm + 1)) (by omega) (fun _ => hb)
    have ht : ALK x o T nr M W (fun M' => F_X9_g (fc + 3) 1 M' (x + 13) (Int32.ofNat d)) (fun W' => F_X12_g (fm + 3) 1 W' o (Int32.ofNat d)) := term_alk hc hm (F_X9_g (fc + 2)) (F_X12_g (fm + 2)) hu
    exact sum_alk hc hm (F_X9_g (fc + 3)) (F_X12_g (fm + 3)) ht
/-- the whole text, read by both -/
theorem parse_top {x o T nr : Nat} {tb : Nat → Nat} {M W : Mem} (hc : CT x T tb M) (hm : MT o T nr tb W) (κ γ : Nat → Int32) : OUT x o T nr M W 0 0 κ γ (F_X9_g FD 0 (PC M x 0 0 (-1) κ) (x + 13) (0 : Int32)) (F_X12_g FD 0 (PQ W o 0 0 0 γ) o (0 : Int32)) :=
  parse_alk hc hm 5 0 FD FD (by omega) (by unfold FD; omega) (by unfold FD; omega) 0 0 κ γ (Nat.zero_le _) (Nat.le_refl _)
