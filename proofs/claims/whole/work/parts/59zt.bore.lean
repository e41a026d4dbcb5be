/-- what a new bore at h with k rings is -/
def BRB (h : Nat) (N : Mem) (tk : Nat → Nat) (num pl p2 wm : Int32) (H F : Nat → Int64) (k : Nat) (r : Nat → Nat) : Prop := LiS N (h + 1) k r ∧ TG N tk (h + 1) k ∧
  (gK N h = 2 ∧ gI N 100 h = num ∧ gI N 101 h = pl ∧ gI N 102 h = p2 ∧ gI N 103 h = wm ∧ gI N 107 h = 0 ∧ gI N 108 h = 0 ∧ gI N 109 h = 1 ∧ gJ N 110 h = 0 ∧ gR N 104 h = some (h + 1)) ∧
  (∀ j, j < k → gK N (r j) = 6 ∧ gJ N 500 (r j) = H j ∧ gJ N 501 (r j) = F j ∧ gJ N 502 (r j) = F j ∧ gJ N 503 (r j) = F j / H j ∧ gJ N 504 (r j) = 0 ∧ h + 2 ≤ r j) ∧ ∀ i j, i < k → j < k → r i = r j → i = j
theorem BRB.fm {h : Nat} {N N1 : Mem} {tk tk1 : Nat → Nat} {num pl p2 wm : Int32} {H F : Nat → Int64} {k : Nat} {r : Nat → Nat} {cI cJ cR : Nat → Nat → Prop} {cA cB cO : Nat → Prop} (hB : BRB h N tk num pl p2 wm H F k r) (hF : FM N N1 cI cJ cR cA cB cO) (hK : KH N) (h1 : ∀ f a, f = 2 ∧ a = h + 1 ∨ 100 ≤ f → ¬ cI f a) (h2 : ∀ f a, ¬ cJ f a) (h3 : ∀ f a, f = 1 ∧ a = h + 1 ∨ f = 104 → ¬ cR f a) (h4 : ∀ a, tk a = h + 1 → ¬ cO a) (h5 : ∀ a, a < gH N → tk1 a = tk a) : BRB h N1 tk1 num pl p2 wm H F k r := by
  obtain ⟨b1, b2, ⟨b3, b4, b5, b6, b7, b8, b9, b10, b11, b12⟩, b13, b14⟩ := hB
  obtain ⟨-, -, e, ej, er, -⟩ := hF.2.2 h (FM.lt hK b3 (by omega))
  refine ⟨hF.lis hK b1 b2 (h1 _ _ (Or.inl ⟨rfl, rfl⟩)) (h3 _ _ (Or.inl ⟨rfl, rfl⟩)) h4, hF.tg2 hK b1 b2 (h3 _ _ (Or.inl ⟨rfl, rfl⟩)) h5, ⟨hF.k hK b3 (by omega), ?_⟩, fun j hj => ?_, b14⟩
  · rw [e 100 (h1 _ _ (by omega)), e 101 (h1 _ _ (by omega)), e 102 (h1 _ _ (by omega)), e 103 (h1 _ _ (by omega)), e 107 (h1 _ _ (by omega)), e 108 (h1 _ _ (by omega)), e 109 (h1 _ _ (by omega)), ej 110 (h2 _ _), er 104 (h3 _ _ (by omega))]
    exact ⟨b4, b5, b6, b7, b8, b9, b10, b11, b12⟩
  · obtain ⟨q1, q2, q3, q4, q5, q6, q7⟩ := b13 j hj
    obtain ⟨-, -, -, ej, -⟩ := hF.2.2 (r j) (FM.lt hK q1 (by omega))
    rw [ej 500 (h2 _ _), ej 501 (h2 _ _), ej 502 (h2 _ _), ej 503 (h2 _ _), ej 504 (h2 _ _)]
    exact ⟨hF.k hK q1 (by omega), q2, q3, q4, q5, q6, q7⟩
/-- a new bore on its way: k rings stand -/
def BRI (M N : Mem) (tg tk : Nat → Nat) (num pl p2 wm : Int32) (H F : Nat → Int64) (k : Nat) (r : Nat → Nat) : Prop := FM M N (fun _ _ => False) (fun _ _ => False) (fun _ _ => False) (fun _ => False) (fun _ => False) (fun _ => False) ∧ KH N ∧ (∀ a, a < gH M → tk a = tg a) ∧ (∀ a, tk a < gH N) ∧ (gH M + 2 ≤ gH N ∧ gH N ≤ gH M + 2 + 2 * k ∧ gS M ≤ gS N ∧ gS N ≤ gS M + 14 + 85 * k) ∧ BRB (gH M) N tk num pl p2 wm H F k r
theorem br_step {M N P : Mem} {tg tk : Nat → Nat} {num pl p2 wm : Int32} {H F : Nat → Int64} {k : Nat} {r : Nat → Nat} (hB : BRI M N tg tk num pl p2 wm H F k r) (hE : gE M < gH M) (htg : ∀ a, tg a < gH M) (hk : k < 8) (hF : FM N P (fun _ _ => False) (fun _ _ => False) (fun f a => f = 105 ∧ a = gH M) (fun _ => False) (fun _ => False) (fun _ => False)) (hKP : KH P) (hH : gH P = gH N + 1) (hS : gS P = gS N + 5) (k6 : gK P (gH N) = 6) (j0 : gJ P 500 (gH N) = H k) (j1 : gJ P 501 (gH N) = F k) (j2 : gJ P 502 (gH N) = F k) (j3 : gJ P 503 (gH N) = F k / H k) (j4 : gJ P 504 (gH N) = 0) : ∃ N1 tk1, F_Jx4a65c_add_9ea2d P (gH M + 1) (gH N) = some (N1, 1) ∧ BRI M N1 tg tk1 num pl p2 wm H F (k + 1) (fun i => if i = k then gH N else r i) ∧ gR N1 105 (gH M) = gR P 105 (gH M) := by
  obtain ⟨hMN, hKN, ht1, ht2, ⟨g1, g2, g3, g4⟩, hL, hT, hb, hr, hj⟩ := hB
  have hMP : FM M P (fun _ _ => False) (fun _ _ => False) (fun _ _ => False) (fun _ => False) (fun _ => False) (fun _ => False) := FM.seq hMN hF (fun _ _ _ z => by rcases z with z | z <;> exact z) (fun _ _ _ z => by rcases z with z | z <;> exact z) (fun _ a ha z => by
    rcases z with z | z
    · exact z
    · omega) (fun _ _ z => by rcases z with z | z <;> exact z) (fun _ _ z => by rcases z with z | z <;> exact z) (fun _ _ z => by rcases z with z | z <;> exact z)
  have hEN := hMN.2.1
  have hEP := hMP.2.1
  have hL2 : LiS P (gH M + 1) k r := hF.lis hKN hL hT id (by omega) (fun _ _ => id)
  have hT2 : TG P tk (gH M + 1) k := hF.tg2 hKN hL hT (by omega) (fun _ _ => rfl)
  obtain ⟨N1, p1, p3, p4, p5, p6, p7, p8, p9, p10⟩ := c_add hKP (show gE P < gH P by omega) hL2 hT2 (by omega) (fun i hi => by
    rw [hF.k hKN (hr i hi).1 (by omega)]
    omega) (v := gH N) (by rw [k6]; omega)
  have hNN : FM N N1 (fun f a => (f = 0 ∨ f = 2) ∧ a = gH M + 1) (fun _ _ => False) (fun f a => f = 105 ∧ a = gH M ∨ f = 1 ∧ a = gH M + 1) (fun _ => False) (fun _ => False) (fun a => tk a = gH M + 1 ∧ gK N a = 23) := FM.seq hF p6 (fun _ _ _ z => by
    rcases z with z | z
    · exact absurd z id
    · exact z) (fun _ _ _ z => by rcases z with z | z <;> exact z) (fun _ _ _ z => z) (fun _ _ z => by rcases z with z | z <;> exact z) (fun _ _ z => by rcases z with z | z <;> exact z) (fun a ha z => by
    rcases z with z | z
    · exact absurd z id
    · exact ⟨z.1, by rw [← (hF.2.2 a ha).1]; exact z.2⟩)
  have hMN1 : FM M N1 (fun _ _ => False) (fun _ _ => False) (fun _ _ => False) (fun _ => False) (fun _ => False) (fun _ => False) := FM.seq hMP p6 (fun _ a ha z => by
    rcases z with z | z
    · exact z
    · omega) (fun _ _ _ z => by rcases z with z | z <;> exact z) (fun _ a ha z => by
    rcases z with z | z
    · exact z
    · omega) (fun _ _ z => by rcases z with z | z <;> exact z) (fun _ _ z => by rcases z with z | z <;> exact z) (fun a ha z => by
    rcases z with z | z
    · exact z
    · have := ht1 a ha
      have := htg a
      omega)
  have fh := p6.2.2 (gH N) (by omega)
  obtain ⟨b3, b4, b5, b6, b7, b8, b9, b10, b11, b12⟩ := hb
  obtain ⟨-, -, e, ej, er, -⟩ := hNN.2.2 (gH M) (by omega)
  refine ⟨N1, up1 tk (gH P) (gH M + 1), p1, ⟨hMN1, p4, fun a ha => ?_, fun a => ?_, ⟨by omega, by omega, by omega, by omega⟩, p3, p5, ⟨hNN.k hKN b3 (by omega), ?_⟩, fun j hjk => ?_, fun i j hi hj2 e => ?_⟩, (p6.2.2 (gH M) (by omega)).2.2.2.2.1 105 (by omega)⟩
  · rw [← ht1 a ha]
    exact if_neg (by omega)
  · show (if a = gH P then gH M + 1 else tk a) < gH N1
    by_cases c : a = gH P
    · rw [if_pos c]
      omega
    · rw [if_neg c]
      have := ht2 a
      omega
  · rw [e 100 (by omega), e 101 (by omega), e 102 (by omega), e 103 (by omega), e 107 (by omega), e 108 (by omega), e 109 (by omega), ej 110 id, er 104 (by omega)]
    exact ⟨b4, b5, b6, b7, b8, b9, b10, b11, b12⟩
  · dsimp only
    by_cases c : j = k
    · rw [if_pos c, c, fh.2.2.2.1 500 id, fh.2.2.2.1 501 id, fh.2.2.2.1 502 id, fh.2.2.2.1 503 id, fh.2.2.2.1 504 id]
      exact ⟨fh.1.trans k6, j0, j1, j2, j3, j4, by omega⟩
    · rw [if_neg c]
      obtain ⟨q1, q2, q3, q4, q5, q6, q7⟩ := hr j (by omega)
      obtain ⟨-, -, -, ej, -⟩ := hNN.2.2 (r j) (FM.lt hKN q1 (by omega))
      rw [ej 500 id, ej 501 id, ej 502 id, ej 503 id, ej 504 id]
      exact ⟨hNN.k hKN q1 (by omega), q2, q3, q4, q5, q6, q7⟩
  · dsimp only at e
    have lt : ∀ m, m < k → r m < gH N := fun m hm => FM.lt hKN (hr m hm).1 (by omega)
    by_cases ci : i = k
    · by_cases cj : j = k
      · omega
      · rw [if_pos ci, if_neg cj] at e
        have := lt j (by omega)
        omega
    · by_cases cj : j = k
      · rw [if_neg ci, if_pos cj] at e
        have := lt i (by omega)
        omega
      · rw [if_neg ci, if_neg cj] at e
        exact hj i j (by omega) (by omega) e
/-- a new ring -/
def NG (M : Mem) (hd fi : Int64) : Mem := sJ (sJ (sJ (sJ (nO M 6 5) 500 (gH M) hd) 501 (gH M) fi) 502 (gH M) fi) 503 (gH M) (fi / hd)
theorem c_ring (M : Mem) {hd : Int64} (wm : Int64) (h : ¬ hd = 0) : F_X4_init (nO M 6 5) (gH M) hd wm = some (NG M hd (((1000 : Int64) * wm) * hd), ()) := by
  unfold F_X4_init
  refine bnd_i (bnd_i (bnd_i ?_))
  have e1 : gJ (sJ (sJ (nO M 6 5) 500 (gH M) hd) 501 (gH M) (((1000 : Int64) * wm) * hd)) 501 (gH M) = ((1000 : Int64) * wm) * hd := by rw [gJ_sf, ud_s]
  rw [e1, gJ_nf (by omega), e1, c_cut h, cl_some]
  rfl
theorem ng_fm (M : Mem) (hd fi : Int64) : FM M (NG M hd fi) (fun _ _ => False) (fun _ _ => False) (fun _ _ => False) (fun _ => False) (fun _ => False) (fun _ => False) := by
  refine ⟨Nat.le_succ _, rfl, fun y hy => ⟨if_neg (by omega), rfl, fun f _ => if_neg (by omega), fun f _ => ?_, fun f _ => if_neg (by omega), fun _ => rfl, fun _ => rfl, fun _ => rfl⟩⟩
  show gJ (sJ (sJ (sJ (sJ (nO M 6 5) 500 (gH M) hd) 501 (gH M) fi) 502 (gH M) fi) 503 (gH M) (fi / hd)) f y = _
  rw [gJ_sJ, if_neg (by omega), gJ_sJ, if_neg (by omega), gJ_sJ, if_neg (by omega), gJ_sJ, if_neg (by omega)]
  exact if_neg (by omega)
theorem ng_kh {M : Mem} (hK : KH M) (hE : gE M < gH M) (hd fi : Int64) : KH (NG M hd fi) := by
  refine ⟨fun y hy => ?_, ?_⟩
  · show y < gH M + 1
    by_cases cy : y = gH M
    · omega
    · have hy : ¬ up1 (gK M) (gH M) 6 y = 0 := hy
      rw [show up1 (gK M) (gH M) 6 y = gK M y from if_neg cy] at hy
      have := hK.1 y hy
      omega
  · show up1 (gK M) (gH M) 6 (gE M) = 0
    rw [show up1 (gK M) (gH M) 6 (gE M) = gK M (gE M) from if_neg (by omega)]
    exact hK.2
theorem ng_j (M : Mem) (hd fi : Int64) : gK (NG M hd fi) (gH M) = 6 ∧ gJ (NG M hd fi) 500 (gH M) = hd ∧ gJ (NG M hd fi) 501 (gH M) = fi ∧ gJ (NG M hd fi) 502 (gH M) = fi ∧ gJ (NG M hd fi) 503 (gH M) = fi / hd ∧ gJ (NG M hd fi) 504 (gH M) = 0 := by
  refine ⟨if_pos rfl, ?_, ?_, ?_, ?_, ?_⟩
  · show gJ (sJ (sJ (sJ (sJ (nO M 6 5) 500 (gH M) hd) 501 (gH M) fi) 502 (gH M) fi) 503 (gH M) (fi / hd)) 500 (gH M) = _
    rw [gJ_nf (by omega), gJ_nf (by omega), gJ_nf (by omega), gJ_sf, ud_s]
  · show gJ (sJ (sJ (sJ (sJ (nO M 6 5) 500 (gH M) hd) 501 (gH M) fi) 502 (gH M) fi) 503 (gH M) (fi / hd)) 501 (gH M) = _
    rw [gJ_nf (by omega), gJ_nf (by omega), gJ_sf, ud_s]
  · show gJ (sJ (sJ (sJ (sJ (nO M 6 5) 500 (gH M) hd) 501 (gH M) fi) 502 (gH M) fi) 503 (gH M) (fi / hd)) 502 (gH M) = _
    rw [gJ_nf (by omega), gJ_sf, ud_s]
  · show gJ (sJ (sJ (sJ (sJ (nO M 6 5) 500 (gH M) hd) 501 (gH M) fi) 502 (gH M) fi) 503 (gH M) (fi / hd)) 503 (gH M) = _
    rw [gJ_sf, ud_s]
  · show gJ (sJ (sJ (sJ (sJ (nO M 6 5) 500 (gH M) hd) 501 (gH M) fi) 502 (gH M) fi) 503 (gH M) (fi / hd)) 504 (gH M) = _
    rw [gJ_nf (by omega), gJ_nf (by omega), gJ_nf (by omega), gJ_nf (by omega)]
    exact if_pos rfl
/-- the last ring is named -/
theorem BRI.last {M N : Mem} {tg tk : Nat → Nat} {num pl p2 wm : Int32} {H F : Nat → Int64} {k : Nat} {r : Nat → Nat} (hB : BRI M N tg tk num pl p2 wm H F k r) (v : Option Nat) : BRI M (sR N 106 (gH M) v) tg tk num pl p2 wm H F k r := by
  obtain ⟨hMN, hKN, ht1, ht2, hg, hb⟩ := hB
  have hF : FM N (sR N 106 (gH M) v) (fun _ _ => False) (fun _ _ => False) (fun f a => f = 106 ∧ a = gH M) (fun _ => False) (fun _ => False) (fun _ => False) := ⟨Nat.le_refl _, rfl, fun y _ => ⟨rfl, rfl, fun _ _ => rfl, fun _ _ => rfl, fun f z => by rw [gR_sR, if_neg z], fun _ => rfl, fun _ => rfl, fun _ => rfl⟩⟩
  refine ⟨FM.seq hMN hF (fun _ _ _ z => by rcases z with z | z <;> exact z) (fun _ _ _ z => by rcases z with z | z <;> exact z) (fun _ a ha z => by
    rcases z with z | z
    · exact z
    · omega) (fun _ _ z => by rcases z with z | z <;> exact z) (fun _ _ z => by rcases z with z | z <;> exact z) (fun _ _ z => by rcases z with z | z <;> exact z), hKN, ht1, ht2, hg, hb.fm hF hKN (fun _ _ _ => id) (fun _ _ => id) (fun f a z1 z2 => by omega) (fun _ _ => id) (fun _ _ => rfl)⟩
theorem c_rings {M : Mem} {tg : Nat → Nat} {num pl p2 wm hd st : Int32} {H F : Nat → Int64} {R : Nat} (hE : gE M < gH M) (htg : ∀ a, tg a < gH M) (hR : R ≤ 8) (hH : ∀ k, k < 8 → H k = (hd + Int32.ofNat k * st).toInt64) (hH0 : ∀ k, k < 8 → ¬ H k = 0) (hF : ∀ k, k < 8 → F k = ((1000 : Int64) * wm.toInt64) * H k) : ∀ (q k f : Nat) (N : Mem) (tk r : Nat → Nat), k + q = R → q < f → 1 ≤ k → BRI M N tg tk num pl p2 wm H F k r → gR N 105 (gH M) = some (r 0) → ∃ N1 tk1 r1, F_X0_init_p85 F_X0_init_p128 f N (gH M) (Int32.ofNat R) hd st wm (r (k - 1)) (Int32.ofNat k) = some (N1, ()) ∧ BRI M N1 tg tk1 num pl p2 wm H F R r1 ∧ gR N1 105 (gH M) = some (r1 0) ∧ gR N1 106 (gH M) = some (r1 (R - 1)) := by
  intro q
  induction q with
  | zero =>
    intro k f N tk r hq hf hk1 hB h5
    obtain ⟨f, rfl⟩ : ∃ z, f = z + 1 := ⟨f - 1, by omega⟩
    have : k = R := by omega
    subst this
    unfold F_X0_init_p85 F_X0_init_p128
    rw [if_pos ((ofN_le (by omega) (by omega)).mpr (Nat.le_refl _))]
    refine ⟨sR N 106 (gH M) (some (r (k - 1))), tk, r, rfl, hB.last _, ?_, ?_⟩
    · rw [gR_nf (by omega)]
      exact h5
    · rw [gR_sf, ud_s]
  | succ q ih =>
    intro k f N tk r hq hf hk1 hB h5
    obtain ⟨f, rfl⟩ : ∃ z, f = z + 1 := ⟨f - 1, by omega⟩
    have hE2 : gE N < gH N := by
      have := hB.1.2.1
      have := hB.2.2.2.2.1.1
      omega
    obtain ⟨z6, z0, z1, z2, z3, z4⟩ := ng_j N (H k) (F k)
    have hg := hB.2.2.2.2.1.1
    have b12 := hB.2.2.2.2.2.2.2.1.2.2.2.2.2.2.2.2.2
    have hl1 := hB.2.2.2.2.2.1.1
    obtain ⟨N1, tk1, s1, s2, s3⟩ := br_step hB hE htg (by omega) (P := NG N (H k) (F k)) (FM.seq (ng_fm N (H k) (F k)) (⟨Nat.le_refl _, rfl, fun _ _ => ⟨rfl, rfl, fun _ _ => rfl, fun _ _ => rfl, fun _ _ => rfl, fun _ => rfl, fun _ => rfl, fun _ => rfl⟩⟩ : FM (NG N (H k) (F k)) (NG N (H k) (F k)) (fun _ _ => False) (fun _ _ => False) (fun _ _ => False) (fun _ => False) (fun _ => False) (fun _ => False)) (fun _ _ _ z => by rcases z with z | z <;> exact z) (fun _ _ _ z => by rcases z with z | z <;> exact z) (fun _ _ _ z => by rcases z with z | z <;> exact absurd z id) (fun _ _ z => by rcases z with z | z <;> exact z) (fun _ _ z => by rcases z with z | z <;> exact z) (fun _ _ z => by rcases z with z | z <;> exact z)) (ng_kh hB.2.1 hE2 _ _) rfl rfl z6 z0 z1 z2 z3 z4
    have hf := (ng_fm N (H k) (F k)).2.2 (gH M) (by omega)
    have hrec := ih (k + 1) f N1 tk1 (fun i => if i = k then gH N else r i) (by omega) (by omega) (by omega) s2 (by
      rw [s3, hf.2.2.2.2.1 105 id, h5, if_neg (by omega)])
    obtain ⟨N2, tk2, r2, t1, t2, t3, t4⟩ := hrec
    refine ⟨N2, tk2, r2, ?_, t2, t3, t4⟩
    conv => lhs; unfold F_X0_init_p85
    rw [if_neg (fun z => by
      have := (ofN_le (by omega) (by omega)).mp z
      omega)]
    refine bnd_i (bnd_i ?_)
    rw [← hH k (by omega), c_ring N _ (hH0 k (by omega)), cl_some, ← hF k (by omega)]
    dsimp only
    rw [hf.2.2.2.2.1 104 id, b12, lr_some (((ng_fm N (H k) (F k)).k hB.2.1 hl1 (by omega))), s1, cl_some]
    refine bnd_i ?_
    rw [show Int32.ofNat k + 1 = Int32.ofNat (k + 1) from ofN_succ]
    rw [if_pos (show k + 1 - 1 = k by omega)] at t1
    exact t1
