theorem runC_ind {co : Nat → Int32} {nm nm1 : Nat → Int64} (hnm : ∀ k, k < 9 → nm k = nm1 k) : ∀ (r j n : Nat) (s s1 : Nat → Int64), okC co r j n → (∀ i, i < n → s i = s1 i) → runC co nm r j n s 0 = runC co nm1 r j n s1 0 := by
  intro r
  induction r with
  | zero =>
    intro j n s s1 hok hs
    unfold okC at hok
    unfold runC
    exact hs 0 (by omega)
  | succ r ih =>
    intro j n s s1 hok hs
    unfold okC at hok
    unfold runC
    have hud : ∀ (m : Nat) (v v1 : Int64), m ≤ n → v = v1 → ∀ i, i < m + 1 → ud s m v i = ud s1 m v1 i := by
      intro m v v1 hm hv i hi
      unfold ud
      by_cases hc : i = m
      · rw [if_pos hc, if_pos hc, hv]
      · rw [if_neg hc, if_neg hc, hs i (by omega)]
    rcases hok with ⟨hp, hn, hok⟩ | ⟨hp, hn2, hn, hok⟩
    · rcases hp with hp | hp
      · simp only [if_pos hp.1]
        exact ih (j + 1) (n + 1) _ _ hok (hud n _ _ (Nat.le_refl _) rfl)
      · have k1 : ¬ 1000 ≤ (co j).toInt := by omega
        simp only [if_neg k1, if_pos hp.2]
        refine ih (j + 1) (n + 1) _ _ hok (hud n _ _ (Nat.le_refl _) (hnm _ ?_))
        have h1 : (0 : Int) ≤ (co j).toInt := hp.1
        have h2 := hp.2
        unfold ixn
        show (co j).toInt.toNat < 9
        omega
    · have := hp.1
      have := hp.2
      have k1 : ¬ 1000 ≤ (co j).toInt := by omega
      have k2 : ¬ (co j).toInt < 9 := by omega
      simp only [if_neg k1, if_neg k2]
      refine ih (j + 1) (n - 1) _ _ hok ?_
      rw [hs (n - 2) (by omega), hs (n - 1) (by omega)]
      intro i hi
      exact hud (n - 2) _ _ (by omega) rfl i (by omega)
/-- what rule r's codes are worth -/
def wkS (co : Nat → Int32) (nm : Nat → Int64) (r sz : Nat) : Int64 := runC co nm sz (62 * r) 0 (fun _ => 0) 0
theorem m_worth {o : Nat} {M : Mem} (hS : MSh o M) {r sz : Nat} (hr : r < 30) (hsz : sz ≤ 60) (hz : gA M (o + 26) r = Int32.ofNat sz) (hok : okC (gA M (o + 27)) sz (62 * r) 0) : ∃ s, F_X12_worth M o (Int32.ofNat r) = some (wB M (o + 33) s, wkS (gA M (o + 27)) (gB M (o + 32)) r sz) := by
  have h := m_worth_loop hS hr hsz hz sz (62 * r) 0 FU (gB M (o + 33)) rfl (by unfold FU; omega) hok
  rw [wB_self] at h
  refine ⟨runC (gA M (o + 27)) (gB M (o + 32)) sz (62 * r) 0 (gB M (o + 33)), ?_⟩
  unfold F_X12_worth
  have e : (62 : Int32) * Int32.ofNat r = Int32.ofNat (62 * r) := by
    rw [show (62 : Int32) = Int32.ofNat 62 from rfl, ofN_mulk]
  simp only [bnd, e]
  refine h.trans ?_
  unfold wkS
  rw [runC_ind (fun _ _ => rfl) sz (62 * r) 0 (gB M (o + 33)) (fun _ => 0) hok (fun i hi => by omega)]
/-- the rule in force: the latest day not behind, of several the one told last -/
def bestS (fr dy : Nat → Int32) (p d : Int32) : Nat → Option Nat
  | 0 => none
  | n + 1 => if fr n = p then (if d < dy n then bestS fr dy p d n else (match bestS fr dy p d n with
    | none => some n
    | some b => if dy n < dy b then some b else some n)) else bestS fr dy p d n
theorem bestS_succ (fr dy : Nat → Int32) (p d : Int32) (n : Nat) : bestS fr dy p d (n + 1) = if fr n = p then (if d < dy n then bestS fr dy p d n else (match bestS fr dy p d n with
    | none => some n
    | some b => if dy n < dy b then some b else some n)) else bestS fr dy p d n := rfl
theorem bestS_lt {fr dy : Nat → Int32} {p d : Int32} : ∀ {n b : Nat}, bestS fr dy p d n = some b → b < n := by
  intro n
  induction n with
  | zero => intro b h; cases h
  | succ n ih =>
    intro b h
    unfold bestS at h
    by_cases h1 : fr n = p
    · rw [if_pos h1] at h
      by_cases h2 : d < dy n
      · rw [if_pos h2] at h
        have := ih h
        omega
      · rw [if_neg h2] at h
        cases hb : bestS fr dy p d n with
        | none =>
          rw [hb] at h
          cases h
          omega
        | some c =>
          rw [hb] at h
          dsimp only at h
          have := ih hb
          by_cases h3 : dy n < dy c
          · rw [if_pos h3] at h
            cases h
            omega
          · rw [if_neg h3] at h
            cases h
            omega
    · rw [if_neg h1] at h
      have := ih h
      omega
def enc : Option Nat → Int32
  | none => -1
  | some b => Int32.ofNat b
theorem m_best_loop {o : Nat} {M : Mem} (hS : MSh o M) {nr : Nat} (hn : gI M 1329 o = Int32.ofNat nr) (h30 : nr ≤ 30) (k : Mem → Nat → Int32 → Int32 → Int32 → Option (Mem × Int64)) (b p d : Int32) : ∀ (q i f : Nat), i + q = nr → q < f →
    F_X12_mayOf_p14 k f M o b p d (enc (bestS (gA M (o + 24)) (gA M (o + 25)) p d i)) (Int32.ofNat i) = k M o b d (enc (bestS (gA M (o + 24)) (gA M (o + 25)) p d nr)) := by
  intro q
  induction q with
  | zero =>
    intro i f hi hf
    obtain ⟨f, rfl⟩ : ∃ z, f = z + 1 := ⟨f - 1, by omega⟩
    have : i = nr := by omega
    subst this
    unfold F_X12_mayOf_p14
    rw [hn, if_pos ((ofN_le (by omega) (by omega)).mpr (Nat.le_refl _))]
  | succ q ih =>
    intro i f hi hf
    obtain ⟨f, rfl⟩ : ∃ z, f = z + 1 := ⟨f - 1, by omega⟩
    have h1 : inb (Int32.ofNat i) 30 := ofN_inb (by omega) (by omega)
    have h2 : ixn (Int32.ofNat i) = i := ofN_ix (by omega)
    have hrec := ih (i + 1) f (by omega) (by omega)
    rw [bestS_succ] at hrec
    unfold F_X12_mayOf_p14
    rw [hn, if_neg (by rw [ofN_le (by omega) (by omega)]; omega)]
    simp only [hS.r1330, hS.r1331, lr_some hS.k24, lr_some hS.k25, hS.n24, hS.n25, grd_pos h1, h2]
    by_cases c1 : gA M (o + 24) i = p
    · rw [if_pos c1] at hrec ⊢
      by_cases c2 : d < gA M (o + 25) i
      · rw [if_pos c2] at hrec ⊢
        unfold F_X12_mayOf_p49 F_X12_mayOf_p50 F_X12_mayOf_p84 F_X12_mayOf_p86
        simp only [if_true, bnd, ofN_succ]
        exact hrec
      · rw [if_neg c2] at hrec ⊢
        unfold F_X12_mayOf_p50 F_X12_mayOf_p79 F_X12_mayOf_p84 F_X12_mayOf_p86
        simp only [one_ne, if_false, bnd, ofN_succ]
        cases hb : bestS (gA M (o + 24)) (gA M (o + 25)) p d i with
        | none =>
          rw [hb] at hrec
          rw [if_pos (show enc none < 0 by decide)]
          exact hrec
        | some c =>
          rw [hb] at hrec
          dsimp only at hrec
          have hc := bestS_lt hb
          have h3 : inb (Int32.ofNat c) 30 := ofN_inb (by omega) (by omega)
          have h4 : ixn (Int32.ofNat c) = c := ofN_ix (by omega)
          have h5 : ¬ enc (some c) < 0 := by
            show ¬ Int32.ofNat c < 0
            rw [Int32.lt_iff_toInt_lt, ofN_toInt (by omega)]
            simp
          rw [if_neg h5]
          simp only [enc, hS.r1331, lr_some hS.k25, hS.n25, grd_pos h1, h2, grd_pos h3, h4]
          by_cases c3 : gA M (o + 25) i < gA M (o + 25) c
          · rw [if_pos c3] at hrec ⊢
            exact hrec
          · rw [if_neg c3] at hrec ⊢
            exact hrec
    · rw [if_neg c1] at hrec ⊢
      unfold F_X12_mayOf_p49 F_X12_mayOf_p50 F_X12_mayOf_p84 F_X12_mayOf_p86
      simp only [if_true, bnd, ofN_succ]
      exact hrec
def nbW (M : Mem) (o : Nat) : Nat := ixn (gI M 1302 o)
def nhW (M : Mem) (o : Nat) : Nat := ixn (gI M 1316 o)
def npW (M : Mem) (o : Nat) : Nat := ixn (gI M 1322 o)
def nrW (M : Mem) (o : Nat) : Nat := ixn (gI M 1329 o)
def rgW (M : Mem) (o b : Nat) : Nat := ixn (gA M (o + 4) b)
def szW (M : Mem) (o r : Nat) : Nat := ixn (gA M (o + 26) r)
abbrev bt (x : Int32) (lo hi : Int) : Prop := lo ≤ x.toInt ∧ x.toInt ≤ hi
/-- what the model holds besides an hour's numbers is as it must be -/
def MI (o : Nat) (M : Mem) : Prop := MSh o M ∧ (gI M 1302 o = Int32.ofNat (nbW M o) ∧ nbW M o ≤ 8) ∧
  (∀ b, b < nbW M o → gA M (o + 4) b = Int32.ofNat (rgW M o b) ∧ 1 ≤ rgW M o b ∧ rgW M o b ≤ 8) ∧
  (∀ b, b < nbW M o → bt (gA M (o + 5) b) 100 9999 ∧ bt (gA M (o + 6) b) 0 999 ∧ bt (gA M (o + 7) b) 0 99 ∧ bt (gA M (o + 8) b) 0 999 ∧ bt (gA M (o + 9) b) 0 100 ∧ bt (gA M (o + 2) b) 0 99 ∧ bt (gA M (o + 3) b) 0 99) ∧
  (∀ b, b < 8 → gA M (o + 10) b = 0 ∨ gA M (o + 10) b = 1) ∧ bt (gI M 1312 o) 0 999 ∧
  (gI M 1316 o = Int32.ofNat (nhW M o) ∧ nhW M o ≤ 20) ∧ (∀ i, i < nhW M o → bt (gA M (o + 14) i) 0 9999 ∧ bt (gA M (o + 15) i) 0 999) ∧
  (∀ i, i < 12 → bt (gA M (o + 18) i) (-40) 40) ∧
  (gI M 1322 o = Int32.ofNat (npW M o) ∧ npW M o ≤ 8) ∧ (∀ k, k < npW M o → bt (gA M (o + 19) k) (-20) 99 ∧ bt (gA M (o + 20) k) 100 999) ∧
  (∀ k, k + 1 < npW M o → (gA M (o + 19) k).toInt < (gA M (o + 19) (k + 1)).toInt) ∧
  (∀ i, i < 24 → bt (gA M (o + 21) i) 0 999 ∧ bt (gA M (o + 22) i) 0 99999) ∧
  (gI M 1329 o = Int32.ofNat (nrW M o) ∧ nrW M o ≤ 30) ∧
  (∀ r, r < nrW M o → gA M (o + 26) r = Int32.ofNat (szW M o r) ∧ szW M o r ≤ 60 ∧ okC (gA M (o + 27)) (szW M o r) (62 * r) 0)
theorem MI.sh {o : Nat} {M : Mem} (h : MI o M) : MSh o M := h.1
theorem MI.nb {o : Nat} {M : Mem} (h : MI o M) : gI M 1302 o = Int32.ofNat (nbW M o) := h.2.1.1
theorem MI.nb8 {o : Nat} {M : Mem} (h : MI o M) : nbW M o ≤ 8 := h.2.1.2
theorem MI.rg {o : Nat} {M : Mem} (h : MI o M) {b : Nat} (hb : b < nbW M o) : gA M (o + 4) b = Int32.ofNat (rgW M o b) := (h.2.2.1 b hb).1
theorem MI.rg1 {o : Nat} {M : Mem} (h : MI o M) {b : Nat} (hb : b < nbW M o) : 1 ≤ rgW M o b := (h.2.2.1 b hb).2.1
theorem MI.rg8 {o : Nat} {M : Mem} (h : MI o M) {b : Nat} (hb : b < nbW M o) : rgW M o b ≤ 8 := (h.2.2.1 b hb).2.2
theorem MI.bo {o : Nat} {M : Mem} (h : MI o M) {b : Nat} (hb : b < nbW M o) : bt (gA M (o + 5) b) 100 9999 ∧ bt (gA M (o + 6) b) 0 999 ∧ bt (gA M (o + 7) b) 0 99 ∧ bt (gA M (o + 8) b) 0 999 ∧ bt (gA M (o + 9) b) 0 100 ∧ bt (gA M (o + 2) b) 0 99 ∧ bt (gA M (o + 3) b) 0 99 := h.2.2.2.1 b hb
theorem MI.op {o : Nat} {M : Mem} (h : MI o M) {b : Nat} (hb : b < 8) : gA M (o + 10) b = 0 ∨ gA M (o + 10) b = 1 := h.2.2.2.2.1 b hb
theorem MI.share {o : Nat} {M : Mem} (h : MI o M) : bt (gI M 1312 o) 0 999 := h.2.2.2.2.2.1
theorem MI.nh {o : Nat} {M : Mem} (h : MI o M) : gI M 1316 o = Int32.ofNat (nhW M o) := h.2.2.2.2.2.2.1.1
theorem MI.nh20 {o : Nat} {M : Mem} (h : MI o M) : nhW M o ≤ 20 := h.2.2.2.2.2.2.1.2
theorem MI.ho {o : Nat} {M : Mem} (h : MI o M) {i : Nat} (hi : i < nhW M o) : bt (gA M (o + 14) i) 0 9999 ∧ bt (gA M (o + 15) i) 0 999 := h.2.2.2.2.2.2.2.1 i hi
theorem MI.cd {o : Nat} {M : Mem} (h : MI o M) {i : Nat} (hi : i < 12) : bt (gA M (o + 18) i) (-40) 40 := h.2.2.2.2.2.2.2.2.1 i hi
theorem MI.np {o : Nat} {M : Mem} (h : MI o M) : gI M 1322 o = Int32.ofNat (npW M o) := h.2.2.2.2.2.2.2.2.2.1.1
theorem MI.np8 {o : Nat} {M : Mem} (h : MI o M) : npW M o ≤ 8 := h.2.2.2.2.2.2.2.2.2.1.2
theorem MI.po {o : Nat} {M : Mem} (h : MI o M) {k : Nat} (hk : k < npW M o) : bt (gA M (o + 19) k) (-20) 99 ∧ bt (gA M (o + 20) k) 100 999 := h.2.2.2.2.2.2.2.2.2.2.1 k hk
theorem MI.ris {o : Nat} {M : Mem} (h : MI o M) {k : Nat} (hk : k + 1 < npW M o) : (gA M (o + 19) k).toInt < (gA M (o + 19) (k + 1)).toInt := h.2.2.2.2.2.2.2.2.2.2.2.1 k hk
theorem MI.pr {o : Nat} {M : Mem} (h : MI o M) {i : Nat} (hi : i < 24) : bt (gA M (o + 21) i) 0 999 ∧ bt (gA M (o + 22) i) 0 99999 := h.2.2.2.2.2.2.2.2.2.2.2.2.1 i hi
theorem MI.nr {o : Nat} {M : Mem} (h : MI o M) : gI M 1329 o = Int32.ofNat (nrW M o) := h.2.2.2.2.2.2.2.2.2.2.2.2.2.1.1
theorem MI.nr30 {o : Nat} {M : Mem} (h : MI o M) : nrW M o ≤ 30 := h.2.2.2.2.2.2.2.2.2.2.2.2.2.1.2
theorem MI.ru {o : Nat} {M : Mem} (h : MI o M) {r : Nat} (hr : r < nrW M o) : gA M (o + 26) r = Int32.ofNat (szW M o r) ∧ szW M o r ≤ 60 ∧ okC (gA M (o + 27)) (szW M o r) (62 * r) 0 := h.2.2.2.2.2.2.2.2.2.2.2.2.2.2 r hr
theorem miHM {o : Nat} {M : Mem} (hI : MI o M) (h g t : Nat → Int64) (q : Nat → Nat → Int64) : MI o (HM o M h g t q) := hI
/-- a hold is above 0 -/
theorem hold_bt {hd st : Nat → Int32} {b k : Nat} (h1 : bt (hd b) 100 9999) (h2 : bt (st b) 0 999) (hk : k < 8) : (holdS hd st b k).toInt64.toInt = (hd b).toInt + k * (st b).toInt ∧ 100 ≤ (holdS hd st b k).toInt64.toInt ∧ (holdS hd st b k).toInt64.toInt ≤ 16992 := by
  unfold holdS
  have e1 : (Int32.ofNat k).toInt = k := ofN_toInt (by omega)
  have hm1 : (0 : Int) ≤ (k : Int) * (st b).toInt := Int.mul_nonneg (by omega) h2.1
  have hm2 : (k : Int) * (st b).toInt ≤ 7 * 999 := Int.mul_le_mul (by omega) h2.2 h2.1 (by omega)
  have e2 : (Int32.ofNat k * st b).toInt = k * (st b).toInt := by rw [i32_mul (by rw [e1]; omega) (by rw [e1]; omega), e1]
  have := h1.1
  have := h1.2
  have e3 : (hd b + Int32.ofNat k * st b).toInt = (hd b).toInt + k * (st b).toInt := by rw [i32_add (by rw [e2]; omega) (by rw [e2]; omega), e2]
  rw [Int32.toInt_toInt64, e3]
  omega
theorem i64_ne {x : Int64} (h : x.toInt ≠ 0) : ¬ x = 0 := fun k => h (by rw [k]; rfl)
theorem MI.hold {o : Nat} {M : Mem} (h : MI o M) {b k : Nat} (hb : b < nbW M o) (hk : k < 8) : ¬ (holdS (gA M (o + 5)) (gA M (o + 6)) b k).toInt64 = 0 := by
  have := (hold_bt (h.bo hb).1 (h.bo hb).2.1 hk).2.1
  exact i64_ne (by omega)
