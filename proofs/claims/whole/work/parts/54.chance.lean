/-! KINGFISHERS: drawn, luck, chance, mean -/
theorem wh_accA {A R : Type} {f : A × Int32 × mT → Option ((A × Int32 × mT) ⊕ R)} (I : mT → Prop) (ac : Nat → A) (n : Nat) (Q : R → Prop) (hs : ∀ k, k < n → ∀ s, I s → ∃ s', f (ac k, nI k, s) = some (.inl (ac (k + 1), nI (k + 1), s')) ∧ I s') (he : ∀ s, I s → ∃ r, f (ac n, nI n, s) = some (.inr r) ∧ Q r) {s : mT} (h0 : I s) (hn : n < FU) : ∃ r, wh FU f (ac 0, (0 : Int32), s) = some r ∧ Q r :=
  wh_inv (f := f) (fun k q => q.1 = ac k ∧ q.2.1 = nI k ∧ I q.2.2) Q n (fun k hk q hq => by
    obtain ⟨a, i, s⟩ := q
    obtain ⟨h1, h2, h3⟩ := hq
    dsimp only at h1 h2 h3
    subst h1 h2
    obtain ⟨s', h4, h5⟩ := hs k hk s h3
    exact ⟨_, h4, rfl, rfl, h5⟩) (fun q hq => by
    obtain ⟨a, i, s⟩ := q
    obtain ⟨h1, h2, h3⟩ := hq
    dsimp only at h1 h2 h3
    subst h1 h2
    exact he s h3) (q := (ac 0, (0 : Int32), s)) ⟨rfl, rfl, h0⟩ FU hn
def lcg (x : Int64) : Int64 := (((1103515245 : Int64) * x) + (12345 : Int64)) - (((1103515245 : Int64) * x) + (12345 : Int64)) / (2147483648 : Int64) * (2147483648 : Int64)
def lct (y : Int64) : Int64 := (y / (65536 : Int64)) - (y / (65536 : Int64)) / (10 : Int64) * (10 : Int64)
def xsq (seed : Int64) : Nat → Int64
  | 0 => seed
  | n + 1 => lcg (xsq seed n)
def dkB (D : RD) (seed : Int64) (n : Nat) : Bool := decide (lct (lcg (xsq seed n)) < (nI (D 3 0)).toInt64)
/-- kingfishers at the steps of p below j -/
def dkS (D : RD) (p : Nat → Bool) (j : Nat) : Nat → Nat → Bool := fun i w => sh0 D i w || (decide (i < j) && p i && decide (D 11 w ≤ 5))
def dkL (lu : Nat → Nat) (p : Nat → Bool) (j : Nat) : Nat → Nat := fun i => if i < j ∧ p i = true then max (lu i) 5 else lu i
abbrev kfT (D : RD) (p : Nat → Bool) : SU := tX D (D 1 0) (D 9) (D 10) (D 14) (dkS D p (D 0 0))
abbrev l0 (D : RD) : Nat → Nat := luN D (fun _ => false) (D 7 0)
theorem dkS_0 (D : RD) (p : Nat → Bool) : dkS D p 0 = sh0 D := by
  funext i w
  unfold dkS
  rw [decide_eq_false (Nat.not_lt_zero i), Bool.false_and, Bool.false_and, Bool.or_false]
theorem dkS_f {D : RD} {p : Nat → Bool} {j : Nat} (h : p j = false) : dkS D p (j + 1) = dkS D p j := by
  funext i w
  unfold dkS
  by_cases e : i = j
  · subst e; rw [h, Bool.and_false, Bool.and_false]
  · rw [show decide (i < j + 1) = decide (i < j) from by simp; omega]
theorem dkS_t {D : RD} {p : Nat → Bool} {j : Nat} (h : p j = true) : dkS D p (j + 1) = drS D (dkS D p j) j 5 := by
  funext i w
  unfold dkS drS
  by_cases e : i = j
  · subst e
    (try dsimp only)
    rw [h, decide_eq_true (Nat.lt_succ_self i), decide_eq_false (Nat.lt_irrefl i), decide_eq_true (rfl : i = i)]
    simp
  · rw [show decide (i < j + 1) = decide (i < j) from by simp; omega, decide_eq_false e, Bool.false_and, Bool.or_false]
theorem dkL_0 (lu : Nat → Nat) (p : Nat → Bool) : dkL lu p 0 = lu := by
  funext i
  unfold dkL
  rw [if_neg (fun z => Nat.not_lt_zero _ z.1)]
theorem dkL_f {lu : Nat → Nat} {p : Nat → Bool} {j : Nat} (h : p j = false) : dkL lu p (j + 1) = dkL lu p j := by
  funext i
  unfold dkL
  by_cases e : i = j
  · subst e
    rw [if_neg (fun z => by rw [h] at z; cases z.2), if_neg (fun z => by rw [h] at z; cases z.2)]
  · rw [ite_iff (show (i < j + 1 ∧ p i = true) ↔ (i < j ∧ p i = true) from ⟨fun z => ⟨by omega, z.2⟩, fun z => ⟨by omega, z.2⟩⟩)]
theorem dkL_t {lu : Nat → Nat} {p : Nat → Bool} {j : Nat} (h : p j = true) : dkL lu p (j + 1) = upN (dkL lu p j) j (max (lu j) 5) := by
  funext i
  unfold upN dkL
  by_cases e : i = j
  · subst e
    rw [if_pos ⟨by omega, h⟩, if_pos rfl]
  · rw [if_neg e, ite_iff (show (i < j + 1 ∧ p i = true) ↔ (i < j ∧ p i = true) from ⟨fun z => ⟨by omega, z.2⟩, fun z => ⟨by omega, z.2⟩⟩)]
theorem dkL_at {lu : Nat → Nat} {p : Nat → Bool} {j : Nat} : dkL lu p j j = lu j := if_neg (fun z => Nat.lt_irrefl _ z.1)
theorem s0_dk {D : RD} (hV : VD D) {p : Nat → Bool} {j : Nat} (hj : ∀ i, i < D 0 0 → p i = true → i < j) : ∀ i w, i < D 0 0 → w < D 6 0 → dkS D p (D 0 0) i w = s0N D (dkL (l0 D) p j) 0 i w := fun i w hi hw => by
  unfold dkS
  rw [show sh0 D i w = s0N D (l0 D) 0 i w from s0_0 hV i w hi hw, decide_eq_true hi, Bool.true_and]
  unfold s0N dkL
  rw [Nat.zero_div, show decide (0 % 2 = 1) = false from rfl, Bool.false_or, Bool.false_or]
  cases hp : p i with
  | false => rw [if_neg (fun z => by cases z.2), Bool.false_and, Bool.or_false]
  | true =>
    rw [if_pos ⟨hj i hi hp, rfl⟩, Bool.true_and]
    by_cases h1 : D 11 w ≤ l0 D i <;> by_cases h2 : D 11 w ≤ 5 <;> simp [h1, h2] <;> omega
section KF
variable {n w b k c lw m v : Nat} {s s' : mT} {D : RD} {xs : Nat → Int32} {T : SU}
theorem c_drawn (h : IV xs D s) {x : Int32} : gL_drawnKingfishers x s = some (nI (bmN (dkB D x.toInt64) (D 0 0))) := by
  have hd := h.bd
  have e : wh FU (gL_drawnKingfishers_h9 s) (x.toInt64, (0 : Int32), (0 : Int32)) = some (nI (bmN (dkB D x.toInt64) (D 0 0))) := by
    refine wh_for (fun k => (xsq x.toInt64 k, nI (bmN (dkB D x.toInt64) k), nI k)) (D 0 0) (fun k hk => ?_) ?_ FU (FU_gt (by omega))
    · unfold gL_drawnKingfishers_h9
      dsimp only
      rw [h.N, if_neg (nle (by omega) (by omega) (by omega)), if_neg (by decide), if_neg (by decide), if_neg (by decide), h.R.1.2.2.2.1]
      show ((if 0 ≤ lg_cmp (lct (lcg (xsq x.toInt64 k))) ((nI (D 3 0)).toInt64) then some (nI (bmN (dkB D x.toInt64) k)) else some (nI (bmN (dkB D x.toInt64) k) ||| ((1 : Int32) <<< (nI k &&& 31)))).bind fun x14 => some (Sum.inl (lcg (xsq x.toInt64 k), x14, nI k + (1 : Int32)))) = _
      rw [st_bn (p := dkB D x.toInt64) (by omega) (by
        unfold dkB
        rw [lg_cmp_ge, decide_eq_false_iff_not, Int64.not_lt]), Option.bind_some, nI_1]
      rfl
    · unfold gL_drawnKingfishers_h9
      dsimp only
      rw [h.N, if_pos (nI_le (Nat.le_refl _) (by omega))]
  unfold gL_drawnKingfishers
  rw [e]
  rfl
theorem c_kf {x : Nat} (h : IV xs D s) (hP : PR 121 D (tX D (D 1 0) (D 9) (D 10) (D 14) (sh0 D)) s) (hx : x < 2 ^ 31) {p : Nat → Bool} (hp : ∀ i, i < D 0 0 → p i = decide (x / 2 ^ i % 2 = 1)) : ∃ s', gC_drawKingfishers 121 (nI x) s = some s' ∧ KP s s' ∧ IV xs D s' ∧ PR 121 D (kfT D p) s' := by
  have hd := h.bd
  obtain ⟨s', f1, f2⟩ := wh_cnt (f := gC_drawKingfishers_h2 121 (nI x)) (fun j t => KP s t ∧ IV xs D t ∧ PR 121 D (tX D (D 1 0) (D 9) (D 10) (D 14) (dkS D p j)) t) (fun t => KP s t ∧ IV xs D t ∧ PR 121 D (kfT D p) t) 0 (D 0 0) (by omega) (fun j _ hj t hI => by
    obtain ⟨i1, i2, i3⟩ := hI
    have e2 : x / 2 ^ j % 2 < 2 := Nat.mod_lt _ (by decide)
    have step : gC_drawKingfishers_h2 121 (nI x) (nI j, t) = (if p j = true then (gC_draw 121 (nI j) (5 : Int32) t).bind fun p5 => some p5 else some t).bind fun x4 => some (.inl (nI (j + 1), x4)) := by
      unfold gC_drawKingfishers_h2
      dsimp only
      rw [i2.N, if_neg (nle (by omega) (by omega) (by omega)), shr_b hx (by omega), ite_iff (show (nI (x / 2 ^ j % 2) = (1 : Int32)) ↔ (p j = true) by
        rw [hp j hj, decide_eq_true_eq]
        exact nI_eq (b := 1) (by omega) (by omega)), nI_1]
    rw [step]
    cases hpj : p j with
    | false => exact ⟨t, by rw [if_neg (by decide), Option.bind_some], i1, i2, by rw [dkS_f hpj]; exact i3⟩
    | true =>
      obtain ⟨t2, z1, z2, z3, z4⟩ := i2.draw (n := j) (v := 5) i3 (by omega) (by omega)
      refine ⟨t2, ?_, i1.tr z2, z3, by rw [dkS_t hpj]; exact z4⟩
      rw [if_pos rfl, show gC_draw 121 (nI j) (5 : Int32) t = some t2 from z1, Option.bind_some, Option.bind_some]) (fun t hI => by
    refine ⟨t, ?_, hI⟩
    unfold gC_drawKingfishers_h2
    dsimp only
    rw [hI.2.1.N, if_pos (nI_le (Nat.le_refl _) (by omega))]) (s := s) ⟨KP.rfl', h, by rw [dkS_0]; exact hP⟩ (i := (0 : Int32)) rfl FU (FU_gt (by omega))
  exact ⟨s', by unfold gC_drawKingfishers; rw [f1]; rfl, f2⟩
theorem bm_p {p : Nat → Bool} {N : Nat} (hN : N ≤ 20) : bmN p N < 2 ^ 31 ∧ ∀ i, i < N → p i = decide (bmN p N / 2 ^ i % 2 = 1) := by
  have h1 := bmN_lt p N
  have h2 : 2 ^ N ≤ 2 ^ 20 := Nat.pow_le_pow_right (by omega) hN
  refine ⟨by omega, fun i hi => ?_⟩
  rw [bmN_bit hi]
  cases p i <;> rfl
theorem c_dwin (h : IV xs D s) {x : Int32} : ∃ s', gL_drawnWinner x s = some (oz (wnT D (kfT D (dkB D x.toInt64))), s') ∧ KP s s' ∧ IV xs D s' := by
  have hd := h.bd
  obtain ⟨b1, b2⟩ := bm_p (p := dkB D x.toInt64) hd.1
  obtain ⟨s1, f1, f2, f3, f4⟩ := h.prep
  obtain ⟨s2, g1, g2, g3, g4⟩ := c_kf f3 f4 b1 b2
  obtain ⟨s3, x1, x2, x3, x4, -⟩ := g3.win g4 h.V.1.2.1
  refine ⟨s3, ?_, f2.tr (g2.tr x2), x3⟩
  unfold gL_drawnWinner
  rw [f1, Option.bind_some, c_drawn f3, Option.bind_some, g1, Option.bind_some, x1, Option.bind_some]
theorem MPB.kf {j : Nat} {p : Nat → Bool} (h : IV xs D s) (hP : MPB D (D 1 0) (D 9) (D 10) (D 14) (dkL (l0 D) p j) 0 s) (hj : j ≤ 20) : ∃ s', (if p j = true then (rdI (s.1 304) 21 (nI j)).bind fun x16 => (wrI s 304 21 (nI j) (imax x16 (5 : Int32))).bind fun s18 => some s18 else some s) = some s' ∧ IV xs D s' ∧ MPB D (D 1 0) (D 9) (D 10) (D 14) (dkL (l0 D) p (j + 1)) 0 s' := by
  cases hp : p j with
  | false => exact ⟨s, by rw [if_neg (by decide)], h, by rw [dkL_f hp]; exact hP⟩
  | true =>
    have hl := hP.2.2.2.1 j hj
    rw [dkL_at] at hl
    have hw := hP.wlu (n := j) (v := max (l0 D j) 5) (by omega)
    rw [← dkL_t hp] at hw
    refine ⟨_, ?_, h.wr (a := 304) (k := j) (x := nI (max (l0 D j) 5)) (by unfold pK; omega), hw⟩
    rw [if_pos rfl, rd_n (by omega) (by omega), Option.bind_some, hl.1, show (5 : Int32) = nI 5 from rfl, imax_n (by omega) (by omega), wr_n (by omega) (by omega), Option.bind_some]
theorem m_goDrawn (h : IV xs D s) {x : Int64} : ∃ s', gM_goDrawn x s = some (nI (bmN (dkB D x) (D 0 0)), s') ∧ IV xs D s' ∧ MQq D (kfT D (dkB D x)) s' := by
  have hd := h.bd
  obtain ⟨s1, f1, f2, f3, f4⟩ := h.asIs
  have hO : ∀ t, IV xs D t → rdI (t.1 295) 79 (3 : Int32) = some (nI (D 3 0)) := fun t ht => (rd_n (k := 3) (by omega) (by omega)).trans (congrArg some ht.M.1.2.2.2.1)
  obtain ⟨⟨r, s2⟩, g1, g2, g3, g4⟩ := wh_inv (f := gM_goDrawn_h12) (fun j q => q.1 = xsq x j ∧ q.2.1 = nI (bmN (dkB D x) j) ∧ q.2.2.1 = nI j ∧ IV xs D q.2.2.2 ∧ MPB D (D 1 0) (D 9) (D 10) (D 14) (dkL (l0 D) (dkB D x) j) 0 q.2.2.2) (fun r => r.1 = nI (bmN (dkB D x) (D 0 0)) ∧ IV xs D r.2 ∧ MPB D (D 1 0) (D 9) (D 10) (D 14) (dkL (l0 D) (dkB D x) (D 0 0)) 0 r.2) (D 0 0) (fun j hj q hq => by
    obtain ⟨y, a, i, t⟩ := q
    obtain ⟨h1, h2, h3, h4, h5⟩ := hq
    dsimp only at h1 h2 h3 h4 h5
    subst h1 h2 h3
    obtain ⟨t2, z1, z2, z3⟩ := MPB.kf h4 h5 (by omega)
    refine ⟨(xsq x (j + 1), nI (bmN (dkB D x) (j + 1)), nI (j + 1), t2), ?_, rfl, rfl, rfl, z2, z3⟩
    unfold gM_goDrawn_h12
    dsimp only
    rw [m_last h4.M.1.1, Option.bind_some, if_neg (nle (by omega) (by omega) (by omega)), if_neg (by decide), if_neg (by decide), if_neg (by decide), hO t h4, Option.bind_some]
    show ((if lg_cmp (lct (lcg (xsq x j))) ((nI (D 3 0)).toInt64) < 0 then (rdI (t.1 304) 21 (nI j)).bind fun x16 => (wrI t 304 21 (nI j) (imax x16 (5 : Int32))).bind fun s18 => some ((nI (bmN (dkB D x) j) ||| ((1 : Int32) <<< (nI j &&& 31))), s18) else some (nI (bmN (dkB D x) j), t)).bind fun x13 => some (Sum.inl (lcg (xsq x j), x13.1, nI j + (1 : Int32), x13.2))) = _
    rw [ite_iff (show (lg_cmp (lct (lcg (xsq x j))) ((nI (D 3 0)).toInt64) < 0) ↔ (dkB D x j = true) by
      unfold dkB
      rw [lg_cmp_lt, decide_eq_true_eq]), nI_1]
    cases hp : dkB D x j with
    | false =>
      rw [hp, if_neg (by decide)] at z1
      cases z1
      rw [if_neg (by decide), Option.bind_some, bm_s, hp, if_neg (by decide), Nat.add_zero]
      rfl
    | true =>
      rw [hp, if_pos rfl] at z1
      rw [if_pos rfl]
      cases hr : rdI (t.1 304) 21 (nI j) with
      | none => rw [hr] at z1; cases z1
      | some u =>
        rw [hr, Option.bind_some] at z1
        rw [Option.bind_some]
        cases hw : wrI t 304 21 (nI j) (imax u (5 : Int32)) with
        | none => rw [hw] at z1; cases z1
        | some t3 =>
          rw [hw, Option.bind_some] at z1
          cases z1
          rw [Option.bind_some, Option.bind_some, or_new (by omega), bm_s, hp, if_pos rfl]
          rfl) (fun q hq => by
    obtain ⟨y, a, i, t⟩ := q
    obtain ⟨h1, h2, h3, h4, h5⟩ := hq
    dsimp only at h1 h2 h3 h4 h5
    subst h1 h2 h3
    refine ⟨(nI (bmN (dkB D x) (D 0 0)), t), ?_, rfl, h4, h5⟩
    unfold gM_goDrawn_h12
    dsimp only
    rw [m_last h4.M.1.1, Option.bind_some, if_pos (nI_le (Nat.le_refl _) (by omega))]) (q := (x, (0 : Int32), (0 : Int32), s1)) ⟨rfl, rfl, rfl, f3, by rw [dkL_0]; exact f4⟩ FU (FU_gt (by omega))
  dsimp only at g2 g3 g4
  subst g2
  obtain ⟨s3, x1, x2, x3, x4, x5⟩ := g3.go g4 (s0_dk h.V (fun i hi _ => hi))
  refine ⟨s3, ?_, x3, x5⟩
  unfold gM_goDrawn
  rw [f1, Option.bind_some, g1, Option.bind_some]
  dsimp only
  rw [x1, Option.bind_some]
theorem seed_c {v : Int32} : gL_isSeed v s = some (bz (decide (0 ≤ v.toInt ∧ v.toInt < (2000000001 : Nat)))) := by
  unfold gL_isSeed
  have e1 : ((2000000000 : Int32) < v) ↔ (2000000000 : Int) < v.toInt := by rw [Int32.lt_iff_toInt_lt]; rfl
  by_cases h1 : v < 0
  · rw [if_pos h1, Option.bind_some, if_pos (Or.inl rfl)]
    rw [i_lt0] at h1
    rw [decide_eq_false (by omega)]; rfl
  · rw [if_neg h1]
    rw [i_lt0] at h1
    by_cases h2 : (2000000000 : Int32) < v
    · rw [if_pos h2, Option.bind_some, if_pos (Or.inl rfl)]
      rw [e1] at h2
      rw [decide_eq_false (by omega)]; rfl
    · rw [if_neg h2, Option.bind_some, if_pos (Or.inr rfl)]
      rw [e1] at h2
      rw [decide_eq_true (by omega)]; rfl
theorem seed_m {v : Int32} : gM_isSeed v s = some (bz (decide (0 ≤ v.toInt ∧ v.toInt < (2000000001 : Nat)))) := by
  unfold gM_isSeed
  rw [show gM_in v.toInt64 (0 : Int64) (2000000000 : Int64) s = _ from m_in0 (hi := 2000000000) (by omega), Option.bind_some, bz_ite]
theorem a_drawn (v1 v2 : Int32) : AS (gL_drawn v1 v2) (gM_drawn v1 v2) := AS_of fun xs D s h => by
  have hd := h.bd
  have neg : ¬ (0 < D 4 0 ∧ (0 ≤ v1.toInt ∧ v1.toInt < (2000000001 : Nat)) ∧ (0 ≤ v2.toInt ∧ v2.toInt < (2 : Nat))) → gL_drawn v1 v2 s = some (-2, s) ∧ ∀ t, IV xs D t → gM_drawn v1 v2 t = some (-2, t) := fun hn => by
    refine ⟨?_, fun t ht => ?_⟩
    · unfold gL_drawn
      rw [h.ex, seed_c, g_isPart, Option.bind_some, bz_if, Option.bind_some, bz_if, Option.bind_some, bz_if]
      by_cases g1 : 0 < D 4 0
      · rw [if_pos g1]
        by_cases g2 : 0 ≤ v1.toInt ∧ v1.toInt < (2000000001 : Nat)
        · rw [if_pos g2, if_neg (fun z => hn ⟨g1, g2, z⟩)]
        · rw [if_neg g2]
      · rw [if_neg g1]
    · unfold gM_drawn
      rw [ht.mR, seed_m, m_in01, Option.bind_some, bz_if, Option.bind_some, bz_if, Option.bind_some, bz_if]
      by_cases g1 : 0 < D 4 0
      · rw [if_pos g1]
        by_cases g2 : 0 ≤ v1.toInt ∧ v1.toInt < (2000000001 : Nat)
        · rw [if_pos g2, if_neg (fun z => hn ⟨g1, g2, z⟩)]
        · rw [if_neg g2]
      · rw [if_neg g1]
  by_cases g : 0 < D 4 0 ∧ (0 ≤ v1.toInt ∧ v1.toInt < (2000000001 : Nat)) ∧ (0 ≤ v2.toInt ∧ v2.toInt < (2 : Nat))
  · obtain ⟨s1, f1, f2, f3⟩ := c_dwin (x := v1) h
    have hm : ∀ t, IV xs D t → ∃ t', gM_goDrawn v1.toInt64 t = some (nI (bmN (dkB D v1.toInt64) (D 0 0)), t') ∧ IV xs D t' ∧ MQq D (kfT D (dkB D v1.toInt64)) t' := fun t ht => m_goDrawn ht
    by_cases g0 : v2 = 0
    · refine ⟨nI (bmN (dkB D v1.toInt64) (D 0 0)), s, ?_, KP.rfl', fun t ht => ?_⟩
      · unfold gL_drawn
        rw [h.ex, seed_c, g_isPart, Option.bind_some, bz_if, Option.bind_some, bz_if, Option.bind_some, bz_if, if_pos g.1, if_pos g.2.1, if_pos g.2.2, if_pos g0, c_drawn h, Option.bind_some, Option.bind_some]
      · obtain ⟨t', y1, y2, y3⟩ := hm t ht
        refine ⟨t', ?_, y2⟩
        unfold gM_drawn
        rw [ht.mR, seed_m, m_in01, Option.bind_some, bz_if, Option.bind_some, bz_if, Option.bind_some, bz_if, if_pos g.1, if_pos g.2.1, if_pos g.2.2, y1, Option.bind_some, if_pos g0, Option.bind_some]
    · refine ⟨oz (wnT D (kfT D (dkB D v1.toInt64))), s1, ?_, f2, fun t ht => ?_⟩
      · unfold gL_drawn
        rw [h.ex, seed_c, g_isPart, Option.bind_some, bz_if, Option.bind_some, bz_if, Option.bind_some, bz_if, if_pos g.1, if_pos g.2.1, if_pos g.2.2, if_neg g0, f1, Option.bind_some, Option.bind_some]
      · obtain ⟨t', y1, y2, y3⟩ := hm t ht
        refine ⟨t', ?_, y2⟩
        unfold gM_drawn
        rw [ht.mR, seed_m, m_in01, Option.bind_some, bz_if, Option.bind_some, bz_if, Option.bind_some, bz_if, if_pos g.1, if_pos g.2.1, if_pos g.2.2, y1, Option.bind_some, if_neg g0]
        dsimp only
        rw [mq_win y3, Option.bind_some, Option.bind_some]
  · obtain ⟨n1, n2⟩ := neg g
    exact ⟨-2, s, n1, KP.rfl', fun t ht => ⟨t, n2 t ht, ht⟩⟩
theorem l_add {a k : Nat} (ha : a ≤ 2000000000) (hk : k ≤ 20) : (nI a + nI k).toInt64 = (nI a).toInt64 + (nI k).toInt64 := by
  rw [nI_add, nI_l (by omega), nI_l (by omega), nI_l (by omega), lN_add]
theorem a_luck (v1 v2 v3 : Int32) : AS (gL_luck v1 v2 v3) (gM_luck v1 v2 v3) := AS_of fun xs D s h => by
  have hd := h.bd
  have c1 : (¬ v2 < (1 : Int32) ∧ v2 ≤ (20 : Int32)) ↔ (1 ≤ v2.toInt ∧ v2.toInt < (21 : Nat)) := by
    rw [Int32.lt_iff_toInt_lt, Int32.le_iff_toInt_le, show (1 : Int32).toInt = 1 from rfl, show (20 : Int32).toInt = 20 from rfl]
    omega
  by_cases g : (0 ≤ v3.toInt ∧ v3.toInt < (D 5 0 : Int)) ∧ (0 ≤ v1.toInt ∧ v1.toInt < (2000000001 : Nat)) ∧ (1 ≤ v2.toInt ∧ v2.toInt < (21 : Nat))
  · obtain ⟨g1, g2, g3⟩ := g
    obtain ⟨b, hb, rfl⟩ := of_in g1
    obtain ⟨a, ha, rfl⟩ := of_in g2
    have g3' := c1.mpr g3
    obtain ⟨n, hn, rfl⟩ := of_in (v := v2) (n := 21) (by omega)
    obtain ⟨⟨r, s1⟩, f1, f2, f3⟩ := wh_accA (f := gL_luck_h39 (nI a) (nI n) (nI b)) (fun t => KP s t ∧ IV xs D t) (fun k => nI (cntB (fun i => decide (wnT D (kfT D (dkB D ((nI a).toInt64 + (nI i).toInt64))) = some b)) k)) n (fun r => r.1 = nI (cntB (fun i => decide (wnT D (kfT D (dkB D ((nI a).toInt64 + (nI i).toInt64))) = some b)) n) ∧ KP s r.2) (fun k hk t hI => by
      obtain ⟨t2, x1, x2, x3⟩ := c_dwin (x := nI a + nI k) hI.2
      rw [l_add (by omega) (by omega)] at x1
      refine ⟨t2, ?_, hI.1.tr x2, x3⟩
      unfold gL_luck_h39
      dsimp only
      rw [if_neg (nle (by omega) (by omega) (by omega)), x1, Option.bind_some]
      dsimp only
      rw [oz_ite (wn31 h) (by omega), st_c (p := fun i => decide (wnT D (kfT D (dkB D ((nI a).toInt64 + (nI i).toInt64))) = some b)) dt, Option.bind_some, nI_1]) (fun t hI => by
      refine ⟨(_, t), ?_, rfl, hI.1⟩
      unfold gL_luck_h39
      dsimp only
      rw [if_pos (nI_le (Nat.le_refl _) (by omega))] <;> rfl) (s := s) ⟨KP.rfl', h⟩ (FU_gt (by omega))
    dsimp only at f2 f3
    subst f2
    refine ⟨nI (cntB (fun i => decide (wnT D (kfT D (dkB D ((nI a).toInt64 + (nI i).toInt64))) = some b)) n), s1, ?_, f3, fun t ht => ?_⟩
    · unfold gL_luck
      rw [h.hasB, seed_c, Option.bind_some, bz_if, if_pos g1, Option.bind_some, bz_if, if_pos g2, if_neg g3'.1, if_pos g3'.2]
      rw [show wh FU (gL_luck_h39 (nI a) (nI n) (nI b)) ((0 : Int32), (0 : Int32), s) = _ from f1, Option.bind_some]
    · obtain ⟨⟨r, t1⟩, y1, y2, y3⟩ := wh_accA (f := gM_luck_h37 (nI a) (nI n) (nI b)) (fun t => IV xs D t) (fun k => nI (cntB (fun i => decide (wnT D (kfT D (dkB D ((nI a).toInt64 + (nI i).toInt64))) = some b)) k)) n (fun r => r.1 = nI (cntB (fun i => decide (wnT D (kfT D (dkB D ((nI a).toInt64 + (nI i).toInt64))) = some b)) n) ∧ IV xs D r.2) (fun k hk t hI => by
        obtain ⟨t2, x1, x2, x3⟩ := m_goDrawn (x := (nI a).toInt64 + (nI k).toInt64) hI
        refine ⟨t2, ?_, x2⟩
        unfold gM_luck_h37
        dsimp only
        rw [if_neg (nle (by omega) (by omega) (by omega)), x1, Option.bind_some]
        dsimp only
        rw [mq_win x3, Option.bind_some, oz_ite (wn31 h) (by omega), cnt_s]
        by_cases hc : wnT D (kfT D (dkB D ((nI a).toInt64 + (nI k).toInt64))) = some b
        · rw [if_pos hc, Option.bind_some, if_pos (decide_eq_true hc), nI_1, nI_1]
        · rw [if_neg hc, Option.bind_some, if_neg (fun z => hc (of_decide_eq_true z)), nI_1, ← nI_0, nI_add]) (fun t hI => by
        refine ⟨(_, t), ?_, rfl, hI⟩
        unfold gM_luck_h37
        dsimp only
        rw [if_pos (nI_le (Nat.le_refl _) (by omega))] <;> rfl) (s := t) ht (FU_gt (by omega))
      dsimp only at y2 y3
      subst y2
      refine ⟨t1, ?_, y3⟩
      unfold gM_luck
      rw [seed_m, Option.bind_some, bz_if, if_pos g2, show gM_in (nI n).toInt64 (1 : Int64) (20 : Int64) t = _ from m_in_n (lo := 1) (hi := 20) (by omega) (by omega), Option.bind_some, bz_if, if_pos (by exact g3), ht.mB, Option.bind_some, bz_if, if_pos g1]
      rw [show wh FU (gM_luck_h37 (nI a) (nI n) (nI b)) ((0 : Int32), (0 : Int32), t) = _ from y1, Option.bind_some]
  · refine ⟨-2, s, ?_, KP.rfl', fun t ht => ⟨t, ?_, ht⟩⟩
    · unfold gL_luck
      rw [h.hasB, seed_c, Option.bind_some, bz_if, Option.bind_some, bz_if]
      by_cases g1 : 0 ≤ v3.toInt ∧ v3.toInt < (D 5 0 : Int)
      · rw [if_pos g1]
        by_cases g2 : 0 ≤ v1.toInt ∧ v1.toInt < (2000000001 : Nat)
        · rw [if_pos g2]
          by_cases h1 : v2 < (1 : Int32)
          · rw [if_pos h1]
          · rw [if_neg h1, if_neg (fun z => g ⟨g1, g2, c1.mp ⟨h1, z⟩⟩)]
        · rw [if_neg g2]
      · rw [if_neg g1]
    · unfold gM_luck
      rw [seed_m, Option.bind_some, bz_if, show gM_in v2.toInt64 (1 : Int64) (20 : Int64) t = _ from m_in_n (lo := 1) (hi := 20) (by omega) (by omega), Option.bind_some, bz_if, ht.mB, Option.bind_some, bz_if]
      by_cases g2 : 0 ≤ v1.toInt ∧ v1.toInt < (2000000001 : Nat)
      · rw [if_pos g2]
        by_cases g3 : ((1 : Nat) : Int) ≤ v2.toInt ∧ v2.toInt < ((20 + 1 : Nat) : Int)
        · rw [if_pos g3, if_neg (fun z => g ⟨z, g2, g3⟩)]
        · rw [if_neg g3]
      · rw [if_neg g2]
end KF
