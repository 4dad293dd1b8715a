/-! KINGFISHERS by chance: sums of weights -/
/-- the weight of a set of the first m steps, of ten to the m -/
def wtN (o x : Nat) : Nat → Nat
  | 0 => 1
  | m + 1 => wtN o x m * (if x / 2 ^ m % 2 = 1 then o else 10 - o)
theorem wt_le {o x : Nat} (ho : o ≤ 10) : ∀ m, wtN o x m ≤ 10 ^ m := by
  intro m
  induction m with
  | zero => exact Nat.le_refl _
  | succ m ih =>
    unfold wtN
    rw [Nat.pow_succ]
    exact Nat.mul_le_mul ih (by split <;> omega)
theorem wt_congr {o x y : Nat} : ∀ m, (∀ k, k < m → x / 2 ^ k % 2 = y / 2 ^ k % 2) → wtN o x m = wtN o y m := by
  intro m
  induction m with
  | zero => intro _; rfl
  | succ m ih =>
    intro h
    unfold wtN
    rw [ih (fun k hk => h k (by omega)), h m (by omega)]
theorem sum_add (f : Nat → Nat) (a : Nat) : ∀ b, sumN f (a + b) = sumN f a + sumN (fun k => f (a + k)) b := by
  intro b
  induction b with
  | zero => rfl
  | succ b ih =>
    show sumN f (a + b) + f (a + b) = _ + (sumN (fun k => f (a + k)) b + f (a + b))
    rw [ih]
    omega
theorem sum_mul (f : Nat → Nat) (c : Nat) : ∀ b, sumN (fun k => f k * c) b = sumN f b * c := by
  intro b
  induction b with
  | zero => exact (Nat.zero_mul c).symm
  | succ b ih =>
    show sumN (fun k => f k * c) b + f b * c = (sumN f b + f b) * c
    rw [ih, Nat.add_mul]
theorem wt_lo {o x m : Nat} (h : x < 2 ^ m) : wtN o x (m + 1) = wtN o x m * (10 - o) := by
  show wtN o x m * (if x / 2 ^ m % 2 = 1 then o else 10 - o) = _
  rw [Nat.div_eq_of_lt h, if_neg (by decide)]
theorem wt_hi {o x m : Nat} (h : x < 2 ^ m) : wtN o (2 ^ m + x) (m + 1) = wtN o x m * o := by
  show wtN o (2 ^ m + x) m * (if (2 ^ m + x) / 2 ^ m % 2 = 1 then o else 10 - o) = _
  have e1 : (2 ^ m + x) / 2 ^ m = 1 := by
    rw [Nat.add_comm, Nat.add_div_right _ (Nat.two_pow_pos m), Nat.div_eq_of_lt h]
  rw [e1, if_pos rfl]
  congr 1
  refine wt_congr m (fun k hk => ?_)
  have e2 : 2 ^ m = 2 ^ k * (2 * 2 ^ (m - k - 1)) := by rw [← Nat.pow_succ', ← Nat.pow_add]; congr 1; omega
  rw [Nat.add_comm, e2, Nat.add_mul_div_left _ _ (Nat.two_pow_pos k), Nat.add_mul_mod_self_left]
theorem wt_sum {o : Nat} (ho : o ≤ 10) : ∀ m, sumN (fun x => wtN o x m) (2 ^ m) = 10 ^ m := by
  intro m
  induction m with
  | zero => rfl
  | succ m ih =>
    rw [Nat.pow_succ, Nat.mul_two, sum_add, sumN_congr (q := fun x => wtN o x m * (10 - o)) (fun k hk => wt_lo hk), sumN_congr (p := fun k => wtN o (2 ^ m + k) (m + 1)) (q := fun x => wtN o x m * o) (fun k hk => wt_hi hk), sum_mul, sum_mul, ih, ← Nat.mul_add, Nat.pow_succ]
    congr 1
    omega
theorem sum_le {f g : Nat → Nat} : ∀ {n : Nat}, (∀ k, k < n → f k ≤ g k) → sumN f n ≤ sumN g n := by
  intro n
  induction n with
  | zero => intro _; exact Nat.le_refl _
  | succ n ih =>
    intro h
    have := ih (fun k hk => h k (by omega))
    have := h n (by omega)
    show sumN f n + f n ≤ sumN g n + g n
    omega
abbrev chT (D : RD) (k : Nat) : SU := kfT D (fun i => decide (k / 2 ^ i % 2 = 1))
def chF (D : RD) (n b k : Nat) : Nat := if leadO (D 5 0) (rP D (chT D k) (n + 1)) = some b then wtN (D 3 0) k (n + 1) else 0
def meF (D : RD) (n b k : Nat) : Nat := wtN (D 3 0) k (n + 1) * rP D (chT D k) (n + 1) b
theorem sh_2 {k : Nat} (h : k < 30) : (2 : Int32) <<< (nI k &&& 31) = nI (2 ^ (k + 1)) := (by decide +kernel : ∀ k, k < 30 → (2 : Int32) <<< (nI k &&& 31) = nI (2 ^ (k + 1))) k h
section CH
variable {n w b k m : Nat} {s s' : mT} {D : RD} {xs : Nat → Int32} {T : SU}
theorem wt_63 {o x m : Nat} (ho : o ≤ 10) (hm : m ≤ 8) : wtN o x m ≤ 10 ^ 8 := Nat.le_trans (wt_le ho m) (Nat.pow_le_pow_right (by decide) hm)
theorem c_wt (h : IV xs D s) (hn : n ≤ 7) (hk : k < 2 ^ 31) : wh FU (gL_sailWithKingfishers_h5 (nI k) (nI n) s) ((1 : Int64), (0 : Int32)) = some (lN (wtN (D 3 0) k (n + 1))) := by
  have ho := h.V.1.2.2.2.1
  refine wh_for (fun j => (lN (wtN (D 3 0) k j), nI j)) (n + 1) (fun j hj => ?_) ?_ FU (FU_gt (by omega))
  · have e2 : k / 2 ^ j % 2 < 2 := Nat.mod_lt _ (by decide)
    unfold gL_sailWithKingfishers_h5
    dsimp only
    rw [if_neg (nlt (by omega) (by omega) (by omega)), shr_b hk (by omega), ite_iff (show (nI (k / 2 ^ j % 2) = (1 : Int32)) ↔ (k / 2 ^ j % 2 = 1) from nI_eq (b := 1) (by omega) (by omega)), h.R.1.2.2.2.1, show (10 : Int32) = nI 10 from rfl, pk_sub ho, nI_l (by omega), nI_l (by omega), nI_1]
    show _ = some (Sum.inl (lN (wtN (D 3 0) k j * (if k / 2 ^ j % 2 = 1 then D 3 0 else 10 - D 3 0)), nI (j + 1)))
    by_cases h1 : k / 2 ^ j % 2 = 1
    · rw [if_pos h1, if_pos h1, Option.bind_some, lN_mul]
    · rw [if_neg h1, if_neg h1, Option.bind_some, lN_mul]
  · unfold gL_sailWithKingfishers_h5
    dsimp only
    rw [if_pos (nI_lt (by omega) (by omega))]
theorem lc_le {y : Nat} (h : y < 2 ^ 63) : (lg_cmp (lN y) (0 : Int64) ≤ 0) ↔ y = 0 := by
  rw [lg_cmp_le]
  have := pk_lLE (a := y) (b := 0) h (by decide)
  exact this.trans (by omega)
theorem c_swk (h : IV xs D s) (hn : n ≤ 7) (hnN : n < D 0 0) (hk : k < 2 ^ 31) : ∃ s', gL_sailWithKingfishers (nI k) (nI n) s = some (lN (wtN (D 3 0) k (n + 1)), s') ∧ KP s s' ∧ IV xs D s' ∧ (wtN (D 3 0) k (n + 1) ≠ 0 → CV 121 s' (n + 1) (D 0 0) (D 5 0) (D 6 0) (D 2 0) (rP D (chT D k)) (rK D (chT D k)) (rE D (chT D k)) (D 10)) := by
  have ho := h.V.1.2.2.2.1
  have hw := wt_63 (x := k) ho (show n + 1 ≤ 8 by omega)
  by_cases h0 : wtN (D 3 0) k (n + 1) = 0
  · refine ⟨s, ?_, KP.rfl', h, fun z => absurd h0 z⟩
    unfold gL_sailWithKingfishers
    rw [c_wt h hn hk, Option.bind_some, if_pos ((lc_le (by omega)).mpr h0), Option.bind_some]
  · obtain ⟨s1, f1, f2, f3, f4⟩ := h.prep
    obtain ⟨s2, g1, g2, g3, g4⟩ := c_kf (p := fun i => decide (k / 2 ^ i % 2 = 1)) f3 f4 hk (fun i _ => rfl)
    obtain ⟨s3, x1, x2, x3, x4, x5⟩ := g3.sail g4 h.V.1.2.1 (show n + 1 ≤ D 0 0 by omega)
    refine ⟨s3, ?_, f2.tr (g2.tr x2), x3, fun _ => x5⟩
    unfold gL_sailWithKingfishers
    rw [c_wt h hn hk, Option.bind_some, if_neg (fun z => h0 ((lc_le (by omega)).mp z)), f1, Option.bind_some, g1, Option.bind_some, nI_1, x1, Option.bind_some, Option.bind_some]
theorem c_ten {i : Nat} (hi : i ≤ 8) : gL_tenTo (nI i) s = some (lN (10 ^ i)) := by
  have e : wh FU (gL_tenTo_h4 (nI i) s) ((1 : Int64), (0 : Int32)) = some (lN (10 ^ i)) := by
    refine wh_for (fun j => (lN (10 ^ j), nI j)) i (fun j hj => ?_) ?_ FU (FU_gt (by omega))
    · unfold gL_tenTo_h4
      dsimp only
      rw [if_neg (nle (by omega) (by omega) (by omega)), show (10 : Int64) = lN 10 from rfl, lN_mul, Nat.pow_succ, nI_1]
    · unfold gL_tenTo_h4
      dsimp only
      rw [if_pos (nI_le (Nat.le_refl _) (by omega))]
  unfold gL_tenTo
  rw [e]
  rfl
theorem c_chS (h : IV xs D s) (hn : n ≤ 7) (hnN : n < D 0 0) (hb : b < D 5 0) {v3 : Int32} : ∃ s', wh FU (gL_chance_h37 (nI b) (nI n) v3) ((0 : Int64), (0 : Int32), s) = some (lN (sumN (chF D n b) (2 ^ (n + 1))), s') ∧ KP s s' ∧ IV xs D s' := by
  have hd := h.bd
  have ho := h.V.1.2.2.2.1
  have h2 : 2 ^ (n + 1) ≤ 2 ^ 8 := Nat.pow_le_pow_right (by omega) (by omega)
  obtain ⟨⟨r, s1⟩, f1, f2, f3, f4⟩ := wh_accA (f := gL_chance_h37 (nI b) (nI n) v3) (fun t => KP s t ∧ IV xs D t) (fun k => lN (sumN (chF D n b) k)) (2 ^ (n + 1)) (fun r => r.1 = lN (sumN (chF D n b) (2 ^ (n + 1))) ∧ KP s r.2 ∧ IV xs D r.2) (fun k hk t hI => by
    obtain ⟨t2, x1, x2, x3, x4⟩ := c_swk (k := k) hI.2 hn hnN (by omega)
    have hw := wt_63 (x := k) ho (show n + 1 ≤ 8 by omega)
    refine ⟨t2, ?_, hI.1.tr x2, x3⟩
    unfold gL_chance_h37
    dsimp only
    rw [sh_2 (by omega), if_neg (nle (by omega) (by omega) (by omega)), x1, Option.bind_some]
    dsimp only
    show _ = some (Sum.inl (lN (sumN (chF D n b) k + chF D n b k), nI (k + 1), t2))
    by_cases h0 : wtN (D 3 0) k (n + 1) = 0
    · rw [if_pos ((lc_le (by omega)).mpr h0), Option.bind_some, nI_1]
      rw [show chF D n b k = 0 by unfold chF; rw [h0, ite_self]] <;> rfl
    · rw [if_neg (fun z => h0 ((lc_le (by omega)).mp z)), nI_1, kC_leader (x4 h0) (Nat.le_refl _), Option.bind_some, oz_ite (ld31 hd.2.2.1) (by omega)]
      by_cases h1 : leadO (D 5 0) (rP D (chT D k) (n + 1)) = some b
      · rw [if_pos h1, Option.bind_some, show chF D n b k = wtN (D 3 0) k (n + 1) from if_pos h1, lN_add, nI_1]
      · rw [if_neg h1, Option.bind_some, show chF D n b k = 0 from if_neg h1, Nat.add_zero, nI_1]) (fun t hI => by
    refine ⟨(_, t), ?_, rfl, hI⟩
    unfold gL_chance_h37
    dsimp only
    rw [sh_2 (by omega), if_pos (nI_le (Nat.le_refl _) (by omega))] <;> rfl) (s := s) ⟨KP.rfl', h⟩ (FU_gt (by omega))
  dsimp only at f2 f3 f4
  subst f2
  exact ⟨s1, f1, f3, f4⟩
theorem c_meS (h : IV xs D s) (hn : n ≤ 7) (hnN : n < D 0 0) (hb : b < D 5 0) {v3 : Int32} : ∃ s', wh FU (gL_mean_h37 (nI b) (nI n) v3) ((0 : Int64), (0 : Int32), s) = some (lN (sumN (meF D n b) (2 ^ (n + 1))), s') ∧ KP s s' ∧ IV xs D s' := by
  have hd := h.bd
  have ho := h.V.1.2.2.2.1
  have h2 : 2 ^ (n + 1) ≤ 2 ^ 8 := Nat.pow_le_pow_right (by omega) (by omega)
  obtain ⟨⟨r, s1⟩, f1, f2, f3, f4⟩ := wh_accA (f := gL_mean_h37 (nI b) (nI n) v3) (fun t => KP s t ∧ IV xs D t) (fun k => lN (sumN (meF D n b) k)) (2 ^ (n + 1)) (fun r => r.1 = lN (sumN (meF D n b) (2 ^ (n + 1))) ∧ KP s r.2 ∧ IV xs D r.2) (fun k hk t hI => by
    obtain ⟨t2, x1, x2, x3, x4⟩ := c_swk (k := k) hI.2 hn hnN (by omega)
    have hw := wt_63 (x := k) ho (show n + 1 ≤ 8 by omega)
    refine ⟨t2, ?_, hI.1.tr x2, x3⟩
    unfold gL_mean_h37
    dsimp only
    rw [sh_2 (by omega), if_neg (nle (by omega) (by omega) (by omega)), x1, Option.bind_some]
    dsimp only
    show _ = some (Sum.inl (lN (sumN (meF D n b) k + meF D n b k), nI (k + 1), t2))
    by_cases h0 : wtN (D 3 0) k (n + 1) = 0
    · rw [if_pos ((lc_le (by omega)).mpr h0), Option.bind_some, nI_1]
      rw [show meF D n b k = 0 by unfold meF; rw [h0, Nat.zero_mul]] <;> rfl
    · have hp := (x4 h0).2.2.1 (n + 1) b (Nat.le_refl _) hb
      rw [if_neg (fun z => h0 ((lc_le (by omega)).mp z)), nI_1, ix_ite (by omega) (by omega), nI_clamp (by omega), rd_n (by omega) (by omega), Option.bind_some, show t2.1 (149 + (n + 1)) b = nI (rP D (chT D k) (n + 1) b) from hp.1, nI_l (by omega), lN_mul, lN_add, Option.bind_some, nI_1]
      rfl) (fun t hI => by
    refine ⟨(_, t), ?_, rfl, hI⟩
    unfold gL_mean_h37
    dsimp only
    rw [sh_2 (by omega), if_pos (nI_le (Nat.le_refl _) (by omega))] <;> rfl) (s := s) ⟨KP.rfl', h⟩ (FU_gt (by omega))
  dsimp only at f2 f3 f4
  subst f2
  exact ⟨s1, f1, f3, f4⟩
/-! the model's -/
theorem KP.stL {k : Nat} {x : Int64} : KP s (stL s 294 k x) := ⟨fun _ _ _ => rfl, fun a h1 _ => funext (fun j => by rw [stL_at, if_neg (fun z => h1 z.1)])⟩
theorem m_lay1 (h : IV xs D s) (hP : MPB D (D 1 0) (D 9) (D 10) (D 14) (l0 D) 0 s) (hn : n ≤ 7) (hk : k < 2 ^ 31) {x y : Int32} : ∃ s', wh FU (gM_layFishers_h34 x (nI n) (nI k)) ((1 : Int64), (0 : Int32), s) = some (lN (wtN (D 3 0) k (n + 1)), s') ∧ IV xs D s' ∧ MPB D (D 1 0) (D 9) (D 10) (D 14) (dkL (l0 D) (fun i => decide (k / 2 ^ i % 2 = 1)) (n + 1)) 0 s' ∧ s'.2 = s.2 := by
  have ho := h.V.1.2.2.2.1
  have hO : ∀ t, IV xs D t → rdI (t.1 295) 79 (3 : Int32) = some (nI (D 3 0)) := fun t ht => (rd_n (k := 3) (by omega) (by omega)).trans (congrArg some ht.M.1.2.2.2.1)
  obtain ⟨⟨r, s1⟩, f1, f2, f3, f4, f5⟩ := wh_inv (f := gM_layFishers_h34 x (nI n) (nI k)) (fun j q => q.1 = lN (wtN (D 3 0) k j) ∧ q.2.1 = nI j ∧ IV xs D q.2.2 ∧ MPB D (D 1 0) (D 9) (D 10) (D 14) (dkL (l0 D) (fun i => decide (k / 2 ^ i % 2 = 1)) j) 0 q.2.2 ∧ q.2.2.2 = s.2) (fun r => r.1 = lN (wtN (D 3 0) k (n + 1)) ∧ IV xs D r.2 ∧ MPB D (D 1 0) (D 9) (D 10) (D 14) (dkL (l0 D) (fun i => decide (k / 2 ^ i % 2 = 1)) (n + 1)) 0 r.2 ∧ r.2.2 = s.2) (n + 1) (fun j hj q hq => by
    obtain ⟨a, i, t⟩ := q
    obtain ⟨h1, h2, h3, h4, h5⟩ := hq
    dsimp only at h1 h2 h3 h4 h5
    subst h1 h2
    have e2 : k / 2 ^ j % 2 < 2 := Nat.mod_lt _ (by decide)
    obtain ⟨t2, z1, z2, z3⟩ := MPB.kf h3 h4 (show j ≤ 20 by omega)
    have ht2 : t2.2 = t.2 := by
      by_cases hp : decide (k / 2 ^ j % 2 = 1) = true
      · rw [if_pos hp] at z1
        cases hr : rdI (t.1 304) 21 (nI j) with
        | none => rw [hr] at z1; cases z1
        | some u =>
          rw [hr, Option.bind_some] at z1
          unfold wrI at z1
          split at z1
          · cases z1; rfl
          · cases z1
      · rw [if_neg hp] at z1; cases z1; rfl
    refine ⟨(lN (wtN (D 3 0) k (j + 1)), nI (j + 1), t2), ?_, rfl, rfl, z2, z3, ht2.trans h5⟩
    unfold gM_layFishers_h34 gM_bit
    dsimp only
    have hi : (nI (k / 2 ^ j % 2) = (1 : Int32)) ↔ (decide (k / 2 ^ j % 2 = 1) = true) := by
      rw [decide_eq_true_eq]
      exact nI_eq (b := 1) (by omega) (by omega)
    rw [if_neg (nlt (by omega) (by omega) (by omega)), shr_b hk (by omega), Option.bind_some, hO t h3, Option.bind_some, Option.bind_some, ite_iff hi, show (10 : Int32) = nI 10 from rfl, pk_sub ho, nI_l (by omega), nI_l (by omega)]
    show _ = some (Sum.inl (lN (wtN (D 3 0) k j * (if k / 2 ^ j % 2 = 1 then D 3 0 else 10 - D 3 0)), nI (j + 1), t2))
    by_cases h1 : k / 2 ^ j % 2 = 1
    · rw [if_pos (decide_eq_true h1), if_pos h1, Option.bind_some, Option.bind_some, ite_iff hi, z1, Option.bind_some, lN_mul, nI_1]
    · rw [if_neg (fun z => h1 (of_decide_eq_true z)), if_neg h1, Option.bind_some, Option.bind_some, ite_iff hi, z1, Option.bind_some, lN_mul, nI_1]) (fun q hq => by
    obtain ⟨a, i, t⟩ := q
    obtain ⟨h1, h2, h3, h4, h5⟩ := hq
    dsimp only at h1 h2 h3 h4 h5
    subst h1 h2
    refine ⟨(lN (wtN (D 3 0) k (n + 1)), t), ?_, rfl, h3, h4, h5⟩
    unfold gM_layFishers_h34
    dsimp only
    rw [if_pos (nI_lt (by omega) (by omega))]) (q := ((1 : Int64), (0 : Int32), s)) ⟨rfl, rfl, h, by rw [dkL_0]; exact hP, rfl⟩ FU (FU_gt (by omega))
  dsimp only at f2 f3 f4 f5
  subst f2
  exact ⟨s1, f1, f3, f4, f5⟩
theorem stL_i {a k : Nat} {x : Int64} : (stL s a k x).2 a k = x := by rw [stL_at, if_pos ⟨rfl, rfl⟩]
theorem stL_n {a k j : Nat} {x : Int64} (h : j ≠ k) : (stL s a k x).2 a j = s.2 a j := by rw [stL_at, if_neg (fun z => h z.2)]
theorem m_lay (h : IV xs D s) (hn : n ≤ 7) (hnN : n < D 0 0) (hb : b < D 5 0) : ∃ s', gM_layFishers (nI b) (nI n) s = some s' ∧ IV xs D s' ∧ s'.2 294 40 = lN (10 ^ (n + 1)) ∧ s'.2 294 41 = lN (sumN (chF D n b) (2 ^ (n + 1))) ∧ s'.2 294 42 = lN (sumN (meF D n b) (2 ^ (n + 1))) := by
  have hd := h.bd
  have ho := h.V.1.2.2.2.1
  have h2 : 2 ^ (n + 1) ≤ 2 ^ 8 := Nat.pow_le_pow_right (by omega) (by omega)
  obtain ⟨t0, ht0⟩ : ∃ t0, t0 = stL (stL (stL s 294 40 (0 : Int64)) 294 41 (0 : Int64)) 294 42 (0 : Int64) := ⟨_, rfl⟩
  have i0 : IV xs D t0 := by rw [ht0]; exact h.kp (KP.stL.tr (KP.stL.tr KP.stL))
  obtain ⟨s1, f1, f2, f3, f4, f5⟩ := wh_cnt (f := gM_layFishers_h17 (nI b) (nI n)) (fun k t => IV xs D t ∧ t.2 294 40 = lN (sumN (fun x => wtN (D 3 0) x (n + 1)) k) ∧ t.2 294 41 = lN (sumN (chF D n b) k) ∧ t.2 294 42 = lN (sumN (meF D n b) k)) (fun t => IV xs D t ∧ t.2 294 40 = lN (sumN (fun x => wtN (D 3 0) x (n + 1)) (2 ^ (n + 1))) ∧ t.2 294 41 = lN (sumN (chF D n b) (2 ^ (n + 1))) ∧ t.2 294 42 = lN (sumN (meF D n b) (2 ^ (n + 1)))) 0 (2 ^ (n + 1)) (Nat.zero_le _) (fun k _ hk t hI => by
    obtain ⟨j1, j2, j3, j4⟩ := hI
    obtain ⟨t1, y1, y2, y3, y4⟩ := j1.asIs
    have ey : t1.2 = t.2 := by
      obtain ⟨t1', y1', y2', -⟩ := asItIs_is j1.V j1.M
      rw [y1] at y1'
      cases y1'
      exact y2'.2
    obtain ⟨t2, z1, z2, z3, z4⟩ := m_lay1 (k := k) (x := nI b) (y := 0) y3 y4 hn (by omega)
    have hw := wt_63 (x := k) ho (show n + 1 ≤ 8 by omega)
    have e0 : t2.2 = t.2 := z4.trans ey
    unfold gM_layFishers_h17
    dsimp only
    rw [sh_2 (by omega), if_neg (nle (by omega) (by omega) (by omega)), y1, Option.bind_some, z1, Option.bind_some]
    dsimp only
    by_cases h0 : wtN (D 3 0) k (n + 1) = 0
    · rw [if_pos ((lc_0 (by omega)).mpr h0), Option.bind_some, nI_1]
      refine ⟨t2, rfl, z2, ?_, ?_, ?_⟩
      · rw [e0, j2]
        show _ = lN (sumN _ k + wtN (D 3 0) k (n + 1))
        rw [h0] <;> rfl
      · rw [e0, j3]
        show _ = lN (sumN _ k + chF D n b k)
        rw [show chF D n b k = 0 by unfold chF; rw [h0, ite_self]] <;> rfl
      · rw [e0, j4]
        show _ = lN (sumN _ k + meF D n b k)
        rw [show meF D n b k = 0 by unfold meF; rw [h0, Nat.zero_mul]] <;> rfl
    · obtain ⟨t3, x1, x2, x3, x4, x5⟩ := z2.go z3 (s0_dk h.V (fun i hi hp => by
        by_cases hin : i < n + 1
        · exact hin
        · have h3 : k / 2 ^ i = 0 := Nat.div_eq_of_lt (Nat.lt_of_lt_of_le hk (Nat.pow_le_pow_right (by omega) (by omega)))
          have hp := of_decide_eq_true hp
          rw [h3] at hp
          cases hp))
      have ex : t3.2 = t.2 := by
        obtain ⟨t3', x1', x2', -⟩ := goX (sl := dkS D (fun i => decide (k / 2 ^ i % 2 = 1)) (D 0 0)) z2.V z2.M z3 (s0_dk h.V (fun i hi hp => by
          by_cases hin : i < n + 1
          · exact hin
          · have h3 : k / 2 ^ i = 0 := Nat.div_eq_of_lt (Nat.lt_of_lt_of_le hk (Nat.pow_le_pow_right (by omega) (by omega)))
            have hp := of_decide_eq_true hp
            rw [h3] at hp
            cases hp))
        rw [x1] at x1'
        cases x1'
        exact x2'.2.trans e0
      have mqL : ∀ {k2 : Nat} {v : Int64} {u : mT}, MQq D (chT D k) u → MQq D (chT D k) (stL u 294 k2 v) := fun hq => ⟨hq.1, hq.2.1, hq.2.2.1, hq.2.2.2.1, hq.2.2.2.2⟩
      rw [if_neg (fun z => h0 ((lc_0 (by omega)).mp z)), x1, Option.bind_some, nI_1, mq_leads1 (mqL x5) (by omega), Option.bind_some, oz_ite (ld31 hd.2.2.1) (by omega)]
      have hsum : ∀ v : Int64, (if leadO (D 5 0) (rP D (chT D k) (n + 1)) = some b then some (lN (wtN (D 3 0) k (n + 1))) else some (0 : Int64)) = some (lN (chF D n b k)) := fun _ => by
        unfold chF
        by_cases h1 : leadO (D 5 0) (rP D (chT D k) (n + 1)) = some b
        · rw [if_pos h1, if_pos h1]
        · rw [if_neg h1, if_neg h1]; rfl
      have hP60 : rP D (chT D k) (n + 1) b < 2 ^ 31 := by have := rP_le (D := D) (T := chT D k) (n + 1) b; omega
      rw [hsum 0, Option.bind_some, Option.bind_some, mq_pl (mqL (mqL x5)) (by omega) hb, Option.bind_some, Option.bind_some, nI_1, nI_l hP60, lN_mul]
      refine ⟨_, rfl, x3.kp (KP.stL.tr (KP.stL.tr KP.stL)), ?_, ?_, ?_⟩
      · rw [stL_n (by omega), stL_n (by omega), stL_i, ex, j2, lN_add]
        rfl
      · rw [stL_n (by omega), stL_i, stL_n (by omega), ex, j3, lN_add]
        rfl
      · rw [stL_i, stL_n (by omega), stL_n (by omega), ex, j4, lN_add]
        rfl) (fun t hI => by
    refine ⟨t, ?_, hI⟩
    unfold gM_layFishers_h17
    dsimp only
    rw [sh_2 (by omega), if_pos (nI_le (Nat.le_refl _) (by omega))]) (s := t0) ⟨i0, by rw [ht0, stL_n (by omega), stL_n (by omega), stL_i]; rfl, by rw [ht0, stL_n (by omega), stL_i]; rfl, by rw [ht0, stL_i]; rfl⟩ (i := (0 : Int32)) rfl FU (FU_gt (by omega))
  rw [wt_sum ho] at f3
  refine ⟨s1, ?_, f2, f3, f4, f5⟩
  unfold gM_layFishers
  rw [Option.bind_some, ← ht0, f1]
  rfl
abbrev chG (D : RD) (v1 v2 v3 : Int32) : Prop := (0 ≤ v1.toInt ∧ v1.toInt < (D 5 0 : Int)) ∧ ((0 < D 4 0 ∧ 0 ≤ v2.toInt ∧ v2.toInt < (D 0 0 : Int)) ∧ (0 ≤ v2.toInt ∧ v2.toInt < (8 : Nat))) ∧ (0 ≤ v3.toInt ∧ v3.toInt < (2 : Nat))
theorem c_step {v2 : Int32} (h : IV xs D s) : gL_isChanceStep v2 s = some (bz (decide ((0 < D 4 0 ∧ 0 ≤ v2.toInt ∧ v2.toInt < (D 0 0 : Int)) ∧ (0 ≤ v2.toInt ∧ v2.toInt < (8 : Nat))))) := by
  unfold gL_isChanceStep
  rw [h.hasE, Option.bind_some, bz_if]
  have e1 : ((7 : Int32) < v2) ↔ (7 : Int) < v2.toInt := by rw [Int32.lt_iff_toInt_lt]; rfl
  by_cases g1 : 0 < D 4 0 ∧ 0 ≤ v2.toInt ∧ v2.toInt < (D 0 0 : Int)
  · rw [if_pos g1]
    by_cases g2 : (7 : Int32) < v2
    · rw [if_pos g2, Option.bind_some, if_pos (Or.inl rfl)]
      rw [e1] at g2
      rw [decide_eq_false (fun z => by have := z.2.2; omega)]; rfl
    · rw [if_neg g2, Option.bind_some, if_pos (Or.inr rfl)]
      rw [e1] at g2
      rw [decide_eq_true ⟨g1, g1.2.1, by omega⟩]; rfl
  · rw [if_neg g1, Option.bind_some, if_pos (Or.inl rfl), decide_eq_false (fun z => g1 z.1)]; rfl
theorem m_fish {v1 v2 v3 : Int32} (h : IV xs D s) : gM_isFishers v1 v2 v3 s = some (bz (decide (chG D v1 v2 v3))) := by
  unfold gM_isFishers
  rw [h.mB, Option.bind_some, bz_if, h.mE, Option.bind_some, bz_if, show gM_in v2.toInt64 (0 : Int64) (7 : Int64) s = _ from m_in0 (hi := 7) (by omega), Option.bind_some, bz_if, m_in01, Option.bind_some, bz_if]
  by_cases g1 : 0 ≤ v1.toInt ∧ v1.toInt < (D 5 0 : Int)
  · rw [if_pos g1]
    by_cases g2 : 0 < D 4 0 ∧ 0 ≤ v2.toInt ∧ v2.toInt < (D 0 0 : Int)
    · rw [if_pos g2]
      by_cases g3 : 0 ≤ v2.toInt ∧ v2.toInt < ((7 + 1 : Nat) : Int)
      · rw [if_pos g3]
        by_cases g4 : 0 ≤ v3.toInt ∧ v3.toInt < (2 : Nat)
        · rw [if_pos g4, Option.bind_some, if_pos (Or.inr rfl), decide_eq_true ⟨g1, ⟨g2, g3⟩, g4⟩]; rfl
        · rw [if_neg g4, Option.bind_some, if_pos (Or.inl rfl), decide_eq_false (fun z => g4 z.2.2)]; rfl
      · rw [if_neg g3, Option.bind_some, if_pos (Or.inl rfl), decide_eq_false (fun z => g3 z.2.1.2)]; rfl
    · rw [if_neg g2, Option.bind_some, if_pos (Or.inl rfl), decide_eq_false (fun z => g2 z.2.1.1)]; rfl
  · rw [if_neg g1, Option.bind_some, if_pos (Or.inl rfl), decide_eq_false (fun z => g1 z.1)]; rfl
theorem ch_bd (h : IV xs D s) (hn : n ≤ 7) : 0 < 10 ^ (n + 1) ∧ 10 ^ (n + 1) < 2 ^ 40 ∧ sumN (chF D n b) (2 ^ (n + 1)) < 2 ^ 63 ∧ sumN (meF D n b) (2 ^ (n + 1)) < 2 ^ 63 := by
  have ho := h.V.1.2.2.2.1
  have h1 : 10 ^ (n + 1) ≤ 10 ^ 8 := Nat.pow_le_pow_right (by decide) (by omega)
  have h2 := wt_sum ho (n + 1)
  have h3 : sumN (chF D n b) (2 ^ (n + 1)) ≤ sumN (fun x => wtN (D 3 0) x (n + 1)) (2 ^ (n + 1)) := sum_le (fun k _ => by
    unfold chF
    split
    · exact Nat.le_refl _
    · exact Nat.zero_le _)
  have h4 : sumN (meF D n b) (2 ^ (n + 1)) ≤ sumN (fun x => wtN (D 3 0) x (n + 1) * 60) (2 ^ (n + 1)) := sum_le (fun k _ => by
    unfold meF
    exact Nat.mul_le_mul (Nat.le_refl _) (Nat.le_trans (rP_le _ _) h.bd.2.1))
  rw [sum_mul] at h4
  exact ⟨Nat.pow_pos (by decide), by omega, by omega, by omega⟩
theorem a_chance (v1 v2 v3 : Int32) : AS (gL_chance v1 v2 v3) (gM_chance v1 v2 v3) := AS_of fun xs D s h => by
  by_cases g : chG D v1 v2 v3
  · obtain ⟨b, hb, rfl⟩ := of_in g.1
    obtain ⟨n, hn, rfl⟩ := of_in g.2.1.2
    have hnN : n < D 0 0 := by have := g.2.1.1.2; rw [nI_toInt (by omega)] at this; omega
    obtain ⟨q1, q2, q3, q4⟩ := ch_bd (n := n) (b := b) h (by omega)
    obtain ⟨s1, f1, f2, f3⟩ := c_chS (n := n) (v3 := v3) h (by omega) hnN hb
    refine ⟨frV (lN (sumN (chF D n b) (2 ^ (n + 1)))) (sumN (chF D n b) (2 ^ (n + 1))) (10 ^ (n + 1)) v3, s1, ?_, f2, fun t ht => ?_⟩
    · unfold gL_chance
      rw [h.hasB, Option.bind_some, bz_if, if_pos g.1, c_step h, Option.bind_some, bz_if, if_pos g.2.1, g_isPart, Option.bind_some, bz_if, if_pos g.2.2, f1, Option.bind_some]
      dsimp only
      rw [nI_1, c_ten (by omega), Option.bind_some, c_low (labs_n q3) q3 q1 q2, Option.bind_some]
    · obtain ⟨t1, y1, y2, y3, y4, y5⟩ := m_lay (n := n) ht (by omega) hnN hb
      refine ⟨t1, ?_, y2⟩
      unfold gM_chance
      rw [m_fish ht, Option.bind_some, bz_if, if_pos g, y1, Option.bind_some, y3, y4, m_part (labs_n q3) q3 q1 q2, Option.bind_some]
  · refine ⟨-2, s, ?_, KP.rfl', fun t ht => ⟨t, by unfold gM_chance; rw [m_fish ht, Option.bind_some, bz_if, if_neg g], ht⟩⟩
    unfold gL_chance
    rw [h.hasB, Option.bind_some, bz_if, c_step h, Option.bind_some, bz_if, g_isPart, Option.bind_some, bz_if]
    by_cases g1 : 0 ≤ v1.toInt ∧ v1.toInt < (D 5 0 : Int)
    · rw [if_pos g1]
      by_cases g2 : (0 < D 4 0 ∧ 0 ≤ v2.toInt ∧ v2.toInt < (D 0 0 : Int)) ∧ (0 ≤ v2.toInt ∧ v2.toInt < (8 : Nat))
      · rw [if_pos g2, if_neg (fun z => g ⟨g1, g2, z⟩)]
      · rw [if_neg g2]
    · rw [if_neg g1]
theorem a_mean (v1 v2 v3 : Int32) : AS (gL_mean v1 v2 v3) (gM_mean v1 v2 v3) := AS_of fun xs D s h => by
  by_cases g : chG D v1 v2 v3
  · obtain ⟨b, hb, rfl⟩ := of_in g.1
    obtain ⟨n, hn, rfl⟩ := of_in g.2.1.2
    have hnN : n < D 0 0 := by have := g.2.1.1.2; rw [nI_toInt (by omega)] at this; omega
    obtain ⟨q1, q2, q3, q4⟩ := ch_bd (n := n) (b := b) h (by omega)
    obtain ⟨s1, f1, f2, f3⟩ := c_meS (n := n) (v3 := v3) h (by omega) hnN hb
    refine ⟨frV (lN (sumN (meF D n b) (2 ^ (n + 1)))) (sumN (meF D n b) (2 ^ (n + 1))) (10 ^ (n + 1)) v3, s1, ?_, f2, fun t ht => ?_⟩
    · unfold gL_mean
      rw [h.hasB, Option.bind_some, bz_if, if_pos g.1, c_step h, Option.bind_some, bz_if, if_pos g.2.1, g_isPart, Option.bind_some, bz_if, if_pos g.2.2, f1, Option.bind_some]
      dsimp only
      rw [nI_1, c_ten (by omega), Option.bind_some, c_low (labs_n q4) q4 q1 q2, Option.bind_some]
    · obtain ⟨t1, y1, y2, y3, y4, y5⟩ := m_lay (n := n) ht (by omega) hnN hb
      refine ⟨t1, ?_, y2⟩
      unfold gM_mean
      rw [m_fish ht, Option.bind_some, bz_if, if_pos g, y1, Option.bind_some, y3, y5, m_part (labs_n q4) q4 q1 q2, Option.bind_some]
  · refine ⟨-2, s, ?_, KP.rfl', fun t ht => ⟨t, by unfold gM_mean; rw [m_fish ht, Option.bind_some, bz_if, if_neg g], ht⟩⟩
    unfold gL_mean
    rw [h.hasB, Option.bind_some, bz_if, c_step h, Option.bind_some, bz_if, g_isPart, Option.bind_some, bz_if]
    by_cases g1 : 0 ≤ v1.toInt ∧ v1.toInt < (D 5 0 : Int)
    · rw [if_pos g1]
      by_cases g2 : (0 < D 4 0 ∧ 0 ≤ v2.toInt ∧ v2.toInt < (D 0 0 : Int)) ∧ (0 ≤ v2.toInt ∧ v2.toInt < (8 : Nat))
      · rw [if_pos g2, if_neg (fun z => g ⟨g1, g2, z⟩)]
      · rw [if_neg g2]
    · rw [if_neg g1]
end CH
