/-! A COURSE asked: what its methods answer, over the rows of places, looks and eyes -/
def bz (b : Bool) : Int32 := if b = true then 1 else 0
theorem bz_t : bz true = 1 := rfl
theorem bz_f : bz false = 0 := rfl
theorem bz_01 (b : Bool) : bz b = 0 ∨ bz b = 1 := by cases b; exact Or.inl rfl; exact Or.inr rfl
theorem bz_0 (b : Bool) : bz b = 0 ↔ b = false := by cases b <;> decide
theorem bz_ite {α : Type} (b : Bool) (x y : α) : (if bz b = 0 ∨ bz b = 1 then x else y) = x := if_pos (bz_01 b)
theorem oz_none : oz none = -1 := rfl
theorem oz_some (n : Nat) : oz (some n) = nI n := rfl
def leadO (B : Nat) (p : Nat → Nat) : Option Nat := if B = 0 then none else some (amF (fun i j => decide (p j < p i)) 0 (B - 1))
def lagO (B : Nat) (p : Nat → Nat) : Option Nat := if B = 0 then none else some (amF (fun i j => decide (p i < p j)) 0 (B - 1))
def homeO (N G : Nat) (P : Nat → Nat → Nat) (b : Nat) : Option Nat := ffN (fun n => decide (G ≤ P n b)) (N + 1) 0
def winO (N B G : Nat) (P : Nat → Nat → Nat) : Option Nat := (ffN (fun n => (ffN (fun b => decide (G ≤ P n b)) B 0).isSome) (N + 1) 0).bind (fun n => ffN (fun b => decide (G ≤ P n b)) B 0)
def calmB (G : Nat) (P E : Nat → Nat → Nat) (nd : Nat → Nat) (b n : Nat) : Bool := decide (P n b < G) && decide (E n b < nd b)
def rankN (B : Nat) (p : Nat → Nat) (b : Nat) : Nat := cntB (fun o => decide (p b < p o) || (decide (p o = p b) && decide (o < b))) B
/-- the rows of a course that has gone M steps of N -/
def CV (c : Nat) (s : mT) (M N B W G : Nat) (P K E : Nat → Nat → Nat) (nd : Nat → Nat) : Prop :=
  (M ≤ N ∧ N ≤ 20 ∧ B ≤ 5 ∧ W ≤ 5 ∧ G ≤ 60) ∧ (s.1 16 0 = nI N ∧ s.1 16 2 = nI G ∧ s.1 16 5 = nI B ∧ s.1 16 6 = nI W) ∧
  (∀ n b, n ≤ M → b < B → s.1 (c + 28 + n) b = nI (P n b) ∧ P n b ≤ 60) ∧
  (∀ n w, n ≤ M → w < W → s.1 (c + 50 + n) w = nI (K n w) ∧ K n w ≤ 4) ∧
  (∀ n b, n < M → b < B → s.1 (c + 72 + n) b = nI (E n b) ∧ E n b ≤ 45) ∧
  (∀ b, b < B → s.1 (c + 2) b = nI (nd b) ∧ 1 ≤ nd b ∧ nd b ≤ 9)
def w1 (n : Nat) : Option Nat → Int32 ⊕ Int32
  | some b => .inr (nI b)
  | none => .inl (nI (n + 1))
section CQ
variable {c n M N B W G b w : Nat} {s : mT} {p : Nat → Nat} {P K E : Nat → Nat → Nat} {nd : Nat → Nat}
theorem farthest_is {f l : Nat} (hn : n < 21) (hB : B ≤ 5) (hp : ∀ b, b < B → s.1 (c + 28 + n) b = nI (p b) ∧ p b ≤ 60) (hf : f ≤ l) (hl : l < B) : gC_farthest c (nI n) (nI f) (nI l) s = some (nI (amF (fun i j => decide (p j < p i)) f (l - f))) := by
  have e : wh FU (gC_farthest_h8 c (nI n) (nI l) s) (nI f, nI (f + 1)) = some (nI (amF (fun i j => decide (p j < p i)) f (l - f))) := by
    refine wh_for (fun k => (nI (amF (fun i j => decide (p j < p i)) f k), nI (f + k + 1))) (l - f) (fun k hk => ?_) ?_ FU (FU_gt (by omega))
    · have g0 := amF_in (fun i j => decide (p j < p i)) f k
      have g1 := hp (f + k + 1) (by omega)
      have g2 := hp (amF (fun i j => decide (p j < p i)) f k) (by omega)
      have e1 : ¬ l < f + k + 1 := by omega
      simp (disch := omega) only [gC_farthest_h8, nI_ltI, ↓ix_ite, ix_ite2, nI_clamp, rd_n, g1.1, g2.1, nI_leI, Option.bind_some, nI_1, e1, if_false]
      by_cases h : p (f + k + 1) ≤ p (amF (fun i j => decide (p j < p i)) f k)
      · simp only [h, if_true, Option.bind_some, amF, decide_eq_true_eq, Nat.not_lt.mpr h, if_false]
        rfl
      · simp only [h, if_false, Option.bind_some, amF, decide_eq_true_eq, Nat.not_le.mp h, if_true]
        rfl
    · have e1 : l < f + (l - f) + 1 := by omega
      simp (disch := omega) only [gC_farthest_h8, nI_ltI, e1, if_true]
  unfold gC_farthest
  rw [nI_1, e]
  rfl
theorem leastFar_is {f l : Nat} (hn : n < 21) (hB : B ≤ 5) (hp : ∀ b, b < B → s.1 (c + 28 + n) b = nI (p b) ∧ p b ≤ 60) (hf : f ≤ l) (hl : l < B) : gC_leastFar c (nI n) (nI f) (nI l) s = some (nI (amF (fun i j => decide (p i < p j)) f (l - f))) := by
  have e : wh FU (gC_leastFar_h8 c (nI n) (nI l) s) (nI f, nI (f + 1)) = some (nI (amF (fun i j => decide (p i < p j)) f (l - f))) := by
    refine wh_for (fun k => (nI (amF (fun i j => decide (p i < p j)) f k), nI (f + k + 1))) (l - f) (fun k hk => ?_) ?_ FU (FU_gt (by omega))
    · have g0 := amF_in (fun i j => decide (p i < p j)) f k
      have g1 := hp (f + k + 1) (by omega)
      have g2 := hp (amF (fun i j => decide (p i < p j)) f k) (by omega)
      have e1 : ¬ l < f + k + 1 := by omega
      simp (disch := omega) only [gC_leastFar_h8, nI_ltI, ↓ix_ite, ix_ite2, nI_clamp, rd_n, g1.1, g2.1, nI_leI, Option.bind_some, nI_1, e1, if_false]
      by_cases h : p (amF (fun i j => decide (p i < p j)) f k) ≤ p (f + k + 1)
      · simp only [h, if_true, Option.bind_some, amF, decide_eq_true_eq, Nat.not_lt.mpr h, if_false]
        rfl
      · simp only [h, if_false, Option.bind_some, amF, decide_eq_true_eq, Nat.not_le.mp h, if_true]
        rfl
    · have e1 : l < f + (l - f) + 1 := by omega
      simp (disch := omega) only [gC_leastFar_h8, nI_ltI, e1, if_true]
  unfold gC_leastFar
  rw [nI_1, e]
  rfl
theorem kC_leader (h : CV c s M N B W G P K E nd) (hn : n ≤ M) : gC_leader c (nI n) s = some (oz (leadO B (P n))) := by
  obtain ⟨⟨h1, h2, h3, h4, h5⟩, ⟨e1, e2, e3, e4⟩, hP, hK, hE, hD⟩ := h
  unfold gC_leader leadO
  rw [e3]
  by_cases hB : B = 0
  · subst hB; rfl
  · rw [if_neg (nI_ne0 (by omega) (by omega)), if_neg hB]
    have := farthest_is (c := c) (s := s) (n := n) (B := B) (p := P n) (f := 0) (l := B - 1) (by omega) h3 (fun b hb => hP n b hn hb) (by omega) (by omega)
    rw [show nI B - (1 : Int32) = nI (B - 1) from by rw [show B = (B - 1) + 1 by omega, nI_pred]; rfl, show (0 : Int32) = nI 0 from rfl, this]
    rfl
theorem kC_last (h : CV c s M N B W G P K E nd) (hn : n ≤ M) : gC_last c (nI n) s = some (oz (lagO B (P n))) := by
  obtain ⟨⟨h1, h2, h3, h4, h5⟩, ⟨e1, e2, e3, e4⟩, hP, hK, hE, hD⟩ := h
  unfold gC_last lagO
  rw [e3]
  by_cases hB : B = 0
  · subst hB; rfl
  · rw [if_neg (nI_ne0 (by omega) (by omega)), if_neg hB]
    have := leastFar_is (c := c) (s := s) (n := n) (B := B) (p := P n) (f := 0) (l := B - 1) (by omega) h3 (fun b hb => hP n b hn hb) (by omega) (by omega)
    rw [show nI B - (1 : Int32) = nI (B - 1) from by rw [show B = (B - 1) + 1 by omega, nI_pred]; rfl, show (0 : Int32) = nI 0 from rfl, this]
    rfl
theorem kC_isHome (h : CV c s M N B W G P K E nd) (hn : n ≤ M) (hb : b < B) : gC_isHome c (nI b) (nI n) s = some (bz (decide (G ≤ P n b))) := by
  obtain ⟨⟨h1, h2, h3, h4, h5⟩, ⟨e1, e2, e3, e4⟩, hP, hK, hE, hD⟩ := h
  have g := hP n b hn hb
  simp (disch := omega) only [gC_isHome, ↓ix_ite, ix_ite2, nI_clamp, rd_n, g.1, e2, nI_ltI, Option.bind_some]
  by_cases hh : G ≤ P n b
  · simp only [Nat.not_lt.mpr hh, hh, if_false, Option.bind_some, decide_true, bz_t]; rfl
  · simp only [Nat.not_le.mp hh, hh, if_true, Option.bind_some, decide_false, bz_f]; rfl
theorem kC_pace (h : CV c s M N B W G P K E nd) (hn : n < M) (hb : b < B) : gC_pace c (nI b) (nI n) s = some (nI (min 3 (E n b / nd b))) := by
  obtain ⟨⟨h1, h2, h3, h4, h5⟩, ⟨e1, e2, e3, e4⟩, hP, hK, hE, hD⟩ := h
  have g := hD b hb
  have g2 := hE n b hn hb
  have e5 : ¬ nI (nd b) = 0 := nI_ne0 (by omega) (by omega)
  have e6 : (1 : Int32) ≤ nI (nd b) := nI_le (a := 1) (by omega) (by omega)
  have e7 : E n b / nd b < 2 ^ 31 := Nat.lt_of_le_of_lt (Nat.div_le_self _ _) (by omega)
  simp (disch := omega) only [gC_pace, ↓ix_ite, ix_ite2, nI_clamp, rd_n, g.1, g2.1, Option.bind_some, e5, e6, if_true, if_false, pk_div]
  rw [show (3 : Int32) = nI 3 from rfl, imin_n (by omega) e7]
theorem kC_isBecalmed (h : CV c s M N B W G P K E nd) (hn : n < M) (hb : b < B) : gC_isBecalmed c (nI b) (nI n) s = some (bz (calmB G P E nd b n)) := by
  unfold gC_isBecalmed calmB
  rw [kC_isHome h (Nat.le_of_lt hn) hb, Option.bind_some, kC_pace h hn hb]
  obtain ⟨⟨h1, h2, h3, h4, h5⟩, ⟨e1, e2, e3, e4⟩, hP, hK, hE, hD⟩ := h
  have g := hD b hb
  have g2 := hE n b hn hb
  by_cases hh : G ≤ P n b
  · simp only [hh, decide_true, bz_t, Nat.not_lt.mpr hh, decide_false, Bool.false_and, bz_f]
    rfl
  · simp only [hh, decide_false, bz_f, Nat.not_le.mp hh, decide_true, Bool.true_and, if_true, Option.bind_some]
    by_cases h6 : E n b < nd b
    · rw [Nat.div_eq_of_lt h6]
      simp only [h6, decide_true, bz_t]
      rfl
    · have h7 : 1 ≤ E n b / nd b := (Nat.le_div_iff_mul_le (by omega)).mpr (by omega)
      rw [if_neg (nI_ne0 (by omega) (by omega))]
      simp only [h6, decide_false, bz_f]
      rfl
theorem kC_calm (h : CV c s N N B W G P K E nd) (hb : b < B) : gC_calmSteps c (nI b) s = some (nI (bmN (calmB G P E nd b) N)) := by
  have hq : ∀ n, n < N → gC_isBecalmed c (nI b) (nI n) s = some (bz (calmB G P E nd b n)) := fun n hn => kC_isBecalmed h hn hb
  obtain ⟨⟨h1, h2, h3, h4, h5⟩, ⟨e1, e2, e3, e4⟩, hP, hK, hE, hD⟩ := h
  have e : wh FU (gC_calmSteps_h4 c (nI b) s) ((0 : Int32), (0 : Int32)) = some (nI (bmN (calmB G P E nd b) N)) := by
    refine wh_for (fun k => (nI (bmN (calmB G P E nd b) k), nI k)) N (fun k hk => ?_) ?_ FU (FU_gt (by omega))
    · have q := hq k hk
      have e9 : ¬ N ≤ k := by omega
      simp (disch := omega) only [gC_calmSteps_h4, e1, nI_leI, e9, if_false, q, Option.bind_some, or_new, nI_1, bmN]
      cases calmB G P E nd b k
      · rfl
      · rfl
    · simp (disch := omega) only [gC_calmSteps_h4, e1, nI_leI, Nat.le_refl, if_true]
  unfold gC_calmSteps
  rw [e]
  rfl
theorem kC_lookers (h : CV c s M N B W G P K E nd) (hn : n ≤ M) (hb : b < B) : gC_lookersAt c (nI b) (nI n) s = some (nI (bmN (fun w => decide (K n w = b)) W)) := by
  obtain ⟨⟨h1, h2, h3, h4, h5⟩, ⟨e1, e2, e3, e4⟩, hP, hK, hE, hD⟩ := h
  have e : wh FU (gC_lookersAt_h5 c (nI b) (nI n) s) ((0 : Int32), (0 : Int32)) = some (nI (bmN (fun w => decide (K n w = b)) W)) := by
    refine wh_for (fun k => (nI (bmN (fun w => decide (K n w = b)) k), nI k)) W (fun k hk => ?_) ?_ FU (FU_gt (by omega))
    · have g := hK n k hn hk
      have e9 : ¬ W ≤ k := by omega
      simp (disch := omega) only [gC_lookersAt_h5, e4, nI_leI, e9, if_false, ↓ix_ite, ix_ite2, nI_clamp, rd_n, g.1, nI_eq, Option.bind_some, or_new, nI_1, bmN, decide_eq_true_eq]
      by_cases h9 : K n k = b
      · simp only [h9, if_true, Option.bind_some]
      · simp only [h9, if_false, Option.bind_some, Nat.add_zero]
    · simp (disch := omega) only [gC_lookersAt_h5, e4, nI_leI, Nat.le_refl, if_true]
  unfold gC_lookersAt
  rw [e]
  rfl
theorem kC_steps (h : CV c s N N B W G P K E nd) (hw : w < W) (hb : b ≤ 4) : gC_stepsOn c (nI w) (nI b) s = some (nI (cntB (fun n => decide (K n w = b)) (N + 1))) := by
  obtain ⟨⟨h1, h2, h3, h4, h5⟩, ⟨e1, e2, e3, e4⟩, hP, hK, hE, hD⟩ := h
  have e : wh FU (gC_stepsOn_h5 c (nI w) (nI b) s) ((0 : Int32), (0 : Int32)) = some (nI (cntB (fun n => decide (K n w = b)) (N + 1))) := by
    refine wh_for (fun k => (nI (cntB (fun n => decide (K n w = b)) k), nI k)) (N + 1) (fun k hk => ?_) ?_ FU (FU_gt (by omega))
    · have g := hK k w (by omega) hw
      have e9 : ¬ N < k := by omega
      simp (disch := omega) only [gC_stepsOn_h5, e1, nI_ltI, e9, if_false, ↓ix_ite, ix_ite2, nI_clamp, rd_n, g.1, nI_eq, Option.bind_some, nI_1, cntB, decide_eq_true_eq]
      by_cases h9 : K k w = b
      · simp only [h9, if_true, Option.bind_some]
      · simp only [h9, if_false, Option.bind_some, Nat.add_zero]
    · have e9 : N < N + 1 := by omega
      simp (disch := omega) only [gC_stepsOn_h5, e1, nI_ltI, e9, if_true]
  unfold gC_stepsOn
  rw [e]
  rfl
theorem sub_pos {x y : Nat} (hx : x < 2 ^ 30) (hy : y < 2 ^ 30) : (0 < nI x - nI y) ↔ y < x := by
  rw [Int32.lt_iff_toInt_lt, pk_sub_toInt hx hy]
  show (0 : Int) < _ ↔ _
  omega
theorem sub_0 {x y : Nat} (hx : x < 2 ^ 30) (hy : y < 2 ^ 30) : (nI x - nI y = 0) ↔ x = y := by
  rw [← Int32.toInt_inj, pk_sub_toInt hx hy]
  show _ = (0 : Int) ↔ _
  omega
theorem kC_rank (h : CV c s M N B W G P K E nd) (hn : n ≤ M) (hb : b < B) : gC_rank c (nI b) (nI n) s = some (nI (rankN B (P n) b)) := by
  obtain ⟨⟨h1, h2, h3, h4, h5⟩, ⟨e1, e2, e3, e4⟩, hP, hK, hE, hD⟩ := h
  have g := hP n b hn hb
  have e : wh FU (gC_rank_h5 c (nI b) (nI n) s) ((0 : Int32), (0 : Int32)) = some (nI (rankN B (P n) b)) := by
    refine wh_for (fun k => (nI (rankN k (P n) b), nI k)) B (fun k hk => ?_) ?_ FU (FU_gt (by omega))
    · have g2 := hP n k hn hk
      have e9 : ¬ B ≤ k := by omega
      simp (disch := omega) only [gC_rank_h5, e3, nI_leI, e9, if_false, ↓ix_ite, ix_ite2, nI_clamp, rd_n, g.1, g2.1, Option.bind_some, nI_1, rankN, cntB, sub_pos, sub_0, Bool.or_eq_true, Bool.and_eq_true, decide_eq_true_eq]
      by_cases h6 : P n b < P n k
      · simp only [h6, if_true, Option.bind_some, true_or]
      · by_cases h7 : P n k = P n b
        · by_cases h8 : k < b
          · simp only [h6, h7, h8, Nat.not_le.mpr h8, if_true, if_false, Option.bind_some, true_and, or_true, Nat.lt_irrefl]
          · simp only [h6, h7, h8, Nat.not_lt.mp h8, if_true, if_false, Option.bind_some, true_and, false_or, Nat.lt_irrefl, Nat.add_zero]
        · simp only [h6, h7, if_false, Option.bind_some, false_and, false_or, Nat.add_zero]
    · simp (disch := omega) only [gC_rank_h5, e3, nI_leI, Nat.le_refl, if_true]
  unfold gC_rank
  rw [e]
  rfl
theorem kC_home (h : CV c s N N B W G P K E nd) (hb : b < B) : gC_homeStep c (nI b) s = some (oz (homeO N G P b)) := by
  have hq : ∀ n, n ≤ N → gC_isHome c (nI b) (nI n) s = some (bz (decide (G ≤ P n b))) := fun n hn => kC_isHome h hn hb
  obtain ⟨⟨h1, h2, h3, h4, h5⟩, ⟨e1, e2, e3, e4⟩, hP, hK, hE, hD⟩ := h
  unfold gC_homeStep homeO
  refine wh_ff (fun n => decide (G ≤ P n b)) (fun k => nI k) oz (N + 1) 0 (fun k _ hk hp => ?_) (fun k _ hk hp => ?_) ?_ FU (FU_gt (by omega))
  · have q := hq k (by omega)
    have e9 : ¬ N < k := by omega
    simp (disch := omega) only [gC_homeStep_h2, e1, nI_ltI, e9, if_false, q, Option.bind_some, nI_1]
    rw [hp, bz_f]; rfl
  · have q := hq k (by omega)
    have e9 : ¬ N < k := by omega
    simp (disch := omega) only [gC_homeStep_h2, e1, nI_ltI, e9, if_false, q, Option.bind_some, nI_1]
    rw [hp, bz_t]; rfl
  · have e9 : N < 0 + (N + 1) := by omega
    simp (disch := omega) only [gC_homeStep_h2, e1, nI_ltI, e9, if_true]
    rfl
theorem kC_win1 (h : CV c s M N B W G P K E nd) (hn : n ≤ M) : wh FU (gC_winner_h15 c (nI n) s) (0 : Int32) = some (w1 n (ffN (fun b => decide (G ≤ P n b)) B 0)) := by
  have hq : ∀ b, b < B → gC_isHome c (nI b) (nI n) s = some (bz (decide (G ≤ P n b))) := fun b hb => kC_isHome h hn hb
  obtain ⟨⟨h1, h2, h3, h4, h5⟩, ⟨e1, e2, e3, e4⟩, hP, hK, hE, hD⟩ := h
  refine wh_ff (fun b => decide (G ≤ P n b)) (fun k => nI k) (w1 n) B 0 (fun k _ hk hp => ?_) (fun k _ hk hp => ?_) ?_ FU (FU_gt (by omega))
  · have q := hq k (by omega)
    have e9 : ¬ B ≤ k := by omega
    simp (disch := omega) only [gC_winner_h15, e3, nI_leI, e9, if_false, q, Option.bind_some, nI_1]
    rw [hp, bz_f]; rfl
  · have q := hq k (by omega)
    have e9 : ¬ B ≤ k := by omega
    simp (disch := omega) only [gC_winner_h15, e3, nI_leI, e9, if_false, q, Option.bind_some, nI_1]
    rw [hp, bz_t]; rfl
  · have e9 : B ≤ 0 + B := by omega
    simp (disch := omega) only [gC_winner_h15, e3, nI_leI, e9, if_true, nI_1]
    rfl
theorem kC_winner (h : CV c s N N B W G P K E nd) : gC_winner c s = some (oz (winO N B G P)) := by
  have hq : ∀ n, n ≤ N → _ := fun n (hn : n ≤ N) => kC_win1 (n := n) h hn
  obtain ⟨⟨h1, h2, h3, h4, h5⟩, ⟨e1, e2, e3, e4⟩, hP, hK, hE, hD⟩ := h
  unfold gC_winner winO
  refine wh_ff (fun n => (ffN (fun b => decide (G ≤ P n b)) B 0).isSome) (fun k => nI k) (fun z => oz (z.bind (fun n => ffN (fun b => decide (G ≤ P n b)) B 0))) (N + 1) 0 (fun k _ hk hp => ?_) (fun k _ hk hp => ?_) ?_ FU (FU_gt (by omega))
  · have q := hq k (by omega)
    have e9 : ¬ N < k := by omega
    simp (disch := omega) only [gC_winner_h2, e1, nI_ltI, e9, if_false, q]
    cases hf : ffN (fun b => decide (G ≤ P k b)) B 0 with
    | none => rfl
    | some z => rw [hf] at hp; cases hp
  · have q := hq k (by omega)
    have e9 : ¬ N < k := by omega
    simp (disch := omega) only [gC_winner_h2, e1, nI_ltI, e9, if_false, q, Option.bind_some]
    cases hf : ffN (fun b => decide (G ≤ P k b)) B 0 with
    | none => rw [hf] at hp; cases hp
    | some z => rfl
  · have e9 : N < 0 + (N + 1) := by omega
    simp (disch := omega) only [gC_winner_h2, e1, nI_ltI, e9, if_true]
    rfl
end CQ
