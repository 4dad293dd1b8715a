/-! from the kit: drawers (starting text) -/
theorem fb_holes : ∀ (m n : Nat) (f : Nat → Nat), (∀ i, i < n → f i < m) → (∀ i j, i < j → j < n → f i ≠ f j) → n ≤ m := by
  intro m
  induction m with
  | zero =>
    intro n f h1 _
    rcases Nat.eq_zero_or_pos n with h | h
    · omega
    · exact absurd (h1 0 h) (Nat.not_lt_zero _)
  | succ m ih =>
    intro n f h1 h2
    by_cases hx : ∃ i, i < n ∧ f i = m
    · obtain ⟨a, ha, hfa⟩ := hx
      have hg := ih (n - 1) (fun i => if i < a then f i else f (i + 1)) (by
        intro i hi
        by_cases q : i < a
        · simp only [if_pos q]
          have b1 := h1 i (by omega)
          have b2 := h2 i a q ha
          omega
        · simp only [if_neg q]
          have b1 := h1 (i + 1) (by omega)
          have b2 := h2 a (i + 1) (by omega) (by omega)
          omega) (by
        intro i j hij hj
        by_cases q : i < a
        · by_cases r : j < a
          · simp only [if_pos q, if_pos r]
            exact h2 i j hij (by omega)
          · simp only [if_pos q, if_neg r]
            exact h2 i (j + 1) (by omega) (by omega)
        · have r : ¬ j < a := by omega
          simp only [if_neg q, if_neg r]
          exact h2 (i + 1) (j + 1) (by omega) (by omega))
      omega
    · have hg := ih n f (fun i hi => by
        have b1 := h1 i hi
        have b2 : f i ≠ m := fun e => hx ⟨i, hi, e⟩
        omega) h2
      omega
/-- as many as places, none twice: each place is taken -/
theorem fb_onto {n : Nat} {f : Nat → Nat} (h : ∀ i, i < n → f i < n) (h2 : ∀ i j, i < j → j < n → f i ≠ f j) {y : Nat} (hy : y < n) : ∃ i, i < n ∧ f i = y := by
  refine Classical.byContradiction fun hx => ?_
  have hne : ∀ i, i < n → f i ≠ y := fun i hi e => hx ⟨i, hi, e⟩
  have := fb_holes (n - 1) n (fun i => if f i < y then f i else f i - 1) (by
    intro i hi
    have b1 := h i hi
    have b2 := hne i hi
    by_cases q : f i < y
    · simp only [if_pos q]; omega
    · simp only [if_neg q]; omega) (by
    intro i j hij hj
    have b1 := hne i (by omega)
    have b2 := hne j hj
    have b3 := h2 i j hij hj
    by_cases q : f i < y
    · by_cases r : f j < y
      · simp only [if_pos q, if_pos r]; exact b3
      · simp only [if_pos q, if_neg r]; omega
    · by_cases r : f j < y
      · simp only [if_neg q, if_pos r]; omega
      · simp only [if_neg q, if_neg r]; omega)
  omega
/-! SIMPLE ASKING: order, drops, passes, seers; what was told -/
theorem cnt_lt {p q : Nat → Bool} {n : Nat} (h : ∀ k, k < n → p k = true → q k = true) : cntB p n ≤ cntB q n ∧ ((∃ k, k < n ∧ q k = true ∧ p k = false) → cntB p n < cntB q n) := by
  induction n with
  | zero => exact ⟨Nat.le_refl _, fun ⟨k, hk, _⟩ => absurd hk (Nat.not_lt_zero _)⟩
  | succ n ih =>
    obtain ⟨h1, h2⟩ := ih (fun k hk => h k (by omega))
    have h3 := h n (by omega)
    rw [cnt_s, cnt_s]
    refine ⟨?_, fun ⟨k, hk, h4, h5⟩ => ?_⟩
    · cases hp : p n
      · rw [if_neg (by decide)]; omega
      · rw [if_pos rfl, if_pos (h3 hp)]; omega
    · by_cases e : k = n
      · subst e
        rw [h4, h5, if_neg (by decide), if_pos rfl]; omega
      · have := h2 ⟨k, by omega, h4, h5⟩
        cases hp : p n
        · rw [if_neg (by decide)]; omega
        · rw [if_pos rfl, if_pos (h3 hp)]; omega
theorem cnt_lt_n {p : Nat → Bool} {n : Nat} (h : ∃ k, k < n ∧ p k = false) : cntB p n < n := by
  have := (cnt_lt (p := p) (q := fun _ => true) (n := n) (fun _ _ _ => rfl)).2 (by obtain ⟨k, h1, h2⟩ := h; exact ⟨k, h1, rfl, h2⟩)
  have := cntB_le (fun _ => true) n
  omega
theorem rank_lt {B b : Nat} {p : Nat → Nat} (hb : b < B) : rankN B p b < B := cnt_lt_n ⟨b, hb, by simp⟩
theorem rank_ahead {B a c : Nat} {p : Nat → Nat} (ha : a < B) (h : p c < p a ∨ (p a = p c ∧ a < c)) : rankN B p a < rankN B p c := by
  refine (cnt_lt (fun k hk hp => ?_)).2 ⟨a, ha, ?_, ?_⟩
  · simp only [Bool.or_eq_true, Bool.and_eq_true, decide_eq_true_eq] at hp ⊢
    omega
  · simp only [Bool.or_eq_true, Bool.and_eq_true, decide_eq_true_eq]
    exact h
  · simp
theorem rank_onto {B i : Nat} {p : Nat → Nat} (hi : i < B) : ∃ b, b < B ∧ rankN B p b = i := by
  refine fb_onto (fun b hb => rank_lt hb) (fun a c hac hc e => ?_) hi
  by_cases h : p a < p c
  · have := rank_ahead (B := B) (a := c) (c := a) (p := p) hc (Or.inl h)
    omega
  · have := rank_ahead (B := B) (a := a) (c := c) (p := p) (by omega) (by omega)
    omega
theorem ff_find {p : Nat → Bool} {n k : Nat} (hk : k < n) (hp : p k = true) : ∃ j, j < n ∧ ffN p n 0 = some j := by
  cases h : ffN p n 0 with
  | none => rw [ffN_none h k (Nat.zero_le _) (by omega)] at hp; cases hp
  | some j => exact ⟨j, by have := (ffN_some h).2.1; omega, rfl⟩
section A4
variable {n w b o k : Nat} {s : mT} {D : RD} {xs : Nat → Int32} {T : SU}
def ordC : Option Nat → Int32
  | none => -2
  | some b => nI b
theorem c_order {v : Int32} (h : IV xs D s) (hn : n ≤ D 0 0) : wh FU (gL_order_h17 v (nI n) s) (0 : Int32) = some (ordC (ffN (fun b => decide (nI (rankN (D 5 0) (rP D (T0 D) n) b) = v)) (D 5 0) 0)) := by
  obtain ⟨d0, d2, d5, d6, d7⟩ := h.bd
  refine wh_ff (fun b => decide (nI (rankN (D 5 0) (rP D (T0 D) n) b) = v)) (fun k => nI k) ordC (D 5 0) 0 (fun k _ hk hp => ?_) (fun k _ hk hp => ?_) ?_ FU (FU_gt (by omega))
  · unfold gL_order_h17
    rw [h.B, if_neg (nle (by omega) (by omega) (by omega)), kC_rank h.cv hn (by omega), Option.bind_some, if_neg (of_decide_eq_false hp), nI_1]
  · unfold gL_order_h17
    rw [h.B, if_neg (nle (by omega) (by omega) (by omega)), kC_rank h.cv hn (by omega), Option.bind_some, if_pos (of_decide_eq_true hp)]
    rfl
  · unfold gL_order_h17
    rw [h.B, if_pos (nI_le (by omega) (by omega))]
    rfl
theorem mq_rank {x : Int32} (h : MQq D T s) (hn : n ≤ D 0 0) (hb : b < D 5 0) : wh FU (gM_order_h38 x (nI n) (nI b) s) ((0 : Int32), (0 : Int32)) = some (nI (rankN (D 5 0) (rP D T n) b)) := by
  obtain ⟨d0, d2, d5, d6⟩ := mq_b h
  refine wh_for (fun k => (nI (cntB (fun o => decide (rP D T n b < rP D T n o) || (decide (rP D T n o = rP D T n b) && decide (o < b))) k), nI k)) (D 5 0) (fun k hk => ?_) ?_ FU (FU_gt (by omega))
  · have p1 := mq_P h (n := n) (b := k)
    have p2 := mq_P h (n := n) (b := b)
    unfold gM_order_h38
    dsimp only
    rw [mq_B h, Option.bind_some, if_neg (nle (by omega) (by omega) (by omega)), mq_pl h hn hk, Option.bind_some, mq_pl h hn hb, Option.bind_some, cnt_s]
    by_cases h6 : rP D T n b < rP D T n k
    · rw [if_pos (nI_lt h6 (by omega)), Option.bind_some, if_pos (by simp [h6]), nI_1, nI_1]
    · rw [if_neg (nlt (by omega) (by omega) h6)]
      by_cases h7 : rP D T n k = rP D T n b
      · rw [Option.bind_some, Option.bind_some, if_pos (congrArg nI h7)]
        by_cases h8 : k < b
        · rw [if_neg (nle (by omega) (by omega) (by omega)), Option.bind_some, if_pos (by simp [h7, h8]), nI_1, nI_1]
        · rw [if_pos (nI_le (by omega) (by omega)), Option.bind_some, if_neg (by simp [h7, h8]), ← nI_0, nI_add, nI_1]
      · rw [Option.bind_some, Option.bind_some, if_neg (fun z => h7 ((nI_eq (by omega) (by omega)).mp z)), Option.bind_some, if_neg (by simp [h6, h7]), ← nI_0, nI_add, nI_1]
  · unfold gM_order_h38
    dsimp only
    rw [mq_B h, Option.bind_some, if_pos (nI_le (Nat.le_refl _) (by omega))]
    rfl
theorem mq_order {v : Int32} (h : MQq D T s) (hn : n ≤ D 0 0) : wh FU (gM_order_h22 v (nI n) s) (0 : Int32) = some (oz (ffN (fun b => decide (nI (rankN (D 5 0) (rP D T n) b) = v)) (D 5 0) 0), s) := by
  obtain ⟨d0, d2, d5, d6⟩ := mq_b h
  refine wh_ff (fun b => decide (nI (rankN (D 5 0) (rP D T n) b) = v)) (fun k => nI k) (fun z => (oz z, s)) (D 5 0) 0 (fun k _ hk hp => ?_) (fun k _ hk hp => ?_) ?_ FU (FU_gt (by omega))
  · unfold gM_order_h22
    rw [mq_B h, Option.bind_some, if_neg (nle (by omega) (by omega) (by omega)), mq_rank h hn (by omega), Option.bind_some, if_neg (of_decide_eq_false hp), nI_1]
  · unfold gM_order_h22
    rw [mq_B h, Option.bind_some, if_neg (nle (by omega) (by omega) (by omega)), mq_rank h hn (by omega), Option.bind_some, if_pos (of_decide_eq_true hp)]
    rfl
  · unfold gM_order_h22
    rw [mq_B h, Option.bind_some, if_pos (nI_le (by omega) (by omega))]
    rfl
theorem a_order (v1 v2 : Int32) : AG (gL_order v1 v2) (gM_order v1 v2) := by
  intro xs D s h
  obtain ⟨d0, d2, d5, d6, d7⟩ := h.bd
  obtain ⟨s1, f1, k1, i1, p1, q1⟩ := h.asksS (v := v2)
  simp only [gL_order, gM_order, h.hasS, f1, i1.mB, Option.bind_some, bz_if]
  by_cases g2 : 0 < D 4 0 ∧ 0 ≤ v2.toInt ∧ v2.toInt < (D 0 0 : Int) + 1
  · simp only [if_pos g2]
    obtain ⟨n, hn, rfl⟩ := of_inS g2.2
    rw [c_order h hn, mq_order (q1 g2.1).1 hn]
    by_cases g1 : 0 ≤ v1.toInt ∧ v1.toInt < (D 5 0 : Int)
    · rw [if_pos g1]
      obtain ⟨i, hi, rfl⟩ := of_in g1
      obtain ⟨b, hb, e⟩ := rank_onto (p := rP D (T0 D) n) hi
      obtain ⟨j, hj, ej⟩ := ff_find (p := fun b => decide (nI (rankN (D 5 0) (rP D (T0 D) n) b) = nI i)) hb (by rw [e]; exact decide_eq_true rfl)
      rw [ej]
      exact ⟨_, s1, rfl, rfl, i1⟩
    · rw [if_neg g1, ffN_isN]
      · exact ⟨_, s1, rfl, rfl, i1⟩
      · intro j _ hj
        have hr := rank_lt (p := rP D (T0 D) n) (show j < D 5 0 by omega)
        refine decide_eq_false (fun z => g1 ?_)
        rw [← z]
        exact in_of hr (by omega)
  · simp only [if_neg g2, Option.bind_some]; exact ⟨_, s1, rfl, rfl, i1⟩
/-! drops -/
def exN (p : Nat → Bool) : Nat → Bool
  | 0 => false
  | j + 1 => exN p j || p j
theorem ex_ff (p : Nat → Bool) (m : Nat) : (ffN p m 0).isSome = exN p m := by
  cases h : ffN p m 0 with
  | none =>
    have h1 := ffN_none h
    have : ∀ j, j ≤ m → exN p j = false := fun j => by
      induction j with
      | zero => intro _; rfl
      | succ j ih => intro hj; unfold exN; rw [ih (by omega), h1 j (Nat.zero_le _) (by omega)]; rfl
    rw [this m (Nat.le_refl _)]; rfl
  | some k =>
    obtain ⟨h1, h2, h3, h4⟩ := ffN_some h
    have : ∀ j, k < j → exN p j = true := fun j => by
      induction j with
      | zero => intro z; omega
      | succ j ih =>
        intro hj
        unfold exN
        by_cases e : j = k
        · rw [e, h3, Bool.or_true]
        · rw [ih (by omega), Bool.true_or]
    rw [this m (by omega)]; rfl
theorem bm_or (p q : Nat → Bool) (n : Nat) : nI (bmN p n) ||| nI (bmN q n) = nI (bmN (fun i => p i || q i) n) := by
  rw [nI_or]
  congr 1
  apply Nat.eq_of_testBit_eq
  intro i
  rw [Nat.testBit_or, bm_tb, bm_tb, bm_tb]
  cases decide (i < n) <;> rfl
def w2 (n : Nat) : Option Nat → Int32 ⊕ Int32
  | some _ => .inr (nI n)
  | none => .inl (nI (n + 1))
theorem c_drops1 (h : IV xs D s) (hn : n < D 0 0) : wh FU (gL_drops_h28 (nI n) s) (0 : Int32) = some (w2 n (ffN (fun b => calmB (D 2 0) (rP D (T0 D)) (rE D (T0 D)) (D 10) b n) (D 5 0) 0)) := by
  obtain ⟨d0, d2, d5, d6, d7⟩ := h.bd
  refine wh_ff (fun b => calmB (D 2 0) (rP D (T0 D)) (rE D (T0 D)) (D 10) b n) (fun k => nI k) (w2 n) (D 5 0) 0 (fun k _ hk hp => ?_) (fun k _ hk hp => ?_) ?_ FU (FU_gt (by omega))
  · unfold gL_drops_h28
    rw [h.B, if_neg (nle (by omega) (by omega) (by omega)), kC_isBecalmed h.cv hn (by omega), Option.bind_some, hp, bz_f, if_pos rfl, nI_1]
  · unfold gL_drops_h28
    rw [h.B, if_neg (nle (by omega) (by omega) (by omega)), kC_isBecalmed h.cv hn (by omega), Option.bind_some, hp, bz_t, if_neg (by decide)]
    rfl
  · unfold gL_drops_h28
    rw [h.B, if_pos (nI_le (by omega) (by omega)), nI_1]
    rfl
theorem c_drops (h : IV xs D s) : wh FU (gL_drops_h15 s) (0 : Int32) = some (oz (ffN (fun n => exN (fun b => calmB (D 2 0) (rP D (T0 D)) (rE D (T0 D)) (D 10) b n) (D 5 0)) (D 0 0) 0)) := by
  obtain ⟨d0, d2, d5, d6, d7⟩ := h.bd
  refine wh_ff (fun n => exN (fun b => calmB (D 2 0) (rP D (T0 D)) (rE D (T0 D)) (D 10) b n) (D 5 0)) (fun k => nI k) oz (D 0 0) 0 (fun k _ hk hp => ?_) (fun k _ hk hp => ?_) ?_ FU (FU_gt (by omega))
  · unfold gL_drops_h15
    rw [h.N, if_neg (nle (by omega) (by omega) (by omega)), c_drops1 h (by omega)]
    rw [← ex_ff] at hp
    cases hf : ffN (fun b => calmB (D 2 0) (rP D (T0 D)) (rE D (T0 D)) (D 10) b k) (D 5 0) 0 with
    | none => rfl
    | some z => rw [hf] at hp; cases hp
  · unfold gL_drops_h15
    rw [h.N, if_neg (nle (by omega) (by omega) (by omega)), c_drops1 h (by omega)]
    rw [← ex_ff] at hp
    cases hf : ffN (fun b => calmB (D 2 0) (rP D (T0 D)) (rE D (T0 D)) (D 10) b k) (D 5 0) 0 with
    | none => rw [hf] at hp; cases hp
    | some z => rfl
  · unfold gL_drops_h15
    rw [h.N, if_pos (nI_le (by omega) (by omega))]
    rfl
theorem mq_drops1 (h : MQq D T s) : wh FU (gM_drops_h14 s) ((0 : Int32), (0 : Int32)) = some (nI (bmN (fun n => exN (fun b => calmB (D 2 0) (rP D T) (rE D T) T.2.2.1 b n) (D 5 0)) (D 0 0))) := by
  obtain ⟨d0, d2, d5, d6⟩ := mq_b h
  have e0 : ((0 : Int32), (0 : Int32)) = (fun k => (nI (bmN (fun n => exN (fun b => calmB (D 2 0) (rP D T) (rE D T) T.2.2.1 b n) k) (D 0 0)), nI k)) 0 := by
    dsimp only
    have : ∀ m, bmN (fun n => exN (fun b => calmB (D 2 0) (rP D T) (rE D T) T.2.2.1 b n) 0) m = 0 := fun m => by
      induction m with
      | zero => rfl
      | succ m ih => rw [bm_s, ih]; rfl
    rw [this]
    rfl
  rw [e0]
  refine wh_for (fun k => (nI (bmN (fun n => exN (fun b => calmB (D 2 0) (rP D T) (rE D T) T.2.2.1 b n) k) (D 0 0)), nI k)) (D 5 0) (fun k hk => ?_) ?_ FU (FU_gt (by omega))
  · unfold gM_drops_h14
    dsimp only
    rw [mq_B h, Option.bind_some, if_neg (nle (by omega) (by omega) (by omega)), mq_calm h hk, Option.bind_some, bm_or, nI_1]
    rfl
  · unfold gM_drops_h14
    dsimp only
    rw [mq_B h, Option.bind_some, if_pos (nI_le (Nat.le_refl _) (by omega))]
theorem mq_drops2 {p : Nat → Bool} (h : MQq D T s) : wh FU (gM_drops_h40 (nI (bmN p (D 0 0))) s) (0 : Int32) = some (oz (ffN p (D 0 0) 0), s) := by
  obtain ⟨d0, d2, d5, d6⟩ := mq_b h
  have b1 := bmN_lt p (D 0 0)
  have b2 : 2 ^ D 0 0 ≤ 2 ^ 20 := Nat.pow_le_pow_right (by omega) d0
  refine wh_ff p (fun k => nI k) (fun z => (oz z, s)) (D 0 0) 0 (fun k _ hk hp => ?_) (fun k _ hk hp => ?_) ?_ FU (FU_gt (by omega))
  · unfold gM_drops_h40 gM_bit
    rw [mq_N h, Option.bind_some, if_neg (nle (by omega) (by omega) (by omega)), shr_b (by omega) (by omega), bmN_bit (by omega), hp, Option.bind_some, if_neg (by decide), nI_1]
  · unfold gM_drops_h40 gM_bit
    rw [mq_N h, Option.bind_some, if_neg (nle (by omega) (by omega) (by omega)), shr_b (by omega) (by omega), bmN_bit (by omega), hp, Option.bind_some, if_pos rfl, if_pos (by decide)]
    rfl
  · unfold gM_drops_h40
    rw [mq_N h, Option.bind_some, if_pos (nI_le (by omega) (by omega))]
    rfl
theorem a_drops : AG gL_drops gM_drops := by
  intro xs D s h
  obtain ⟨s1, f1, k1, i1, p1, q1⟩ := h.asks
  simp only [gL_drops, gM_drops, h.ex, f1, Option.bind_some, bz_if]
  by_cases g2 : 0 < D 4 0
  · simp only [if_pos g2]
    rw [c_drops h, mq_drops1 (q1 g2).1, Option.bind_some, mq_drops2 (q1 g2).1]
    exact ⟨_, s1, rfl, rfl, i1⟩
  · simp only [if_neg g2, Option.bind_some]; exact ⟨_, s1, rfl, rfl, i1⟩
/-! passes -/
abbrev psB (P : Nat → Nat → Nat) (b o n : Nat) : Bool := decide (¬ P n b ≤ P n o) && decide (P (n - 1) b ≤ P (n - 1) o)
theorem c_passes (h : IV xs D s) (hb : b < D 5 0) (ho : o < D 5 0) : wh FU (gL_passes_h29 (nI b) (nI o) s) (1 : Int32) = some (oz (ffN (psB (rP D (T0 D)) b o) (D 0 0) 1)) := by
  obtain ⟨d0, d2, d5, d6, d7⟩ := h.bd
  have key : ∀ k, 1 ≤ k → k < 1 + D 0 0 → gL_passes_h29 (nI b) (nI o) s (nI k) = if psB (rP D (T0 D)) b o k = true then some (.inr (nI k)) else some (.inl (nI (k + 1))) := fun k h1 hk => by
    have p1 := h.P (n := k) (b := b)
    have p2 := h.P (n := k) (b := o)
    have p3 := h.P (n := k - 1) (b := b)
    have p4 := h.P (n := k - 1) (b := o)
    have em : nI k - (1 : Int32) = nI (k - 1) := pk_sub (b := 1) h1
    unfold gL_passes_h29
    rw [h.N, if_neg (nlt (by omega) (by omega) (by omega)), em, ix_ite (by omega) (by omega), nI_clamp (by omega), rd_n (by omega) (by omega), Option.bind_some, ix_ite2 (by omega) (by omega), rd_n (by omega) (by omega), Option.bind_some, h.pl (by omega) hb, h.pl (by omega) ho]
    by_cases c1 : rP D (T0 D) k b ≤ rP D (T0 D) k o
    · rw [if_pos (nI_le c1 (by omega)), if_neg (by simp [c1]), nI_1]
    · rw [if_neg (nle (by omega) (by omega) c1), ix_ite (by omega) (by omega), nI_clamp (by omega), rd_n (by omega) (by omega), Option.bind_some, ix_ite2 (by omega) (by omega), rd_n (by omega) (by omega), Option.bind_some, h.pl (by omega) hb, h.pl (by omega) ho]
      by_cases c2 : rP D (T0 D) (k - 1) b ≤ rP D (T0 D) (k - 1) o
      · rw [if_neg (nlt (by omega) (by omega) (by omega)), if_pos (by simp [c2]; omega)]
      · rw [if_pos (nI_lt (by omega) (by omega)), if_neg (by simp; omega), nI_1]
  refine wh_ff (psB (rP D (T0 D)) b o) (fun k => nI k) oz (D 0 0) 1 (fun k hk1 hk hp => ?_) (fun k hk1 hk hp => ?_) ?_ FU (FU_gt (by omega))
  · rw [key k hk1 hk, hp, if_neg (by decide)]
  · rw [key k hk1 hk, hp, if_pos rfl]; rfl
  · unfold gL_passes_h29
    rw [h.N, if_pos (nI_lt (by omega) (by omega))]
    rfl
theorem mq_passes (h : MQq D T s) (hb : b < D 5 0) (ho : o < D 5 0) : wh FU (gM_passes_h22 (nI b) (nI o) s) (1 : Int32) = some (oz (ffN (psB (rP D T) b o) (D 0 0) 1), s) := by
  obtain ⟨d0, d2, d5, d6⟩ := mq_b h
  have key : ∀ k, 1 ≤ k → k < 1 + D 0 0 → gM_passes_h22 (nI b) (nI o) s (nI k) = if psB (rP D T) b o k = true then some (.inr (nI k, s)) else some (.inl (nI (k + 1))) := fun k h1 hk => by
    have p1 := mq_P h (n := k) (b := b)
    have p2 := mq_P h (n := k) (b := o)
    have p3 := mq_P h (n := k - 1) (b := b)
    have p4 := mq_P h (n := k - 1) (b := o)
    have em : nI k - (1 : Int32) = nI (k - 1) := pk_sub (b := 1) h1
    unfold gM_passes_h22
    rw [mq_N h, Option.bind_some, if_neg (nlt (by omega) (by omega) (by omega)), em, mq_pl h (by omega) hb, Option.bind_some, mq_pl h (by omega) ho, Option.bind_some]
    by_cases c1 : rP D T k b ≤ rP D T k o
    · rw [if_pos (nI_le c1 (by omega)), if_neg (by simp [c1]), nI_1]
    · rw [if_neg (nle (by omega) (by omega) c1), mq_pl h (by omega) hb, Option.bind_some, mq_pl h (by omega) ho, Option.bind_some]
      by_cases c2 : rP D T (k - 1) b ≤ rP D T (k - 1) o
      · rw [if_neg (nlt (by omega) (by omega) (by omega)), if_pos (by simp [c2]; omega)]
      · rw [if_pos (nI_lt (by omega) (by omega)), if_neg (by simp; omega), nI_1]
  refine wh_ff (psB (rP D T) b o) (fun k => nI k) (fun z => (oz z, s)) (D 0 0) 1 (fun k hk1 hk hp => ?_) (fun k hk1 hk hp => ?_) ?_ FU (FU_gt (by omega))
  · rw [key k hk1 hk, hp, if_neg (by decide)]
  · rw [key k hk1 hk, hp, if_pos rfl]; rfl
  · unfold gM_passes_h22
    rw [mq_N h, Option.bind_some, if_pos (nI_lt (by omega) (by omega))]
    rfl
theorem a_passes (v1 v2 : Int32) : AG (gL_passes v1 v2) (gM_passes v1 v2) := by
  intro xs D s h
  obtain ⟨s1, f1, k1, i1, p1, q1⟩ := h.asksB (v := v1)
  simp only [gL_passes, gM_passes, h.hasB, f1, i1.mB, Option.bind_some, bz_if]
  by_cases g1 : 0 ≤ v1.toInt ∧ v1.toInt < (D 5 0 : Int)
  · by_cases g2 : 0 ≤ v2.toInt ∧ v2.toInt < (D 5 0 : Int)
    · simp only [if_pos g1, if_pos g2]
      obtain ⟨b, hb, rfl⟩ := of_in g1
      obtain ⟨o, ho, rfl⟩ := of_in g2
      rw [c_passes h hb ho, mq_passes (q1 (h.isr (by omega))).1 hb ho]
      exact ⟨_, s1, rfl, rfl, i1⟩
    · simp only [if_pos g1, if_neg g2, Option.bind_some]; exact ⟨_, s1, rfl, rfl, i1⟩
  · simp only [if_neg g1, ite_self, Option.bind_some]; exact ⟨_, s1, rfl, rfl, i1⟩
/-! seers -/
abbrev seB (D : RD) (b w : Nat) : Bool := decide (D 12 w ≤ b ∧ b ≤ D 13 w)
theorem c_sees (h : IV xs D s) (hw : w < D 6 0) (hb : b < 5) : gR_sees 16 (nI w) (nI b) s = some (bz (seB D b w)) := by
  obtain ⟨d0, d2, d5, d6, d7⟩ := h.bd
  have e := h.R.2.2.1 w hw
  have v := h.V.2.2.1 w hw
  unfold gR_sees seB
  rw [rd_n (by omega) (by omega), Option.bind_some, e.2.1, rd_n (by omega) (by omega), Option.bind_some, e.2.2.1]
  by_cases c1 : b < D 12 w
  · rw [if_pos (nI_lt c1 (by omega)), Option.bind_some, if_pos (Or.inl rfl), decide_eq_false (by omega)]; rfl
  · rw [if_neg (nlt (by omega) (by omega) c1)]
    by_cases c2 : D 13 w < b
    · rw [if_pos (nI_lt c2 (by omega)), Option.bind_some, if_pos (Or.inl rfl), decide_eq_false (by omega)]; rfl
    · rw [if_neg (nlt (by omega) (by omega) c2), Option.bind_some, if_pos (Or.inr rfl), decide_eq_true (by omega)]; rfl
theorem m_sees (h : IV xs D s) (hw : w < D 6 0) (hb : b < 5) : gM_sees (nI w) (nI b) s = some (bz (seB D b w)) := by
  obtain ⟨d0, d2, d5, d6, d7⟩ := h.bd
  have v := h.V.2.2.1 w hw
  unfold gM_sees seB
  rw [of_1 h.V h.M hw, Option.bind_some, of_2 h.V h.M hw, Option.bind_some, m_in, Option.bind_some, bz_ite, nI_l (by omega), nI_l (by omega), nI_l (by omega), lN_toInt (by omega), lN_toInt (by omega), lN_toInt (by omega)]
  simp only [Int.ofNat_le]
theorem c_seers (h : IV xs D s) (hb : b < D 5 0) : wh FU (gL_seers_h19 (nI b) s) ((0 : Int32), (0 : Int32)) = some (nI (bmN (seB D b) (D 6 0))) := by
  obtain ⟨d0, d2, d5, d6, d7⟩ := h.bd
  refine wh_for (fun k => (nI (bmN (seB D b) k), nI k)) (D 6 0) (fun k hk => ?_) ?_ FU (FU_gt (by omega))
  · unfold gL_seers_h19
    dsimp only
    rw [h.W, if_neg (nle (by omega) (by omega) (by omega)), c_sees h hk (by omega), Option.bind_some, st_bn (p := seB D b) (by omega) (bz_0 _), Option.bind_some, nI_1]
  · unfold gL_seers_h19
    dsimp only
    rw [h.W, if_pos (nI_le (Nat.le_refl _) (by omega))]
theorem m_seers (h : IV xs D s) (hb : b < 5) : gM_seersOf (nI b) s = some (nI (bmN (seB D b) (D 6 0))) := by
  obtain ⟨d0, d2, d5, d6, d7⟩ := h.bd
  have hW : rdI (s.1 295) 79 (5 : Int32) = some (nI (D 6 0)) := (rd_n (k := 5) (by omega) (by omega)).trans (congrArg some h.M.1.2.2.2.2.2.1)
  have e : wh FU (gM_seersOf_h4 (nI b) s) ((0 : Int32), (0 : Int32)) = some (nI (bmN (seB D b) (D 6 0))) := by
    refine wh_for (fun k => (nI (bmN (seB D b) k), nI k)) (D 6 0) (fun k hk => ?_) ?_ FU (FU_gt (by omega))
    · unfold gM_seersOf_h4
      dsimp only
      rw [hW, Option.bind_some, if_neg (nle (by omega) (by omega) (by omega)), m_sees h hk hb, Option.bind_some]
      exact st_mbn (p := seB D b) (by omega) (bz_0 _)
    · unfold gM_seersOf_h4
      dsimp only
      rw [hW, Option.bind_some, if_pos (nI_le (Nat.le_refl _) (by omega))]
  unfold gM_seersOf
  rw [e]
  rfl
theorem a_seers (v1 : Int32) : AP (gL_seers v1) (gM_seers v1) := by
  intro xs D s h
  have hd := h.bd
  simp only [gL_seers, gM_seers, h.hasB, h.mB, Option.bind_some, bz_if]
  by_cases g1 : 0 ≤ v1.toInt ∧ v1.toInt < (D 5 0 : Int)
  · simp only [if_pos g1]
    obtain ⟨b, hb, rfl⟩ := of_in g1
    rw [c_seers h hb, m_seers h (by omega)]
    exact ⟨_, rfl, rfl⟩
  · simp only [if_neg g1, Option.bind_some]; exact ⟨_, rfl, rfl⟩
/-! what was told -/
theorem m_in_n {v : Int32} {lo hi : Nat} (h2 : hi < 2 ^ 31) (hl : lo < 2 ^ 31) : gM_in v.toInt64 (lN lo) (lN hi) s = some (bz (decide ((lo : Int) ≤ v.toInt ∧ v.toInt < (hi + 1 : Nat)))) := by
  rw [m_in, lN_toInt h2, lN_toInt hl, Int32.toInt_toInt64]
  simp only [show ((lo : Int) ≤ v.toInt ∧ v.toInt ≤ (hi : Int)) = ((lo : Int) ≤ v.toInt ∧ v.toInt < ((hi + 1 : Nat) : Int)) from propext (by omega)]
theorem m_in0 {v : Int32} {hi : Nat} (h2 : hi < 2 ^ 31) : gM_in v.toInt64 (0 : Int64) (lN hi) s = some (bz (decide (0 ≤ v.toInt ∧ v.toInt < (hi + 1 : Nat)))) := m_in_n (lo := 0) h2 (by omega)
theorem m_in01 {v : Int32} : gM_in v.toInt64 (0 : Int64) (1 : Int64) s = some (bz (decide (0 ≤ v.toInt ∧ v.toInt < (2 : Nat)))) := m_in0 (hi := 1) (by omega)
theorem m_in03 {v : Int32} : gM_in v.toInt64 (0 : Int64) (3 : Int64) s = some (bz (decide (0 ≤ v.toInt ∧ v.toInt < (4 : Nat)))) := m_in0 (hi := 3) (by omega)
theorem m_in08 {v : Int32} : gM_in v.toInt64 (0 : Int64) (8 : Int64) s = some (bz (decide (0 ≤ v.toInt ∧ v.toInt < (9 : Nat)))) := m_in0 (hi := 8) (by omega)
theorem a_boat (v1 v2 : Int32) : AP (gL_boat v1 v2) (gM_boat v1 v2) := by
  intro xs D s h
  have hd := h.bd
  simp only [gL_boat, gM_boat, h.hasB, h.mB, g_isPart, m_in01, Option.bind_some, bz_if]
  by_cases g1 : 0 ≤ v1.toInt ∧ v1.toInt < (D 5 0 : Int)
  · by_cases g2 : 0 ≤ v2.toInt ∧ v2.toInt < (2 : Nat)
    · simp only [if_pos g1, if_pos g2]
      obtain ⟨b, hb, rfl⟩ := of_in g1
      obtain ⟨k, hk, rfl⟩ := of_in g2
      have e1 := h.R.2.1 b hb
      have e2 := h.M.2.1 b hb
      rw [show (9 : Int32) = nI 9 from rfl, show (2 : Int32) = nI 2 from rfl, pk_mul, nI_add, nI_add, rd_n (by omega) (by omega), rd_n (by omega) (by omega), rd_n (by omega) (by omega)]
      match k, hk with
      | 0, _ => rw [if_pos (show nI 0 = (0 : Int32) from rfl), e1.1, show 9 + 2 * b + 0 = 9 + 2 * b from rfl, e2.1]; exact ⟨_, rfl, rfl⟩
      | 1, _ => rw [if_neg (by decide), e1.2, e2.2]; exact ⟨_, rfl, rfl⟩
    · simp only [if_pos g1, if_neg g2, Option.bind_some]; exact ⟨_, rfl, rfl⟩
  · simp only [if_neg g1, Option.bind_some]; exact ⟨_, rfl, rfl⟩
theorem a_show (v1 v2 : Int32) : AP (gL_show v1 v2) (gM_show v1 v2) := by
  intro xs D s h
  have hd := h.bd
  have hS : rdI (s.1 295) 79 (6 : Int32) = some (nI (D 7 0)) := (rd_n (k := 6) (by omega) (by omega)).trans (congrArg some h.M.1.2.2.2.2.2.2.1)
  have hi : gM_in v1.toInt64 (0 : Int64) ((nI (D 7 0) - (1 : Int32)).toInt64) s = some (bz (decide (0 ≤ v1.toInt ∧ v1.toInt < (D 7 0 : Int)))) := by
    rw [m_in, pred_l (by omega), Int32.toInt_toInt64, show (0 : Int64).toInt = 0 from rfl]
    simp only [show (0 ≤ v1.toInt ∧ v1.toInt ≤ (D 7 0 : Int) - 1) = (0 ≤ v1.toInt ∧ v1.toInt < (D 7 0 : Int)) from propext (by omega)]
  simp only [gL_show, gM_show, h.hasSh, hS, hi, g_isPart, m_in01, Option.bind_some, bz_if]
  by_cases g1 : 0 ≤ v1.toInt ∧ v1.toInt < (D 7 0 : Int)
  · by_cases g2 : 0 ≤ v2.toInt ∧ v2.toInt < (2 : Nat)
    · simp only [if_pos g1, if_pos g2]
      obtain ⟨b, hb, rfl⟩ := of_in g1
      obtain ⟨k, hk, rfl⟩ := of_in g2
      have e1 := h.R.2.2.2.1 b hb
      have e2 := h.M.2.2.2.1 b hb
      rw [show (39 : Int32) = nI 39 from rfl, show (2 : Int32) = nI 2 from rfl, pk_mul, nI_add, nI_add, rd_n (by omega) (by omega), rd_n (by omega) (by omega), rd_n (by omega) (by omega)]
      match k, hk with
      | 0, _ => rw [if_pos (show nI 0 = (0 : Int32) from rfl), e1.1, show 39 + 2 * b + 0 = 39 + 2 * b from rfl, e2.1]; exact ⟨_, rfl, rfl⟩
      | 1, _ => rw [if_neg (by decide), e1.2, e2.2]; exact ⟨_, rfl, rfl⟩
    · simp only [if_pos g1, if_neg g2, Option.bind_some]; exact ⟨_, rfl, rfl⟩
  · simp only [if_neg g1, Option.bind_some]; exact ⟨_, rfl, rfl⟩
theorem lit_ne {v : Int32} {n k : Nat} (h : ¬ (0 ≤ v.toInt ∧ v.toInt < (n : Int))) (hk : k < n) (hn : n ≤ 2 ^ 31) : ¬ v = nI k := fun z => h (by rw [z]; exact in_of hk hn)
theorem a_watcher (v1 v2 : Int32) : AP (gL_watcher v1 v2) (gM_watcher v1 v2) := by
  intro xs D s h
  have hd := h.bd
  simp only [gL_watcher, gM_watcher, h.hasW, h.mW, m_in03, Option.bind_some, bz_if]
  by_cases g1 : 0 ≤ v1.toInt ∧ v1.toInt < (D 6 0 : Int)
  · simp only [if_pos g1]
    obtain ⟨w, hw, rfl⟩ := of_in g1
    obtain ⟨e0, e1, e2, e3⟩ := h.R.2.2.1 w hw
    by_cases g2 : 0 ≤ v2.toInt ∧ v2.toInt < (4 : Nat)
    · simp only [if_pos g2]
      obtain ⟨k, hk, rfl⟩ := of_in g2
      rw [of_is h.V h.M hw hk, rd_n (by omega) (by omega), rd_n (by omega) (by omega), rd_n (by omega) (by omega), rd_n (by omega) (by omega), e0, e1, e2, e3]
      match k, hk with
      | 0, _ => exact ⟨_, rfl, rfl⟩
      | 1, _ => exact ⟨_, rfl, rfl⟩
      | 2, _ => exact ⟨_, rfl, rfl⟩
      | 3, _ => exact ⟨_, rfl, rfl⟩
    · rw [if_neg g2, if_neg (show ¬ v2 = (0 : Int32) from lit_ne (k := 0) g2 (by omega) (by omega)), if_neg (show ¬ v2 = (1 : Int32) from lit_ne (k := 1) g2 (by omega) (by omega)), if_neg (show ¬ v2 = (2 : Int32) from lit_ne (k := 2) g2 (by omega) (by omega)), if_neg (show ¬ v2 = (3 : Int32) from lit_ne (k := 3) g2 (by omega) (by omega))]
      exact ⟨_, rfl, rfl⟩
  · simp only [if_neg g1, Option.bind_some]; exact ⟨_, rfl, rfl⟩
theorem a_fault (v1 : Int32) : AP (gL_fault v1) (gM_fault v1) := by
  intro xs D s h
  obtain ⟨e1, e2⟩ := h.2.2.2.1
  unfold gL_fault gM_fault
  rw [e1, e2]
  by_cases h0 : v1 = 0
  · rw [if_pos h0, if_pos h0]; exact ⟨_, rfl, rfl⟩
  · rw [if_neg h0, if_neg h0]
    by_cases h1 : v1 = 1
    · rw [if_pos h1]; exact ⟨_, rfl, rfl⟩
    · rw [if_neg h1]; exact ⟨_, rfl, rfl⟩
theorem c_kept (h : IV xs D s) : gL_rowsKept s = some (nI (cntB (fun l => decide (¬ s.1 313 l = -1)) 4)) := by
  have e : wh FU (gL_rowsKept_h4 s) ((0 : Int32), (0 : Int32)) = some (nI (cntB (fun l => decide (¬ s.1 313 l = -1)) 4)) := by
    refine wh_for (fun k => (nI (cntB (fun l => decide (¬ s.1 313 l = -1)) k), nI k)) 4 (fun k hk => ?_) rfl FU (FU_gt (by omega))
    have hs := h.2.2.2.2.2.1 k hk
    unfold gL_rowsKept_h4
    dsimp only
    rw [show (4 : Int32) = nI 4 from rfl, if_neg (nle (by omega) (by omega) (by omega)), ix_ite (by omega) (by omega), nI_clamp (by omega), st_cn (p := fun l => decide (¬ s.1 313 l = -1)) ?_, Option.bind_some, nI_1]
    rcases hs with ⟨h1, h2⟩ | ⟨h1, wd, n, h2, h3, h4, h5, h6, h7, h8⟩
    · rw [h1, h2]; decide
    · rw [h1, h7]
      have := m1_n (show n < 2 ^ 31 by omega)
      simp [this]
  unfold gL_rowsKept
  rw [e]
  rfl
theorem m_kept : wh FU (gM_count_h42 s) ((0 : Int32), (0 : Int32)) = some (nI (cntB (fun l => decide (¬ s.1 313 l = -1)) 4)) := by
  refine wh_for (fun k => (nI (cntB (fun l => decide (¬ s.1 313 l = -1)) k), nI k)) 4 (fun k hk => ?_) rfl FU (FU_gt (by omega))
  unfold gM_count_h42
  dsimp only
  rw [show (4 : Int32) = nI 4 from rfl, if_neg (nle (by omega) (by omega) (by omega)), rd_n hk (by omega), Option.bind_some]
  exact st_mn (p := fun l => decide (¬ s.1 313 l = -1)) (by simp)
theorem a_count (v1 : Int32) : AP (gL_count v1) (gM_count v1) := by
  intro xs D s h
  obtain ⟨r0, r1, r2, r3, r4, r5, r6, r7, r8⟩ := h.R.1
  obtain ⟨m0, m1, m2, m3, m4, m5, m6, m7, m8⟩ := h.M.1
  obtain ⟨l, t, hl, t1, t2, -⟩ := h.2.2.1
  unfold gL_count gM_count
  rw [m_in08, Option.bind_some, bz_if, c_kept h, m_kept, r0, r1, r2, r3, r4, r5, r6, r7, r8, t1, t2]
  by_cases g2 : 0 ≤ v1.toInt ∧ v1.toInt < (9 : Nat)
  · rw [if_pos g2]
    obtain ⟨k, hk, rfl⟩ := of_in g2
    rw [rd_n (by omega) (by omega)]
    match k, hk with
    | 0, _ => rw [m0]; exact ⟨_, rfl, rfl⟩
    | 1, _ => rw [m1]; exact ⟨_, rfl, rfl⟩
    | 2, _ => rw [m2]; exact ⟨_, rfl, rfl⟩
    | 3, _ => rw [m3]; exact ⟨_, rfl, rfl⟩
    | 4, _ => rw [m4]; exact ⟨_, rfl, rfl⟩
    | 5, _ => rw [m5]; exact ⟨_, rfl, rfl⟩
    | 6, _ => rw [m6]; exact ⟨_, rfl, rfl⟩
    | 7, _ => rw [m7]; exact ⟨_, rfl, rfl⟩
    | 8, _ => rw [m8]; exact ⟨_, rfl, rfl⟩
  · rw [if_neg g2, if_neg (show ¬ v1 = (0 : Int32) from lit_ne (k := 0) g2 (by omega) (by omega)), if_neg (show ¬ v1 = (1 : Int32) from lit_ne (k := 1) g2 (by omega) (by omega)), if_neg (show ¬ v1 = (2 : Int32) from lit_ne (k := 2) g2 (by omega) (by omega)), if_neg (show ¬ v1 = (3 : Int32) from lit_ne (k := 3) g2 (by omega) (by omega)), if_neg (show ¬ v1 = (4 : Int32) from lit_ne (k := 4) g2 (by omega) (by omega)), if_neg (show ¬ v1 = (5 : Int32) from lit_ne (k := 5) g2 (by omega) (by omega)), if_neg (show ¬ v1 = (6 : Int32) from lit_ne (k := 6) g2 (by omega) (by omega)), if_neg (show ¬ v1 = (7 : Int32) from lit_ne (k := 7) g2 (by omega) (by omega)), if_neg (show ¬ v1 = (8 : Int32) from lit_ne (k := 8) g2 (by omega) (by omega))]
    by_cases h9 : v1 = 9
    · rw [if_pos h9]; exact ⟨_, rfl, rfl⟩
    · rw [if_neg h9]
      by_cases h10 : v1 = 10
      · rw [if_pos h10]; exact ⟨_, rfl, rfl⟩
      · rw [if_neg h10]; exact ⟨_, rfl, rfl⟩
end A4
