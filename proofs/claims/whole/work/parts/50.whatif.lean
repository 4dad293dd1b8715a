/-! WHAT IF: clear, by, handicap, start, key, lure, spoils -/
theorem wh_1 {S R : Type} {f : S → Option (S ⊕ R)} {q : S} {r : R} (h : f q = some (.inr r)) : wh FU f q = some r := by
  obtain ⟨n, hn⟩ : ∃ n, FU = n + 1 := ⟨99999, rfl⟩
  rw [hn]
  unfold wh
  rw [h]
  rfl
theorem wh_acc {f : Int32 × Int32 × mT → Option ((Int32 × Int32 × mT) ⊕ (Int32 × mT))} (I : mT → Prop) (ac : Nat → Int32) (n : Nat) (hs : ∀ k, k < n → ∀ s, I s → ∃ s', f (ac k, nI k, s) = some (.inl (ac (k + 1), nI (k + 1), s')) ∧ I s') (he : ∀ s, I s → ∃ s', f (ac n, nI n, s) = some (.inr (ac n, s')) ∧ I s') {s : mT} (h0 : I s) (hn : n < FU) : ∃ s', wh FU f (ac 0, (0 : Int32), s) = some (ac n, s') ∧ I s' := by
  have := wh_inv (f := f) (fun k q => q.1 = ac k ∧ q.2.1 = nI k ∧ I q.2.2) (fun r => r.1 = ac n ∧ I r.2) n (fun k hk q hq => by
    obtain ⟨a, i, s⟩ := q
    obtain ⟨h1, h2, h3⟩ := hq
    dsimp only at h1 h2 h3
    subst h1 h2
    obtain ⟨s', h4, h5⟩ := hs k hk s h3
    exact ⟨_, h4, rfl, rfl, h5⟩) (fun q hq => by
    obtain ⟨a, i, s⟩ := q
    obtain ⟨h1, h2, h3⟩ := hq
    dsimp only at h1 h2 h3
    subst h1 h2
    obtain ⟨s', h4, h5⟩ := he s h3
    exact ⟨_, h4, rfl, h5⟩) (q := (ac 0, (0 : Int32), s)) ⟨rfl, rfl, h0⟩ FU hn
  obtain ⟨⟨a, s'⟩, h1, h2, h3⟩ := this
  dsimp only at h2 h3
  subst h2
  exact ⟨s', h1, h3⟩
theorem wh_fs2 {f : Int32 × Int32 × mT → Option ((Int32 × Int32 × mT) ⊕ (Int32 × mT))} (p : Nat → Bool) (I : mT → Prop) (m : Nat) : ∀ a, (∀ k, a ≤ k → k < a + m → ∀ s, I s → ∃ s', f (-1, nI k, s) = some (.inl (if p k = true then nI k else -1, nI (k + 1), s')) ∧ I s') → (∀ k, a ≤ k → k < a + m → ∀ s, I s → f (nI k, nI (k + 1), s) = some (.inr (nI k, s))) → (∀ s, I s → f (-1, nI (a + m), s) = some (.inr (-1, s))) → ∀ s, I s → ∀ fuel, m + 1 < fuel → ∃ s', wh fuel f (-1, nI a, s) = some (oz (ffN p m a), s') ∧ I s' := by
  induction m with
  | zero =>
    intro a _ _ he s hI fuel hf
    obtain ⟨j, rfl⟩ : ∃ j, fuel = j + 1 := ⟨fuel - 1, by omega⟩
    refine ⟨s, ?_, hI⟩
    unfold wh
    have := he s hI
    rw [Nat.add_zero] at this
    rw [this]
    rfl
  | succ m ih =>
    intro a h1 h2 he s hI fuel hf
    obtain ⟨j, rfl⟩ : ∃ j, fuel = j + 1 := ⟨fuel - 1, by omega⟩
    obtain ⟨s', g1, g2⟩ := h1 a (Nat.le_refl _) (by omega) s hI
    unfold ffN
    cases hp : p a with
    | true =>
      rw [if_pos rfl]
      rw [hp, if_pos rfl] at g1
      refine ⟨s', ?_, g2⟩
      obtain ⟨i, rfl⟩ : ∃ i, j = i + 1 := ⟨j - 1, by omega⟩
      unfold wh
      rw [g1]
      show wh (i + 1) f (nI a, nI (a + 1), s') = _
      unfold wh
      rw [h2 a (Nat.le_refl _) (by omega) s' g2]
      rfl
    | false =>
      rw [if_neg (by decide)]
      rw [hp, if_neg (by decide)] at g1
      obtain ⟨s2, g3, g4⟩ := ih (a + 1) (fun k hk hk2 => h1 k (by omega) (by omega)) (fun k hk hk2 => h2 k (by omega) (by omega)) (fun s hs => by
        rw [show a + 1 + m = a + (m + 1) by omega]
        exact he s hs) s' g2 j (by omega)
      refine ⟨s2, ?_, g4⟩
      unfold wh
      rw [g1]
      exact g3
theorem oz_ite {α : Type} {x : Option Nat} {b : Nat} (hx : ∀ n, x = some n → n < 2 ^ 31) (hb : b < 2 ^ 31) {A B : α} : (if oz x = nI b then A else B) = if x = some b then A else B := by
  by_cases h : x = some b
  · rw [if_pos h, if_pos (by rw [h]; rfl)]
  · rw [if_neg h, if_neg (by rw [oz_iff hx hb]; exact h)]
theorem oz_ite2 {α : Type} {x y : Option Nat} (hx : ∀ n, x = some n → n < 2 ^ 31) (hy : ∀ n, y = some n → n < 2 ^ 31) {A B : α} : (if oz x = oz y then A else B) = if x = y then A else B := by
  by_cases h : x = y
  · rw [if_pos h, if_pos (by rw [h])]
  · rw [if_neg h, if_neg (by rw [oz_inj hx hy]; exact h)]
theorem upN_self (f : Nat → Nat) (b : Nat) : upN f b (f b) = f := by
  funext i
  unfold upN
  by_cases h : i = b
  · rw [if_pos h, h]
  · rw [if_neg h]
theorem pow_bit (w i : Nat) : decide (2 ^ w / 2 ^ i % 2 = 1) = decide (i = w) := by
  rw [← Nat.testBit_eq_decide_div_mod_eq, Nat.testBit_two_pow]
  by_cases h : w = i
  · rw [decide_eq_true h, decide_eq_true h.symm]
  · rw [decide_eq_false h, decide_eq_false (fun z => h z.symm)]
/-- who wins by a setup -/
abbrev wnT (D : RD) (T : SU) : Option Nat := winO (D 0 0) (D 5 0) (D 2 0) (rP D T)
section WI
variable {n w b k c lw m v : Nat} {s s' : mT} {D : RD} {xs : Nat → Int32} {T : SU} {st nd fo lu : Nat → Nat} {sl : Nat → Nat → Bool}
theorem wn31 (h : IV xs D s) : ∀ n, wnT D T = some n → n < 2 ^ 31 := fun n hn => by have := winO_lt hn; have := h.bd; omega
theorem IV.lay {v : Int32} {ex : Nat → Bool} (h : IV xs D s) (hP : MPB D lw st nd fo lu m s) (hex : ∀ k, k < D 7 0 → (nI k = v ↔ ex k = true)) : ∃ s', gM_layShows v s = some s' ∧ IV xs D s' ∧ MPB D lw st nd fo (luN D ex (D 7 0)) m s' := by
  obtain ⟨s', f1, f2, f3⟩ := layShows_is h.V h.M hex
  obtain ⟨q1, q2, q3, q4, q5⟩ := hP
  refine ⟨s', f1, h.kp (KP.of f2 (fun a k z => by unfold pS at z; unfold pK; omega)), ?_⟩
  refine ⟨by rw [f2.1 294 19 (by unfold pS; omega)]; exact q1, fun i hi => by rw [f2.1 301 i (by unfold pS; omega), f2.1 302 i (by unfold pS; omega)]; exact q2 i hi, fun w hw => by rw [f2.1 303 w (by unfold pS; omega)]; exact q3 w hw, fun n hn => ⟨f3 n hn, luN_le h.V _ (Nat.le_refl _)⟩, by rw [f2.1 294 20 (by unfold pS; omega)]; exact q5⟩
theorem a_clear (v1 : Int32) : AS (gL_clear v1) (gM_clear v1) := AS_of fun xs D s h => by
  have hd := h.bd
  have hin : ∀ t, IV xs D t → (rdI (t.1 295) 79 (6 : Int32) = some (nI (D 7 0)) ∧ gM_in v1.toInt64 (0 : Int64) ((nI (D 7 0) - (1 : Int32)).toInt64) t = some (bz (decide (0 ≤ v1.toInt ∧ v1.toInt < (D 7 0 : Int))))) := fun t ht => by
    refine ⟨(rd_n (k := 6) (by omega) (by omega)).trans (congrArg some ht.M.1.2.2.2.2.2.2.1), ?_⟩
    rw [m_in, pred_l (by omega), Int32.toInt_toInt64, show (0 : Int64).toInt = 0 from rfl]
    simp only [show (0 ≤ v1.toInt ∧ v1.toInt ≤ (D 7 0 : Int) - 1) = (0 ≤ v1.toInt ∧ v1.toInt < (D 7 0 : Int)) from propext (by omega)]
  unfold gL_clear
  rw [h.hasSh, Option.bind_some, bz_if]
  by_cases g : 0 ≤ v1.toInt ∧ v1.toInt < (D 7 0 : Int)
  · obtain ⟨k, hk, e1⟩ := of_in g
    have hex : ∀ i, i < D 7 0 → (nI i = v1 ↔ (fun i => decide (i = k)) i = true) := fun i hi => by
      rw [e1, nI_eq (by omega) (by omega)]; exact dt
    obtain ⟨s1, f1, f2, f3, f4⟩ := h.prepW (v := v1) hex
    obtain ⟨s2, f5, f6, f7, f8, -⟩ := f3.win f4 h.V.1.2.1
    refine ⟨oz (wnT D (tX D (D 1 0) (D 9) (D 10) (D 14) (fun n w => shK D (fun i => decide (i = k)) (D 7 0) n w))), s2, ?_, f2.tr f6, fun t ht => ?_⟩
    · rw [if_pos g, f1, Option.bind_some, f5, Option.bind_some]
    · obtain ⟨t1, y1, y2, y3, y4⟩ := ht.asIs
      obtain ⟨t2, z1, z2, z3⟩ := y3.lay (v := v1) y4 hex
      obtain ⟨t3, x1, x2, x3, x4, x5⟩ := z2.go z3 (s0_0 h.V)
      refine ⟨t3, ?_, x3⟩
      unfold gM_clear
      rw [y1, Option.bind_some, (hin t1 y3).1, Option.bind_some, (hin t1 y3).2, Option.bind_some, bz_if, if_pos g, z1, Option.bind_some, x1, Option.bind_some, mq_win x5, Option.bind_some]
  · refine ⟨-2, s, by rw [if_neg g], KP.rfl', fun t ht => ?_⟩
    obtain ⟨t1, y1, y2, y3, y4⟩ := ht.asIs
    refine ⟨t1, ?_, y3⟩
    unfold gM_clear
    rw [y1, Option.bind_some, (hin t1 y3).1, Option.bind_some, (hin t1 y3).2, Option.bind_some, bz_if, if_neg g]
theorem a_by (v1 : Int32) : AS (gL_by v1) (gM_by v1) := AS_of fun xs D s h => by
  have hd := h.bd
  unfold gL_by
  rw [h.ex, Option.bind_some, bz_if]
  by_cases g0 : 0 < D 4 0
  · rw [if_pos g0]
    by_cases g : 0 ≤ v1.toInt ∧ v1.toInt < (4 : Nat)
    · obtain ⟨k, hk, rfl⟩ := of_in g
      obtain ⟨s1, f1, f2, f3, f4⟩ := h.prep
      have f4' := f4.wlw (l2 := k) h.V
      obtain ⟨s2, f5, f6, f7, f8, -⟩ := (f3.wr (a := 121) (k := 1) (x := nI k) (by unfold pK; omega)).win f4' (show k ≤ 3 by omega)
      refine ⟨oz (wnT D (tX D k (D 9) (D 10) (D 14) (sh0 D))), s2, ?_, (f2.tr (KP.st (by unfold pK; omega))).tr f6, fun t ht => ?_⟩
      · rw [if_neg (nI_pos (by omega)), if_pos (show nI k < (4 : Int32) from nI_lt (b := 4) hk (by omega)), f1, Option.bind_some, f5, Option.bind_some]
      · obtain ⟨t1, y1, y2, y3, y4, y5⟩ := ht.asks
        have y4' := y4.wlw (l2 := k) (by omega)
        obtain ⟨t3, x1, x2, x3, x4, x5⟩ := (y3.wr (a := 294) (k := 19) (x := nI k) (by unfold pK; omega)).go y4' (s0_0 h.V)
        refine ⟨t3, ?_, x3⟩
        unfold gM_by
        rw [y1, Option.bind_some, bz_if, if_pos g0]
        unfold gM_isLaw
        rw [m_in03, Option.bind_some, bz_ite, Option.bind_some, bz_if, if_pos g]
        unfold gM_winsBy
        rw [x1, Option.bind_some, mq_win x5, Option.bind_some, Option.bind_some, Option.bind_some]
    · refine ⟨-2, s, ?_, KP.rfl', fun t ht => ?_⟩
      · by_cases h1 : v1 < 0
        · rw [if_pos h1]
        · rw [if_neg h1, if_neg (fun z => g ?_)]
          rw [i_lt0] at h1
          rw [Int32.lt_iff_toInt_lt, show (4 : Int32).toInt = 4 from rfl] at z
          omega
      · obtain ⟨t1, y1, y2, y3, y4, y5⟩ := ht.asks
        refine ⟨t1, ?_, y3⟩
        unfold gM_by
        rw [y1, Option.bind_some, bz_if, if_pos g0]
        unfold gM_isLaw
        rw [m_in03, Option.bind_some, bz_ite, Option.bind_some, bz_if, if_neg g, Option.bind_some]
  · refine ⟨-2, s, by rw [if_neg g0], KP.rfl', fun t ht => ?_⟩
    obtain ⟨t1, y1, y2, y3, y4, y5⟩ := ht.asks
    refine ⟨t1, ?_, y3⟩
    unfold gM_by
    rw [y1, Option.bind_some, bz_if, if_neg g0, Option.bind_some]
/-! handicap, start -/
theorem c_handicap (h : IV xs D s) (hb : b < D 5 0) : ∃ s', gL_handicap (nI b) s = some (oz (ffN (fun v => decide (¬ wnT D (tX D (D 1 0) (D 9) (upN (D 10) b v) (D 14) (sh0 D)) = some b)) 9 1), s') ∧ KP s s' := by
  have hd := h.bd
  obtain ⟨s1, f1, f2, f3, f4⟩ := h.prep
  have key : ∀ k, 1 ≤ k → k < 1 + 9 → ∀ t, (KP s t ∧ IV xs D t ∧ ∃ nd, PR 121 D (tX D (D 1 0) (D 9) nd (D 14) (sh0 D)) t ∧ ∀ v, upN nd b v = upN (D 10) b v) → ∃ t', (KP s t' ∧ IV xs D t' ∧ ∃ nd, PR 121 D (tX D (D 1 0) (D 9) nd (D 14) (sh0 D)) t' ∧ ∀ v, upN nd b v = upN (D 10) b v) ∧ gL_handicap_h24 (nI b) (nI k, t) = if oz (wnT D (tX D (D 1 0) (D 9) (upN (D 10) b k) (D 14) (sh0 D))) = nI b then some (.inl (nI (k + 1), t')) else some (.inr (nI k, t')) := fun k h1 hk t ⟨i1, i2, nd, i3, i4⟩ => by
    have i3' := i3.wnd (b := b) (v := k) h1 (by omega) h.V
    rw [i4 k] at i3'
    obtain ⟨t2, x1, x2, x3, x4, -⟩ := (i2.wr (a := 123) (k := b) (x := nI k) (by unfold pK; omega)).win i3' h.V.1.2.1
    refine ⟨t2, ⟨(i1.tr (KP.st (by unfold pK; omega))).tr x2, x3, _, x4, fun v => upN_up _ _ _ _⟩, ?_⟩
    unfold gL_handicap_h24
    dsimp only
    rw [show (9 : Int32) = nI 9 from rfl, if_neg (nlt (by omega) (by omega) (by omega)), wr_n (by omega) (by omega), Option.bind_some, x1, Option.bind_some, nI_1]
  obtain ⟨⟨r, s2⟩, g1, g2, g3⟩ := wh_fs (f := gL_handicap_h24 (nI b)) (fun v => decide (¬ wnT D (tX D (D 1 0) (D 9) (upN (D 10) b v) (D 14) (sh0 D)) = some b)) (fun t => KP s t ∧ IV xs D t ∧ ∃ nd, PR 121 D (tX D (D 1 0) (D 9) nd (D 14) (sh0 D)) t ∧ ∀ v, upN nd b v = upN (D 10) b v) (fun o r => r.1 = oz o ∧ KP s r.2) 9 1 (fun k h1 hk t hI hp => by
    obtain ⟨t', j1, j2⟩ := key k h1 hk t hI
    rw [oz_ite (wn31 h) (by omega), if_neg (of_decide_eq_true hp)] at j2
    exact ⟨_, j2, rfl, j1.1⟩) (fun k h1 hk t hI hp => by
    obtain ⟨t', j1, j2⟩ := key k h1 hk t hI
    rw [oz_ite (wn31 h) (by omega), if_pos (Classical.not_not.mp (of_decide_eq_false hp))] at j2
    exact ⟨_, j2, j1⟩) (fun t hI => ⟨_, rfl, rfl, hI.1⟩) s1 ⟨f2, f3, _, f4, fun v => rfl⟩ FU (FU_gt (by omega))
  dsimp only at g2 g3
  subst g2
  refine ⟨s2, ?_, g3⟩
  unfold gL_handicap
  rw [h.hasB, Option.bind_some, bz_if, if_pos (in_of hb (by omega)), f1, Option.bind_some]
  exact g1
theorem m_handicap (h : IV xs D s) (hb : b < D 5 0) : ∃ s', gM_handicap (nI b) s = some (oz (ffN (fun v => decide (¬ wnT D (tX D (D 1 0) (D 9) (upN (D 10) b v) (D 14) (sh0 D)) = some b)) 9 1), s') ∧ IV xs D s' := by
  have hd := h.bd
  obtain ⟨s1, f1, f2, f3, f4, f5⟩ := h.asksB (v := nI b)
  have key : ∀ k, 1 ≤ k → k < 1 + 9 → ∀ t, (IV xs D t ∧ ∃ nd, MPB D (D 1 0) (D 9) nd (D 14) (luN D (fun _ => false) (D 7 0)) 0 t ∧ ∀ v, upN nd b v = upN (D 10) b v) → ∃ t', (IV xs D t' ∧ ∃ nd, MPB D (D 1 0) (D 9) nd (D 14) (luN D (fun _ => false) (D 7 0)) 0 t' ∧ ∀ v, upN nd b v = upN (D 10) b v) ∧ gM_handicap_h13 (nI b) (nI k, t) = if oz (wnT D (tX D (D 1 0) (D 9) (upN (D 10) b k) (D 14) (sh0 D))) = nI b then some (.inl (nI (k + 1), t')) else some (.inr (nI k, t')) := fun k h1 hk t ⟨i2, nd, i3, i4⟩ => by
    have i3' := i3.wnd (b := b) (v := k) h1 (by omega)
    rw [i4 k] at i3'
    obtain ⟨t2, x1, x2, x3, x4, x5⟩ := (i2.wr (a := 302) (k := b) (x := nI k) (by unfold pK; omega)).go i3' (s0_0 h.V)
    refine ⟨t2, ⟨x3, _, x4, fun v => upN_up _ _ _ _⟩, ?_⟩
    unfold gM_handicap_h13
    dsimp only
    rw [show (9 : Int32) = nI 9 from rfl, if_neg (nlt (by omega) (by omega) (by omega)), wr_n (by omega) (by omega), Option.bind_some, x1, Option.bind_some, mq_win x5, Option.bind_some, nI_1]
  obtain ⟨⟨r, s2⟩, g1, g2, g3⟩ := wh_fs (f := gM_handicap_h13 (nI b)) (fun v => decide (¬ wnT D (tX D (D 1 0) (D 9) (upN (D 10) b v) (D 14) (sh0 D)) = some b)) (fun t => IV xs D t ∧ ∃ nd, MPB D (D 1 0) (D 9) nd (D 14) (luN D (fun _ => false) (D 7 0)) 0 t ∧ ∀ v, upN nd b v = upN (D 10) b v) (fun o r => r.1 = oz o ∧ IV xs D r.2) 9 1 (fun k h1 hk t hI hp => by
    obtain ⟨t', j1, j2⟩ := key k h1 hk t hI
    rw [oz_ite (wn31 h) (by omega), if_neg (of_decide_eq_true hp)] at j2
    exact ⟨_, j2, rfl, j1.1⟩) (fun k h1 hk t hI hp => by
    obtain ⟨t', j1, j2⟩ := key k h1 hk t hI
    rw [oz_ite (wn31 h) (by omega), if_pos (Classical.not_not.mp (of_decide_eq_false hp))] at j2
    exact ⟨_, j2, j1⟩) (fun t hI => ⟨_, rfl, rfl, hI.1⟩) s1 ⟨f3, _, f4, fun v => rfl⟩ FU (FU_gt (by omega))
  dsimp only at g2 g3
  subst g2
  refine ⟨s2, ?_, g3⟩
  unfold gM_handicap
  rw [f1, Option.bind_some, bz_if, if_pos (in_of hb (by omega))]
  exact g1
theorem a_handicap (v1 : Int32) : AS (gL_handicap v1) (gM_handicap v1) := AS_of fun xs D s h => by
  have hd := h.bd
  by_cases g : 0 ≤ v1.toInt ∧ v1.toInt < (D 5 0 : Int)
  · obtain ⟨b, hb, rfl⟩ := of_in g
    obtain ⟨s1, f1, f2⟩ := c_handicap h hb
    exact ⟨_, s1, f1, f2, fun t ht => m_handicap ht hb⟩
  · refine ⟨-2, s, by unfold gL_handicap; rw [h.hasB, Option.bind_some, bz_if, if_neg g], KP.rfl', fun t ht => ?_⟩
    obtain ⟨t1, y1, y2, y3, y4, y5⟩ := ht.asksB (v := v1)
    exact ⟨t1, by unfold gM_handicap; rw [y1, Option.bind_some, bz_if, if_neg g], y3⟩
theorem c_start (h : IV xs D s) (hb : b < D 5 0) : ∃ s', gL_start (nI b) s = some (oz (ffN (fun v => decide (wnT D (tX D (D 1 0) (upN (D 9) b v) (D 10) (D 14) (sh0 D)) = some b)) 31 0), s') ∧ KP s s' := by
  have hd := h.bd
  obtain ⟨s1, f1, f2, f3, f4⟩ := h.prep
  have key : ∀ k, 0 ≤ k → k < 0 + 31 → ∀ t, (KP s t ∧ IV xs D t ∧ ∃ st, PR 121 D (tX D (D 1 0) st (D 10) (D 14) (sh0 D)) t ∧ ∀ v, upN st b v = upN (D 9) b v) → ∃ t', (KP s t' ∧ IV xs D t' ∧ ∃ st, PR 121 D (tX D (D 1 0) st (D 10) (D 14) (sh0 D)) t' ∧ ∀ v, upN st b v = upN (D 9) b v) ∧ gL_start_h24 (nI b) (nI k, t) = if oz (wnT D (tX D (D 1 0) (upN (D 9) b k) (D 10) (D 14) (sh0 D))) = nI b then some (.inr (nI k, t')) else some (.inl (nI (k + 1), t')) := fun k h1 hk t ⟨i1, i2, st, i3, i4⟩ => by
    have i3' := i3.wst (b := b) (v := k) (by omega) h.V
    rw [i4 k] at i3'
    obtain ⟨t2, x1, x2, x3, x4, -⟩ := (i2.wr (a := 122) (k := b) (x := nI k) (by unfold pK; omega)).win i3' h.V.1.2.1
    refine ⟨t2, ⟨(i1.tr (KP.st (by unfold pK; omega))).tr x2, x3, _, x4, fun v => upN_up _ _ _ _⟩, ?_⟩
    unfold gL_start_h24
    dsimp only
    rw [show (30 : Int32) = nI 30 from rfl, if_neg (nlt (by omega) (by omega) (by omega)), wr_n (by omega) (by omega), Option.bind_some, x1, Option.bind_some, nI_1]
  obtain ⟨⟨r, s2⟩, g1, g2, g3⟩ := wh_fs (f := gL_start_h24 (nI b)) (fun v => decide (wnT D (tX D (D 1 0) (upN (D 9) b v) (D 10) (D 14) (sh0 D)) = some b)) (fun t => KP s t ∧ IV xs D t ∧ ∃ st, PR 121 D (tX D (D 1 0) st (D 10) (D 14) (sh0 D)) t ∧ ∀ v, upN st b v = upN (D 9) b v) (fun o r => r.1 = oz o ∧ KP s r.2) 31 0 (fun k h1 hk t hI hp => by
    obtain ⟨t', j1, j2⟩ := key k h1 hk t hI
    rw [oz_ite (wn31 h) (by omega), if_pos (of_decide_eq_true hp)] at j2
    exact ⟨_, j2, rfl, j1.1⟩) (fun k h1 hk t hI hp => by
    obtain ⟨t', j1, j2⟩ := key k h1 hk t hI
    rw [oz_ite (wn31 h) (by omega), if_neg (of_decide_eq_false hp)] at j2
    exact ⟨_, j2, j1⟩) (fun t hI => ⟨_, rfl, rfl, hI.1⟩) s1 ⟨f2, f3, _, f4, fun v => rfl⟩ FU (FU_gt (by omega))
  dsimp only at g2 g3
  subst g2
  refine ⟨s2, ?_, g3⟩
  unfold gL_start
  rw [h.hasB, Option.bind_some, bz_if, if_pos (in_of hb (by omega)), f1, Option.bind_some]
  exact g1
theorem m_start (h : IV xs D s) (hb : b < D 5 0) : ∃ s', gM_start (nI b) s = some (oz (ffN (fun v => decide (wnT D (tX D (D 1 0) (upN (D 9) b v) (D 10) (D 14) (sh0 D)) = some b)) 31 0), s') ∧ IV xs D s' := by
  have hd := h.bd
  obtain ⟨s1, f1, f2, f3, f4, f5⟩ := h.asksB (v := nI b)
  have key : ∀ k, 0 ≤ k → k < 0 + 31 → ∀ t, (IV xs D t ∧ ∃ st, MPB D (D 1 0) st (D 10) (D 14) (luN D (fun _ => false) (D 7 0)) 0 t ∧ ∀ v, upN st b v = upN (D 9) b v) → ∃ t', (IV xs D t' ∧ ∃ st, MPB D (D 1 0) st (D 10) (D 14) (luN D (fun _ => false) (D 7 0)) 0 t' ∧ ∀ v, upN st b v = upN (D 9) b v) ∧ gM_start_h13 (nI b) (nI k, t) = if oz (wnT D (tX D (D 1 0) (upN (D 9) b k) (D 10) (D 14) (sh0 D))) = nI b then some (.inr (nI k, t')) else some (.inl (nI (k + 1), t')) := fun k h1 hk t ⟨i2, st, i3, i4⟩ => by
    have i3' := i3.wst (b := b) (v := k) (by omega)
    rw [i4 k] at i3'
    obtain ⟨t2, x1, x2, x3, x4, x5⟩ := (i2.wr (a := 301) (k := b) (x := nI k) (by unfold pK; omega)).go i3' (s0_0 h.V)
    refine ⟨t2, ⟨x3, _, x4, fun v => upN_up _ _ _ _⟩, ?_⟩
    unfold gM_start_h13
    dsimp only
    rw [show (30 : Int32) = nI 30 from rfl, if_neg (nlt (by omega) (by omega) (by omega)), wr_n (by omega) (by omega), Option.bind_some, x1, Option.bind_some, mq_win x5, Option.bind_some, nI_1]
  obtain ⟨⟨r, s2⟩, g1, g2, g3⟩ := wh_fs (f := gM_start_h13 (nI b)) (fun v => decide (wnT D (tX D (D 1 0) (upN (D 9) b v) (D 10) (D 14) (sh0 D)) = some b)) (fun t => IV xs D t ∧ ∃ st, MPB D (D 1 0) st (D 10) (D 14) (luN D (fun _ => false) (D 7 0)) 0 t ∧ ∀ v, upN st b v = upN (D 9) b v) (fun o r => r.1 = oz o ∧ IV xs D r.2) 31 0 (fun k h1 hk t hI hp => by
    obtain ⟨t', j1, j2⟩ := key k h1 hk t hI
    rw [oz_ite (wn31 h) (by omega), if_pos (of_decide_eq_true hp)] at j2
    exact ⟨_, j2, rfl, j1.1⟩) (fun k h1 hk t hI hp => by
    obtain ⟨t', j1, j2⟩ := key k h1 hk t hI
    rw [oz_ite (wn31 h) (by omega), if_neg (of_decide_eq_false hp)] at j2
    exact ⟨_, j2, j1⟩) (fun t hI => ⟨_, rfl, rfl, hI.1⟩) s1 ⟨f3, _, f4, fun v => rfl⟩ FU (FU_gt (by omega))
  dsimp only at g2 g3
  subst g2
  refine ⟨s2, ?_, g3⟩
  unfold gM_start
  rw [f1, Option.bind_some, bz_if, if_pos (in_of hb (by omega))]
  exact g1
theorem a_start (v1 : Int32) : AS (gL_start v1) (gM_start v1) := AS_of fun xs D s h => by
  have hd := h.bd
  by_cases g : 0 ≤ v1.toInt ∧ v1.toInt < (D 5 0 : Int)
  · obtain ⟨b, hb, rfl⟩ := of_in g
    obtain ⟨s1, f1, f2⟩ := c_start h hb
    exact ⟨_, s1, f1, f2, fun t ht => m_start ht hb⟩
  · refine ⟨-2, s, by unfold gL_start; rw [h.hasB, Option.bind_some, bz_if, if_neg g], KP.rfl', fun t ht => ?_⟩
    obtain ⟨t1, y1, y2, y3, y4, y5⟩ := ht.asksB (v := v1)
    exact ⟨t1, by unfold gM_start; rw [y1, Option.bind_some, bz_if, if_neg g], y3⟩
end WI
