/-! WHAT IF: key, lure, spoils; COVER -/
section WJ
variable {n w b k c lw m v : Nat} {s s' : mT} {D : RD} {xs : Nat → Int32} {T : SU} {st nd fo lu : Nat → Nat} {sl : Nat → Nat → Bool}
abbrev kyT (D : RD) (w : Nat) : SU := tX D (D 1 0) (D 9) (D 10) (D 14) (huS (sh0 D) (fun i => decide (i = w)))
theorem c_key (h : IV xs D s) {wo : Option Nat} (hwo : ∀ n, wo = some n → n < 2 ^ 31) : ∃ s', wh FU (gL_key_h30 (oz wo)) ((0 : Int32), s) = some (oz (ffN (fun w => decide (¬ wnT D (kyT D w) = wo)) (D 6 0) 0), s') ∧ KP s s' := by
  have hd := h.bd
  have key : ∀ k, k < D 6 0 → ∀ t, (KP s t ∧ IV xs D t) → ∃ t', (KP s t' ∧ IV xs D t') ∧ gL_key_h30 (oz wo) (nI k, t) = if oz (wnT D (kyT D k)) = oz wo then some (.inl (nI (k + 1), t')) else some (.inr (nI k, t')) := fun k hk t ⟨i1, i2⟩ => by
    obtain ⟨s1, f1, f2, f3, f4⟩ := i2.prep
    obtain ⟨s2, g1, g2, g3, g4⟩ := f3.hush (x := (1 : Int32) <<< (nI k &&& 31)) (as := fun i => decide (i = k)) f4 (fun p => clr_b (by omega))
    obtain ⟨t2, x1, x2, x3, x4, -⟩ := g3.win g4 h.V.1.2.1
    refine ⟨t2, ⟨i1.tr (f2.tr (g2.tr x2)), x3⟩, ?_⟩
    unfold gL_key_h30
    dsimp only
    rw [i2.W, if_neg (nle (by omega) (by omega) (by omega)), f1, Option.bind_some, g1, Option.bind_some, x1, Option.bind_some, nI_1]
  obtain ⟨⟨r, s2⟩, g1, g2, g3⟩ := wh_fs (f := gL_key_h30 (oz wo)) (fun w => decide (¬ wnT D (kyT D w) = wo)) (fun t => KP s t ∧ IV xs D t) (fun o r => r.1 = oz o ∧ KP s r.2) (D 6 0) 0 (fun k h1 hk t hI hp => by
    obtain ⟨t', j1, j2⟩ := key k (by omega) t hI
    rw [oz_ite2 (wn31 h) hwo, if_neg (of_decide_eq_true hp)] at j2
    exact ⟨_, j2, rfl, j1.1⟩) (fun k h1 hk t hI hp => by
    obtain ⟨t', j1, j2⟩ := key k (by omega) t hI
    rw [oz_ite2 (wn31 h) hwo, if_pos (Classical.not_not.mp (of_decide_eq_false hp))] at j2
    exact ⟨_, j2, j1⟩) (fun t hI => by
    refine ⟨(-1, t), ?_, rfl, hI.1⟩
    unfold gL_key_h30
    dsimp only
    rw [hI.2.W, if_pos (nI_le (by omega) (by omega))]) s ⟨KP.rfl', h⟩ FU (FU_gt (by omega))
  dsimp only at g2 g3
  subst g2
  exact ⟨s2, g1, g3⟩
theorem m_key (h : IV xs D s) (hP : MPB D (D 1 0) (D 9) (D 10) (D 14) (luN D (fun _ => false) (D 7 0)) m s) {c : Nat} (hc : c < 2 ^ 31) : ∃ s', wh FU (gM_key_h17 (nI c)) ((0 : Int32), s) = some (oz (ffN (fun w => decide (¬ wnT D (kyT D w) = some c)) (D 6 0) 0), s') ∧ IV xs D s' := by
  have hd := h.bd
  have hW : ∀ t, IV xs D t → rdI (t.1 295) 79 (5 : Int32) = some (nI (D 6 0)) := fun t ht => (rd_n (k := 5) (by omega) (by omega)).trans (congrArg some ht.M.1.2.2.2.2.2.1)
  have key : ∀ k, k < D 6 0 → ∀ t, (IV xs D t ∧ ∃ m, MPB D (D 1 0) (D 9) (D 10) (D 14) (luN D (fun _ => false) (D 7 0)) m t) → ∃ t', (IV xs D t' ∧ ∃ m, MPB D (D 1 0) (D 9) (D 10) (D 14) (luN D (fun _ => false) (D 7 0)) m t') ∧ gM_key_h17 (nI c) (nI k, t) = if oz (wnT D (kyT D k)) = nI c then some (.inl (nI (k + 1), t')) else some (.inr (nI k, t')) := fun k hk t ⟨i1, m, i2⟩ => by
    have h2 : 2 ^ k ≤ 2 ^ 5 := Nat.pow_le_pow_right (by omega) (by omega)
    have i3 := i2.wasl (m2 := 2 ^ k) (by omega)
    obtain ⟨t2, x1, x2, x3, x4, x5⟩ := (i1.wr (a := 294) (k := 20) (x := nI (2 ^ k)) (by unfold pK; omega)).go i3 (s0_hu (as := fun i => decide (i = k)) (s0_0 h.V) (fun w _ => (pow_bit k w).symm))
    refine ⟨t2, ⟨x3, _, x4⟩, ?_⟩
    unfold gM_key_h17
    dsimp only
    rw [hW t i1, Option.bind_some, if_neg (nle (by omega) (by omega) (by omega)), if_neg (m1_n hc), sh_1 (by omega), x1, Option.bind_some, mq_win x5, Option.bind_some, nI_1]
  obtain ⟨⟨r, s2⟩, g1, g2, g3⟩ := wh_fs (f := gM_key_h17 (nI c)) (fun w => decide (¬ wnT D (kyT D w) = some c)) (fun t => IV xs D t ∧ ∃ m, MPB D (D 1 0) (D 9) (D 10) (D 14) (luN D (fun _ => false) (D 7 0)) m t) (fun o r => r.1 = oz o ∧ IV xs D r.2) (D 6 0) 0 (fun k h1 hk t hI hp => by
    obtain ⟨t', j1, j2⟩ := key k (by omega) t hI
    rw [oz_ite (wn31 h) hc, if_neg (of_decide_eq_true hp)] at j2
    exact ⟨_, j2, rfl, j1.1⟩) (fun k h1 hk t hI hp => by
    obtain ⟨t', j1, j2⟩ := key k (by omega) t hI
    rw [oz_ite (wn31 h) hc, if_pos (Classical.not_not.mp (of_decide_eq_false hp))] at j2
    exact ⟨_, j2, j1⟩) (fun t hI => by
    refine ⟨(-1, t), ?_, rfl, hI.1⟩
    unfold gM_key_h17
    dsimp only
    rw [hW t hI.1, Option.bind_some, if_pos (nI_le (by omega) (by omega))]) s ⟨h, _, hP⟩ FU (FU_gt (by omega))
  dsimp only at g2 g3
  subst g2
  exact ⟨s2, g1, g3⟩
theorem a_key : AS gL_key gM_key := AS_of fun xs D s h => by
  have hd := h.bd
  unfold gL_key
  rw [h.ex, Option.bind_some, bz_if]
  by_cases g : 0 < D 4 0
  · rw [if_pos g, kC_winner h.cv, Option.bind_some]
    have hw : ∀ t, IV xs D t → ∃ t1, gM_asksRace t = some (bz (decide (0 < D 4 0)), t1) ∧ IV xs D t1 ∧ MPB D (D 1 0) (D 9) (D 10) (D 14) (luN D (fun _ => false) (D 7 0)) 0 t1 ∧ gM_winsOf t1 = some (oz (wnT D (T0 D))) := fun t ht => by
      obtain ⟨t1, y1, y2, y3, y4, y5⟩ := ht.asks
      exact ⟨t1, y1, y3, y4, mq_win (y5 g).1⟩
    cases ho : wnT D (T0 D) with
    | none =>
      refine ⟨-1, s, ?_, KP.rfl', fun t ht => ?_⟩
      · have ho2 : winO (D 0 0) (D 5 0) (D 2 0) (rP D (T0 D)) = none := ho
        rw [ho2, oz_none, if_pos rfl]
      · obtain ⟨t1, y1, y2, y3, y4⟩ := hw t ht
        refine ⟨t1, ?_, y2⟩
        unfold gM_key
        rw [y1, Option.bind_some, bz_if, if_pos g, y4, Option.bind_some, ho]
        refine wh_1 ?_
        have hW : rdI (t1.1 295) 79 (5 : Int32) = some (nI (D 6 0)) := (rd_n (k := 5) (by omega) (by omega)).trans (congrArg some y2.M.1.2.2.2.2.2.1)
        unfold gM_key_h17
        dsimp only
        rw [hW, Option.bind_some, oz_none, if_pos rfl, ite_self]
    | some c =>
      have hc := wn31 h c ho
      have ho2 : winO (D 0 0) (D 5 0) (D 2 0) (rP D (T0 D)) = some c := ho
      obtain ⟨s1, f1, f2⟩ := c_key (wo := some c) h (fun n hn => by cases hn; exact hc)
      refine ⟨oz (ffN (fun w => decide (¬ wnT D (kyT D w) = some c)) (D 6 0) 0), s1, ?_, f2, fun t ht => ?_⟩
      · rw [ho2, oz_some, if_neg (m1_n hc)]
        exact f1
      · obtain ⟨t1, y1, y2, y3, y4⟩ := hw t ht
        obtain ⟨t2, z1, z2⟩ := m_key y2 y3 hc
        refine ⟨t2, ?_, z2⟩
        unfold gM_key
        rw [y1, Option.bind_some, bz_if, if_pos g, y4, Option.bind_some, ho]
        exact z1
  · refine ⟨-2, s, by rw [if_neg g], KP.rfl', fun t ht => ?_⟩
    obtain ⟨t1, y1, y2, y3, y4, y5⟩ := ht.asks
    exact ⟨t1, by unfold gM_key; rw [y1, Option.bind_some, bz_if, if_neg g], y3⟩
/-! lure, spoils -/
abbrev lrT (D : RD) (n v : Nat) : SU := tX D (D 1 0) (D 9) (D 10) (D 14) (drS D (sh0 D) n v)
theorem c_wws (h : IV xs D s) (hn : n ≤ 20) (hv : v ≤ 9) : ∃ s', gL_winnerWithShow (nI n) (nI v) s = some (oz (wnT D (lrT D n v)), s') ∧ KP s s' ∧ IV xs D s' := by
  obtain ⟨s1, f1, f2, f3, f4⟩ := h.prep
  obtain ⟨s2, g1, g2, g3, g4⟩ := f3.draw f4 hn hv
  obtain ⟨s3, x1, x2, x3, x4, -⟩ := g3.win g4 h.V.1.2.1
  refine ⟨s3, ?_, f2.tr (g2.tr x2), x3⟩
  unfold gL_winnerWithShow
  rw [f1, Option.bind_some, g1, Option.bind_some, x1, Option.bind_some]
theorem c_lure (h : IV xs D s) (hn : n < D 0 0) {wo : Option Nat} (hwo : ∀ n, wo = some n → n < 2 ^ 31) : ∃ s', wh FU (gL_lure_h31 (nI n) (oz wo)) ((1 : Int32), s) = some (oz (ffN (fun v => decide (¬ wnT D (lrT D n v) = wo)) 9 1), s') ∧ KP s s' := by
  have hd := h.bd
  have key : ∀ k, 1 ≤ k → k < 1 + 9 → ∀ t, (KP s t ∧ IV xs D t) → ∃ t', (KP s t' ∧ IV xs D t') ∧ gL_lure_h31 (nI n) (oz wo) (nI k, t) = if oz (wnT D (lrT D n k)) = oz wo then some (.inl (nI (k + 1), t')) else some (.inr (nI k, t')) := fun k h1 hk t ⟨i1, i2⟩ => by
    obtain ⟨t2, x1, x2, x3⟩ := c_wws (n := n) (v := k) i2 (by omega) (by omega)
    refine ⟨t2, ⟨i1.tr x2, x3⟩, ?_⟩
    unfold gL_lure_h31
    dsimp only
    rw [show (9 : Int32) = nI 9 from rfl, if_neg (nlt (by omega) (by omega) (by omega)), x1, Option.bind_some, nI_1]
  obtain ⟨⟨r, s2⟩, g1, g2, g3⟩ := wh_fs (f := gL_lure_h31 (nI n) (oz wo)) (fun v => decide (¬ wnT D (lrT D n v) = wo)) (fun t => KP s t ∧ IV xs D t) (fun o r => r.1 = oz o ∧ KP s r.2) 9 1 (fun k h1 hk t hI hp => by
    obtain ⟨t', j1, j2⟩ := key k h1 hk t hI
    rw [oz_ite2 (wn31 h) hwo, if_neg (of_decide_eq_true hp)] at j2
    exact ⟨_, j2, rfl, j1.1⟩) (fun k h1 hk t hI hp => by
    obtain ⟨t', j1, j2⟩ := key k h1 hk t hI
    rw [oz_ite2 (wn31 h) hwo, if_pos (Classical.not_not.mp (of_decide_eq_false hp))] at j2
    exact ⟨_, j2, j1⟩) (fun t hI => ⟨_, rfl, rfl, hI.1⟩) s ⟨KP.rfl', h⟩ FU (FU_gt (by omega))
  dsimp only at g2 g3
  subst g2
  exact ⟨s2, g1, g3⟩
theorem m_lureOf (h : IV xs D s) (hP : MPB D (D 1 0) (D 9) (D 10) (D 14) (luN D (fun _ => false) (D 7 0)) 0 s) (hn : n < D 0 0) {wo : Option Nat} (hwo : ∀ n, wo = some n → n < 2 ^ 31) {a : Nat} (ha : 1 ≤ a ∧ a ≤ 9) : ∃ s', gM_lureOf (nI n) (oz wo) (nI a) s = some (oz (ffN (fun v => decide (¬ wnT D (lrT D n v) = wo)) (10 - a) a), s') ∧ IV xs D s' ∧ MPB D (D 1 0) (D 9) (D 10) (D 14) (luN D (fun _ => false) (D 7 0)) 0 s' := by
  have hd := h.bd
  obtain ⟨lu, hlu⟩ : ∃ lu, lu = luN D (fun _ => false) (D 7 0) := ⟨_, rfl⟩
  rw [← hlu] at hP ⊢
  have hl := hP.2.2.2.1 n (by omega)
  have hs0 : ∀ i w, i < D 0 0 → w < D 6 0 → sh0 D i w = s0N D lu 0 i w := by rw [hlu]; exact s0_0 h.V
  obtain ⟨s2, g1, g2, u, g3, g4⟩ := wh_fs2 (f := gM_lureOf_h14 (nI n) (oz wo) (nI (lu n))) (fun v => decide (¬ wnT D (lrT D n v) = wo)) (fun t => IV xs D t ∧ ∃ u, u ≤ 9 ∧ MPB D (D 1 0) (D 9) (D 10) (D 14) (upN lu n u) 0 t) (10 - a) a (fun k h1 hk t hI => by
    obtain ⟨i1, u, i2, i3⟩ := hI
    have i4 := i3.wlu (n := n) (v := max (lu n) k) (by omega)
    rw [upN_up] at i4
    obtain ⟨t2, x1, x2, x3, x4, x5⟩ := (i1.wr (a := 304) (k := n) (x := nI (max (lu n) k)) (by unfold pK; omega)).go i4 (s0_dr (n := n) (v := k) hs0)
    refine ⟨t2, ?_, x3, _, by omega, x4⟩
    unfold gM_lureOf_h14
    dsimp only
    rw [show (9 : Int32) = nI 9 from rfl, if_neg (nlt (by omega) (by omega) (by omega)), if_pos rfl, imax_n (by omega) (by omega), wr_n (by omega) (by omega), Option.bind_some, x1, Option.bind_some, mq_win x5, Option.bind_some, oz_ite2 (wn31 h) hwo, nI_1]
    by_cases hw : wnT D (lrT D n k) = wo
    · rw [if_pos hw, Option.bind_some, if_neg (by rw [decide_eq_true_eq]; exact fun z => z hw)]
    · rw [if_neg hw, Option.bind_some, if_pos (by rw [decide_eq_true_eq]; exact hw)]) (fun k h1 hk t hI => by
    unfold gM_lureOf_h14
    dsimp only
    by_cases h9 : k + 1 ≤ 9
    · rw [show (9 : Int32) = nI 9 from rfl, if_neg (nlt (by omega) (by omega) (by omega)), if_neg (m1_n (by omega))]
    · rw [show (9 : Int32) = nI 9 from rfl, if_pos (nI_lt (by omega) (by omega))]) (fun t hI => by
    unfold gM_lureOf_h14
    dsimp only
    rw [show (9 : Int32) = nI 9 from rfl, if_pos (nI_lt (by omega) (by omega))]) s ⟨h, lu n, hl.2, by rw [upN_self]; exact hP⟩ FU (FU_gt (by omega))
  have g5 := g4.wlu (n := n) (v := lu n) hl.2
  rw [upN_up, upN_self] at g5
  refine ⟨stI s2 304 n (nI (lu n)), ?_, g2.wr (by unfold pK; omega), g5⟩
  unfold gM_lureOf
  rw [rd_n (by omega) (by omega), Option.bind_some, hl.1, g1, Option.bind_some]
  dsimp only
  rw [wr_n (by omega) (by omega), Option.bind_some]
theorem IV.askw (g : 0 < D 4 0) {t : mT} (ht : IV xs D t) : ∃ t1, gM_asksRace t = some (bz (decide (0 < D 4 0)), t1) ∧ IV xs D t1 ∧ MPB D (D 1 0) (D 9) (D 10) (D 14) (luN D (fun _ => false) (D 7 0)) 0 t1 ∧ gM_winsOf t1 = some (oz (wnT D (T0 D))) := by
  obtain ⟨t1, y1, y2, y3, y4, y5⟩ := ht.asks
  exact ⟨t1, y1, y3, y4, mq_win (y5 g).1⟩
theorem a_lure (v1 : Int32) : AS (gL_lure v1) (gM_lure v1) := AS_of fun xs D s h => by
  have hd := h.bd
  unfold gL_lure
  rw [h.hasE, Option.bind_some, bz_if]
  by_cases g : 0 < D 4 0 ∧ 0 ≤ v1.toInt ∧ v1.toInt < (D 0 0 : Int)
  · rw [if_pos g, kC_winner h.cv, Option.bind_some]
    obtain ⟨n, hn, rfl⟩ := of_in g.2
    have hw : ∀ t, IV xs D t → ∃ t1, gM_asksAhead (nI n) t = some (1, t1) ∧ IV xs D t1 ∧ MPB D (D 1 0) (D 9) (D 10) (D 14) (luN D (fun _ => false) (D 7 0)) 0 t1 ∧ gM_winsOf t1 = some (oz (wnT D (T0 D))) := fun t ht => by
      obtain ⟨t1, y1, y2, y3, y4, y5⟩ := ht.asksE (v := nI n)
      rw [decide_eq_true g] at y1
      exact ⟨t1, y1, y3, y4, mq_win (y5 g.1).1⟩
    cases ho : wnT D (T0 D) with
    | none =>
      have ho2 : winO (D 0 0) (D 5 0) (D 2 0) (rP D (T0 D)) = none := ho
      refine ⟨-1, s, by rw [ho2, oz_none, if_pos rfl], KP.rfl', fun t ht => ?_⟩
      obtain ⟨t1, y1, y2, y3, y4⟩ := hw t ht
      refine ⟨t1, ?_, y2⟩
      unfold gM_lure
      rw [y1, Option.bind_some, if_neg (show ¬ (1 : Int32) = 0 by decide), y4, Option.bind_some, ho, oz_none, if_pos rfl, Option.bind_some]
    | some c =>
      have hc := wn31 h c ho
      have hco : ∀ n, (some c : Option Nat) = some n → n < 2 ^ 31 := fun n hn => by cases hn; exact hc
      have ho2 : winO (D 0 0) (D 5 0) (D 2 0) (rP D (T0 D)) = some c := ho
      obtain ⟨s1, f1, f2⟩ := c_lure (wo := some c) h hn hco
      refine ⟨oz (ffN (fun v => decide (¬ wnT D (lrT D n v) = some c)) 9 1), s1, ?_, f2, fun t ht => ?_⟩
      · rw [ho2, oz_some, if_neg (m1_n hc)]
        exact f1
      · obtain ⟨t1, y1, y2, y3, y4⟩ := hw t ht
        obtain ⟨t2, z1, z2, z3⟩ := m_lureOf y2 y3 hn hco (a := 1) (by omega)
        refine ⟨t2, ?_, z2⟩
        unfold gM_lure
        rw [y1, Option.bind_some, if_neg (show ¬ (1 : Int32) = 0 by decide), y4, Option.bind_some, ho, oz_some, if_neg (m1_n hc)]
        rw [show gM_lureOf (nI n) (nI c) (1 : Int32) t1 = _ from z1, Option.bind_some, Option.bind_some]
  · refine ⟨-2, s, by rw [if_neg g], KP.rfl', fun t ht => ?_⟩
    obtain ⟨t1, y1, y2, y3, y4, y5⟩ := ht.asksE (v := v1)
    exact ⟨t1, by unfold gM_lure; rw [y1, Option.bind_some, bz_if, if_neg g], y3⟩
theorem c_spoils (h : IV xs D s) {wo : Option Nat} (hwo : ∀ n, wo = some n → n < 2 ^ 31) : ∃ s', wh FU (gL_spoils_h32 (oz wo)) ((0 : Int32), (0 : Int32), s) = some (nI (bmN (fun n => decide (¬ wnT D (lrT D n 9) = wo)) (D 0 0)), s') ∧ KP s s' ∧ IV xs D s' := by
  have hd := h.bd
  refine wh_acc (fun t => KP s t ∧ IV xs D t) (fun k => nI (bmN (fun n => decide (¬ wnT D (lrT D n 9) = wo)) k)) (D 0 0) (fun k hk t hI => ?_) (fun t hI => ?_) ⟨KP.rfl', h⟩ (FU_gt (by omega))
  · obtain ⟨t2, x1, x2, x3⟩ := c_wws (n := k) (v := 9) hI.2 (by omega) (by omega)
    refine ⟨t2, ?_, hI.1.tr x2, x3⟩
    unfold gL_spoils_h32
    dsimp only
    rw [hI.2.N, if_neg (nle (by omega) (by omega) (by omega)), show gL_winnerWithShow (nI k) (9 : Int32) t = _ from x1, Option.bind_some, oz_ite2 (wn31 h) hwo, st_bn (p := fun n => decide (¬ wnT D (lrT D n 9) = wo)) (by omega) (by simp), Option.bind_some, nI_1]
  · refine ⟨t, ?_, hI⟩
    unfold gL_spoils_h32
    dsimp only
    rw [hI.2.N, if_pos (nI_le (Nat.le_refl _) (by omega))]
theorem m_spoils (h : IV xs D s) (hP : MPB D (D 1 0) (D 9) (D 10) (D 14) (luN D (fun _ => false) (D 7 0)) 0 s) {c : Nat} (hc : c < 2 ^ 31) : ∃ s', wh FU (gM_spoils_h19 (nI c)) ((0 : Int32), (0 : Int32), s) = some (nI (bmN (fun n => decide (¬ wnT D (lrT D n 9) = some c)) (D 0 0)), s') ∧ IV xs D s' ∧ MPB D (D 1 0) (D 9) (D 10) (D 14) (luN D (fun _ => false) (D 7 0)) 0 s' := by
  have hd := h.bd
  have hco : ∀ n, (some c : Option Nat) = some n → n < 2 ^ 31 := fun n hn => by cases hn; exact hc
  refine wh_acc (fun t => IV xs D t ∧ MPB D (D 1 0) (D 9) (D 10) (D 14) (luN D (fun _ => false) (D 7 0)) 0 t) (fun k => nI (bmN (fun n => decide (¬ wnT D (lrT D n 9) = some c)) k)) (D 0 0) (fun k hk t hI => ?_) (fun t hI => ?_) ⟨h, hP⟩ (FU_gt (by omega))
  · obtain ⟨t2, x1, x2, x3⟩ := m_lureOf (n := k) hI.1 hI.2 hk hco (a := 9) (by omega)
    refine ⟨t2, ?_, x2, x3⟩
    unfold gM_spoils_h19
    dsimp only
    rw [m_last hI.1.M.1.1, Option.bind_some, if_neg (nle (by omega) (by omega) (by omega)), if_neg (m1_n hc), show gM_lureOf (nI k) (nI c) (9 : Int32) t = _ from x1, Option.bind_some]
    show ((if oz (if decide (¬ wnT D (lrT D k 9) = some c) = true then some 9 else none) = (-1 : Int32) then some (0 : Int32) else some ((1 : Int32) <<< (nI k &&& 31))).bind fun x5 => some (Sum.inl (nI (bmN (fun n => decide (¬ wnT D (lrT D n 9) = some c)) k) ||| x5, nI k + (1 : Int32), t2))) = _
    cases hp : decide (¬ wnT D (lrT D k 9) = some c) with
    | true => rw [if_pos rfl, if_neg (by decide), Option.bind_some, or_bit (p := fun n => decide (¬ wnT D (lrT D n 9) = some c)) (by omega) (by rw [if_pos hp]), nI_1]
    | false => rw [if_neg (show ¬ false = true by decide), oz_none, if_pos rfl, Option.bind_some, or_bit (p := fun n => decide (¬ wnT D (lrT D n 9) = some c)) (x := 0) (by omega) (by rw [if_neg (by rw [hp]; decide)]), nI_1]
  · refine ⟨t, ?_, hI⟩
    unfold gM_spoils_h19
    dsimp only
    rw [m_last hI.1.M.1.1, Option.bind_some, if_pos (nI_le (Nat.le_refl _) (by omega))]
theorem a_spoils : AS gL_spoils gM_spoils := AS_of fun xs D s h => by
  have hd := h.bd
  unfold gL_spoils
  rw [h.ex, Option.bind_some, bz_if]
  by_cases g : 0 < D 4 0
  · rw [if_pos g, kC_winner h.cv, Option.bind_some]
    cases ho : wnT D (T0 D) with
    | none =>
      have ho2 : winO (D 0 0) (D 5 0) (D 2 0) (rP D (T0 D)) = none := ho
      refine ⟨0, s, by rw [ho2, oz_none, if_pos rfl], KP.rfl', fun t ht => ?_⟩
      obtain ⟨t1, y1, y2, y3, y4⟩ := IV.askw g ht
      refine ⟨t1, ?_, y2⟩
      unfold gM_spoils
      rw [y1, Option.bind_some, bz_if, if_pos g, y4, Option.bind_some, ho, oz_none, wh_1 (r := ((0 : Int32), t1)), Option.bind_some]
      unfold gM_spoils_h19
      dsimp only
      rw [m_last y2.M.1.1, Option.bind_some, if_pos rfl, ite_self]
    | some c =>
      have hc := wn31 h c ho
      have hco : ∀ n, (some c : Option Nat) = some n → n < 2 ^ 31 := fun n hn => by cases hn; exact hc
      have ho2 : winO (D 0 0) (D 5 0) (D 2 0) (rP D (T0 D)) = some c := ho
      obtain ⟨s1, f1, f2, f3⟩ := c_spoils (wo := some c) h hco
      refine ⟨nI (bmN (fun n => decide (¬ wnT D (lrT D n 9) = some c)) (D 0 0)), s1, ?_, f2, fun t ht => ?_⟩
      · rw [ho2, oz_some, if_neg (m1_n hc)]
        rw [show wh FU (gL_spoils_h32 (nI c)) ((0 : Int32), (0 : Int32), s) = _ from f1, Option.bind_some]
      · obtain ⟨t1, y1, y2, y3, y4⟩ := IV.askw g ht
        obtain ⟨t2, z1, z2, z3⟩ := m_spoils y2 y3 hc
        refine ⟨t2, ?_, z2⟩
        unfold gM_spoils
        rw [y1, Option.bind_some, bz_if, if_pos g, y4, Option.bind_some, ho, oz_some, z1, Option.bind_some]
  · refine ⟨-2, s, by rw [if_neg g], KP.rfl', fun t ht => ?_⟩
    obtain ⟨t1, y1, y2, y3, y4, y5⟩ := ht.asks
    exact ⟨t1, by unfold gM_spoils; rw [y1, Option.bind_some, bz_if, if_neg g], y3⟩
end WJ
