/-! THE CLASS'S COURSE SAILS: going, turning, the whole -/
section SL2
variable {c n : Nat} {s : mT} {D : RD} {T : SU}
theorem pace_is {c b n : Nat} {e d : Nat} (hb : b < 5) (hn : n < 21) (he : s.1 (c + 72 + n) b = nI e) (he2 : e ≤ 45) (hd : s.1 (c + 2) b = nI d) (hd2 : 1 ≤ d ∧ d ≤ 9) : gC_pace c (nI b) (nI n) s = some (nI (min 3 (e / d))) := by
  have e5 : ¬ nI d = 0 := nI_ne0 (by omega) (by omega)
  have e6 : (1 : Int32) ≤ nI d := nI_le (a := 1) (by omega) (by omega)
  have e7 : e / d < 2 ^ 31 := Nat.lt_of_le_of_lt (Nat.div_le_self _ _) (by omega)
  simp (disch := omega) only [gC_pace, ↓ix_ite, ix_ite2, nI_clamp, rd_n, he, hd, Option.bind_some, e5, e6, if_true, if_false, pk_div]
  rw [show (3 : Int32) = nI 3 from rfl, imin_n (by omega) e7]
theorem go_is {p e : Nat → Nat} (hc : isCo c) (hV : VD D) (hR : RR 16 D s) (hP : PR c D T s) (hn : n < 20) (hp : ∀ b, b < D 5 0 → s.1 (c + 28 + n) b = nI (p b) ∧ p b ≤ 60) (he : ∀ b, b < D 5 0 → s.1 (c + 72 + n) b = nI (e b) ∧ e b ≤ 45) : ∃ s', gC_go c (nI n) s = some s' ∧ Fr (c + 28 + (n + 1)) (c + 29 + (n + 1)) s s' ∧ ∀ b, b < D 5 0 → s'.1 (c + 28 + (n + 1)) b = nI (min (p b + min 3 (e b / T.2.2.1 b)) (D 2 0)) := by
  obtain ⟨⟨v1, v2, v3, v4, v5, v6, v7, v8, v9⟩, vB, vW, vS, vA, v0⟩ := hV
  have hB := hR.1.2.2.2.2.2.1
  have hG := hR.1.2.2.1
  obtain ⟨s2, f2, g3, g4⟩ := wh_inv (f := gC_go_h2 c (nI n)) (fun j q => q.1 = nI j ∧ Fr (c + 28 + (n + 1)) (c + 29 + (n + 1)) s q.2 ∧ ∀ b, b < j → q.2.1 (c + 28 + (n + 1)) b = nI (min (p b + min 3 (e b / T.2.2.1 b)) (D 2 0))) (fun r => Fr (c + 28 + (n + 1)) (c + 29 + (n + 1)) s r ∧ ∀ b, b < D 5 0 → r.1 (c + 28 + (n + 1)) b = nI (min (p b + min 3 (e b / T.2.2.1 b)) (D 2 0))) (D 5 0) (fun j hj q hq => by
      obtain ⟨i, s1⟩ := q
      obtain ⟨q1, q2, q3⟩ := hq
      dsimp only at q1
      subst q1
      try dsimp only at q2
      try dsimp only at q3
      try dsimp only at q4
      try dsimp only at q5
      have e1 := congrFun (q2.1 16 (by omega)) 5
      have e2 := congrFun (q2.1 16 (by omega)) 2
      have e28 := congrFun (q2.1 (c + 28 + n) (by omega)) j
      have e72 := congrFun (q2.1 (c + 72 + n) (by omega)) j
      have e02 := congrFun (q2.1 (c + 2) (by omega)) j
      have k1 := hp j hj
      have k2 := he j hj
      have k3 := (hP.2.1 j hj).2
      have e9 : ¬ D 5 0 ≤ j := by omega
      have hpc := pace_is (c := c) (b := j) (n := n) (s := s1) (by omega) (by omega) (e72.trans k2.1) k2.2 (e02.trans k3.1) k3.2
      simp (disch := omega) only [gC_go_h2, e1, hB, nI_leI, e9, if_false, nI_clamp, rd_n, ↓ix_ite, ix_ite2, e28, k1.1, Option.bind_some, hpc, nI_1, wr_n, e2, hG, nI_add, imin_n]
      refine ⟨_, rfl, rfl, q2.tr (Fr.st (by omega) (by omega)), fun b hb => ?_⟩
      (try dsimp only)
      rw [stI_at]
      by_cases hbk : b = j
      · subst hbk
        rw [if_pos ⟨rfl, rfl⟩]
      · rw [if_neg (fun z => hbk z.2)]
        exact q3 b (by omega)) (fun q hq => by
      obtain ⟨i, s1⟩ := q
      obtain ⟨q1, q2, q3⟩ := hq
      dsimp only at q1
      subst q1
      try dsimp only at q2
      try dsimp only at q3
      try dsimp only at q4
      try dsimp only at q5
      have e1 := congrFun (q2.1 16 (by omega)) 5
      simp (disch := omega) only [gC_go_h2, e1, hB, nI_leI, Nat.le_refl, if_true]
      exact ⟨_, rfl, q2, q3⟩) (q := ((0 : Int32), s)) ⟨rfl, Fr.rfl', fun b hb => absurd hb (Nat.not_lt_zero _)⟩ FU (FU_gt (by omega))
  refine ⟨s2, ?_, g3, g4⟩
  unfold gC_go
  rw [f2]
  rfl
theorem turned_is {p : Nat → Nat} {w v : Nat} (hV : VD D) (hR : RR 16 D s) (hl : s.1 c 1 = nI T.1) (hl3 : T.1 ≤ 3) (hn : n < 20) (hp : ∀ b, b < D 5 0 → s.1 (c + 28 + (n + 1)) b = nI (p b) ∧ p b ≤ 60) (hw : w < D 6 0) (hk : s.1 (c + 50 + n) w = nI v) (hv : v < 9) : gC_turned c (nI w) (nI (n + 1)) s = some (nI (turnN D T.1 p w v)) := by
  obtain ⟨⟨v1, v2, v3, v4, v5, v6, v7, v8, v9⟩, vB, vW, vS, vA, v0⟩ := hV
  have h1 := vW w hw
  have h2 := hR.2.2.1 w hw
  have hf := farthest_is (c := c) (s := s) (n := n + 1) (B := D 5 0) (p := p) (f := D 12 w) (l := D 13 w) (by omega) v6 hp (by omega) (by omega)
  have hlf := leastFar_is (c := c) (s := s) (n := n + 1) (B := D 5 0) (p := p) (f := D 12 w) (l := D 13 w) (by omega) v6 hp (by omega) (by omega)
  unfold gC_turned turnN
  rw [nI_pred]
  simp (disch := omega) only [↓ix_ite, ix_ite2, nI_clamp, rd_n, hk, Option.bind_some, h2.2.1, h2.2.2.1, hf, hlf, hl]
  rw [show (1 : Int32) = nI 1 from rfl, show (2 : Int32) = nI 2 from rfl, show (3 : Int32) = nI 3 from rfl]
  simp (disch := omega) only [nI_eq, nI_ltI, nI_leI, nI_add]
  by_cases a1 : T.1 = 1
  · simp only [a1, if_true]
  · by_cases a2 : T.1 = 2
    · simp only [a1, a2, if_true, if_false, show ¬ (2 = 1) by decide]
    · by_cases a3 : T.1 = 3
      · simp only [a3, if_true, if_false, show ¬ (3 = 1) by decide, show ¬ (3 = 2) by decide]
        by_cases b1 : v < D 12 w
        · simp only [b1, if_true, Option.bind_some, Nat.not_le.mpr b1, false_and, if_false]
        · by_cases b2 : D 13 w ≤ v
          · simp only [b1, b2, if_true, if_false, Option.bind_some, Nat.not_lt.mpr b2, and_false]
          · simp only [b1, b2, if_false, Option.bind_some, Nat.not_lt.mp b1, Nat.not_le.mp b2, true_and, if_true]
      · simp only [a1, a2, a3, if_false]
theorem turn_is {p k : Nat → Nat} (hc : isCo c) (hV : VD D) (hR : RR 16 D s) (hP : PR c D T s) (hl3 : T.1 ≤ 3) (hn : n < D 0 0) (hp : ∀ b, b < D 5 0 → s.1 (c + 28 + (n + 1)) b = nI (p b) ∧ p b ≤ 60) (hk : ∀ w, w < D 6 0 → s.1 (c + 50 + n) w = nI (k w) ∧ k w < D 5 0) : ∃ s', gC_turn c (nI (n + 1)) s = some s' ∧ Fr (c + 50 + (n + 1)) (c + 51 + (n + 1)) s s' ∧ ∀ w, w < D 6 0 → s'.1 (c + 50 + (n + 1)) w = nI ((T.2.2.2.2.1 (n + 1) w).getD (turnN D T.1 p w (k w))) := by
  have hV2 := hV
  obtain ⟨⟨v1, v2, v3, v4, v5, v6, v7, v8, v9⟩, vB, vW, vS, vA, v0⟩ := hV
  have hW := hR.1.2.2.2.2.2.2.1
  obtain ⟨s2, f2, g3, g4⟩ := wh_inv (f := gC_turn_h2 c (nI (n + 1))) (fun j q => q.1 = nI j ∧ Fr (c + 50 + (n + 1)) (c + 51 + (n + 1)) s q.2 ∧ ∀ w, w < j → q.2.1 (c + 50 + (n + 1)) w = nI ((T.2.2.2.2.1 (n + 1) w).getD (turnN D T.1 p w (k w)))) (fun r => Fr (c + 50 + (n + 1)) (c + 51 + (n + 1)) s r ∧ ∀ w, w < D 6 0 → r.1 (c + 50 + (n + 1)) w = nI ((T.2.2.2.2.1 (n + 1) w).getD (turnN D T.1 p w (k w)))) (D 6 0) (fun j hj q hq => by
      obtain ⟨i, s1⟩ := q
      obtain ⟨q1, q2, q3⟩ := hq
      dsimp only at q1
      subst q1
      try dsimp only at q2
      try dsimp only at q3
      try dsimp only at q4
      try dsimp only at q5
      have e1 := congrFun (q2.1 16 (by omega)) 6
      have e5 := congrFun (q2.1 (c + 5 + (n + 1)) (by omega)) j
      have ha := hP.2.2.2.1 (n + 1) j (by omega) hj
      have e9 : ¬ D 6 0 ≤ j := by omega
      have htn := turned_is (c := c) (n := n) (s := s1) (D := D) (T := T) (p := p) (w := j) (v := k j) hV2 (hR.fr q2 (by omega)) ((congrFun (q2.1 c (by omega)) 1).trans hP.1) hl3 (by omega) (fun b hb => ⟨(congrFun (q2.1 (c + 28 + (n + 1)) (by omega)) b).trans (hp b hb).1, (hp b hb).2⟩) hj ((congrFun (q2.1 (c + 50 + n) (by omega)) j).trans (hk j hj).1) (by have := (hk j hj).2; omega)
      simp (disch := omega) only [gC_turn_h2, e1, hW, nI_leI, e9, if_false, nI_clamp, rd_n, ↓ix_ite, ix_ite2, e5, ha.1, Option.bind_some, htn, nI_1, wr_n]
      cases hal : T.2.2.2.2.1 (n + 1) j with
      | none =>
        rw [oz_none, if_pos rfl]
        simp only [Option.bind_some]
        refine ⟨_, rfl, rfl, q2.tr (Fr.st (by omega) (by omega)), fun b hb => ?_⟩
        (try dsimp only)
        rw [stI_at]
        by_cases hbk : b = j
        · subst hbk
          rw [if_pos ⟨rfl, rfl⟩, hal]; rfl
        · rw [if_neg (fun z => hbk z.2)]
          exact q3 b (by omega)
      | some z =>
        have hz := ha.2 z hal
        rw [oz_some, if_neg (m1_n (by omega))]
        simp only [Option.bind_some]
        refine ⟨_, rfl, rfl, q2.tr (Fr.st (by omega) (by omega)), fun b hb => ?_⟩
        (try dsimp only)
        rw [stI_at]
        by_cases hbk : b = j
        · subst hbk
          rw [if_pos ⟨rfl, rfl⟩, hal]; rfl
        · rw [if_neg (fun z => hbk z.2)]
          exact q3 b (by omega)) (fun q hq => by
      obtain ⟨i, s1⟩ := q
      obtain ⟨q1, q2, q3⟩ := hq
      dsimp only at q1
      subst q1
      try dsimp only at q2
      try dsimp only at q3
      try dsimp only at q4
      try dsimp only at q5
      have e1 := congrFun (q2.1 16 (by omega)) 6
      simp (disch := omega) only [gC_turn_h2, e1, hW, nI_leI, Nat.le_refl, if_true]
      exact ⟨_, rfl, q2, q3⟩) (q := ((0 : Int32), s)) ⟨rfl, Fr.rfl', fun b hb => absurd hb (Nat.not_lt_zero _)⟩ FU (FU_gt (by omega))
  refine ⟨s2, ?_, g3, g4⟩
  unfold gC_turn
  rw [f2]
  rfl
/-- the rows of a run, M steps of it -/
def RW (c : Nat) (D : RD) (T : SU) (M : Nat) (s : mT) : Prop :=
  (∀ n b, n ≤ M → b < D 5 0 → s.1 (c + 28 + n) b = nI (rP D T n b)) ∧
  (∀ n w, n ≤ M → w < D 6 0 → s.1 (c + 50 + n) w = nI (rK D T n w)) ∧
  (∀ n b, n < M → b < D 5 0 → s.1 (c + 72 + n) b = nI (rE D T n b))
theorem sail_is {M : Nat} (hc : isCo c) (hV : VD D) (hR : RR 16 D s) (hP : PR c D T s) (hl3 : T.1 ≤ 3) (hM : M ≤ D 0 0) : ∃ s', gC_sail c (nI M) s = some s' ∧ Fr (c + 28) (c + 93) s s' ∧ RW c D T M s' := by
  have hV2 := hV
  have hKlt := rK_lt (D := D) (T := T) hV (fun w hw => (hP.2.2.1 w hw).2) (fun n w hn hw b hb => (hP.2.2.2.1 n w hn hw).2 b hb)
  obtain ⟨⟨v1, v2, v3, v4, v5, v6, v7, v8, v9⟩, vB, vW, vS, vA, v0⟩ := hV
  have hB := hR.1.2.2.2.2.2.1
  have hW := hR.1.2.2.2.2.2.2.1
  have hG := hR.1.2.2.1
  obtain ⟨s1, f1, g1, g2⟩ := wh_inv (f := gC_sail_h2 c (nI M)) (fun j q => q.1 = nI j ∧ Fr (c + 28) (c + 29) s q.2 ∧ ∀ b, b < j → q.2.1 (c + 28) b = nI (rP D T 0 b)) (fun r => Fr (c + 28) (c + 29) s r ∧ ∀ b, b < D 5 0 → r.1 (c + 28) b = nI (rP D T 0 b)) (D 5 0) (fun j hj q hq => by
      obtain ⟨i, s1⟩ := q
      obtain ⟨q1, q2, q3⟩ := hq
      dsimp only at q1
      subst q1
      try dsimp only at q2
      try dsimp only at q3
      try dsimp only at q4
      try dsimp only at q5
      have e1 := congrFun (q2.1 16 (by omega)) 5
      have e2 := congrFun (q2.1 16 (by omega)) 2
      have e3 := congrFun (q2.1 (c + 1) (by omega)) j
      have k1 := (hP.2.1 j hj).1
      have e9 : ¬ D 5 0 ≤ j := by omega
      rw [show gC_sail_h2 c (nI M) (nI j, s1) = gC_sail_h2 c (nI M) (nI j, s1) from rfl]
      simp (disch := omega) only [gC_sail_h2, show (0 : Int32) = nI 0 from rfl, e1, hB, nI_leI, e9, if_false, nI_clamp, rd_n, ↓ix_ite, ix_ite2, e3, k1.1, Option.bind_some, nI_1, wr_n, e2, hG, imin_n, Nat.add_zero]
      refine ⟨_, rfl, rfl, q2.tr (Fr.st (by omega) (by omega)), fun b hb => ?_⟩
      (try dsimp only)
      rw [stI_at]
      by_cases hbk : b = j
      · subst hbk
        rw [if_pos ⟨rfl, rfl⟩]; rfl
      · rw [if_neg (fun z => hbk z.2)]
        exact q3 b (by omega)) (fun q hq => by
      obtain ⟨i, s1⟩ := q
      obtain ⟨q1, q2, q3⟩ := hq
      dsimp only at q1
      subst q1
      try dsimp only at q2
      try dsimp only at q3
      try dsimp only at q4
      try dsimp only at q5
      have e1 := congrFun (q2.1 16 (by omega)) 5
      simp (disch := omega) only [gC_sail_h2, e1, hB, nI_leI, Nat.le_refl, if_true]
      exact ⟨_, rfl, q2, q3⟩) (q := ((0 : Int32), s)) ⟨rfl, Fr.rfl', fun b hb => absurd hb (Nat.not_lt_zero _)⟩ FU (FU_gt (by omega))
  obtain ⟨s2, f2, g3, g4⟩ := wh_inv (f := gC_sail_h45 c (nI M)) (fun j q => q.1 = nI j ∧ Fr (c + 50) (c + 51) s1 q.2 ∧ ∀ w, w < j → q.2.1 (c + 50) w = nI (rK D T 0 w)) (fun r => Fr (c + 50) (c + 51) s1 r ∧ ∀ w, w < D 6 0 → r.1 (c + 50) w = nI (rK D T 0 w)) (D 6 0) (fun j hj q hq => by
      obtain ⟨i, t1⟩ := q
      obtain ⟨q1, q2, q3⟩ := hq
      dsimp only at q1
      subst q1
      try dsimp only at q2
      try dsimp only at q3
      try dsimp only at q4
      try dsimp only at q5
      have e1 := congrFun ((q2.1 16 (by omega)).trans (g1.1 16 (by omega))) 6
      have e3 := congrFun ((q2.1 (c + 3) (by omega)).trans (g1.1 (c + 3) (by omega))) j
      have e5 := congrFun ((q2.1 (c + 5) (by omega)).trans (g1.1 (c + 5) (by omega))) j
      have ha := hP.2.2.2.1 0 j (by omega) hj
      rw [Nat.add_zero] at ha
      have k1 := (hP.2.2.1 j hj)
      have e9 : ¬ D 6 0 ≤ j := by omega
      simp (disch := omega) only [gC_sail_h45, show (0 : Int32) = nI 0 from rfl, e1, hW, nI_leI, e9, if_false, nI_clamp, rd_n, ↓ix_ite, ix_ite2, e5, ha.1, e3, k1.1, Option.bind_some, nI_1, wr_n, Nat.add_zero]
      cases hal : T.2.2.2.2.1 0 j with
      | none =>
        rw [oz_none, if_pos rfl]
        simp only [Option.bind_some]
        refine ⟨_, rfl, rfl, q2.tr (Fr.st (by omega) (by omega)), fun b hb => ?_⟩
        (try dsimp only)
        rw [stI_at]
        by_cases hbk : b = j
        · subst hbk
          rw [if_pos ⟨rfl, rfl⟩, rK_0, hal]; rfl
        · rw [if_neg (fun z => hbk z.2)]
          exact q3 b (by omega)
      | some z =>
        have hz := ha.2 z hal
        rw [oz_some, if_neg (m1_n (by omega))]
        simp only [Option.bind_some]
        refine ⟨_, rfl, rfl, q2.tr (Fr.st (by omega) (by omega)), fun b hb => ?_⟩
        (try dsimp only)
        rw [stI_at]
        by_cases hbk : b = j
        · subst hbk
          rw [if_pos ⟨rfl, rfl⟩, rK_0, hal]; rfl
        · rw [if_neg (fun z => hbk z.2)]
          exact q3 b (by omega)) (fun q hq => by
      obtain ⟨i, t1⟩ := q
      obtain ⟨q1, q2, q3⟩ := hq
      dsimp only at q1
      subst q1
      try dsimp only at q2
      try dsimp only at q3
      try dsimp only at q4
      try dsimp only at q5
      have e1 := congrFun ((q2.1 16 (by omega)).trans (g1.1 16 (by omega))) 6
      simp (disch := omega) only [gC_sail_h45, e1, hW, nI_leI, Nat.le_refl, if_true]
      exact ⟨_, rfl, q2, q3⟩) (q := ((0 : Int32), s1)) ⟨rfl, Fr.rfl', fun b hb => absurd hb (Nat.not_lt_zero _)⟩ FU (FU_gt (by omega))
  have F2 : Fr (c + 28) (c + 93) s s2 := (g1.wid (by omega) (by omega)).tr (g3.wid (by omega) (by omega))
  obtain ⟨s3, f3, g5, g6⟩ := wh_inv (f := gC_sail_h96 c (nI M)) (fun j q => q.1 = nI j ∧ Fr (c + 28) (c + 93) s q.2 ∧ RW c D T j q.2) (fun r => Fr (c + 28) (c + 93) s r ∧ RW c D T M r) M (fun j hj q hq => by
      obtain ⟨i, t1⟩ := q
      obtain ⟨q1, q2, q3, q4, q5⟩ := hq
      dsimp only at q1
      subst q1
      try dsimp only at q2
      try dsimp only at q3
      try dsimp only at q4
      try dsimp only at q5
      have e9 : ¬ M ≤ j := by omega
      obtain ⟨t2, a1, a2, a3⟩ := countEyes_is (c := c) (n := j) (s := t1) (D := D) (T := T) (k := rK D T j) hc hV2 (hR.fr q2 (by omega)) ((congrFun (q2.1 (c + 26) (by omega)) j).trans (hP.2.2.2.2 j (by omega))) (by omega) (fun w hw => ⟨q4 j w (Nat.le_refl _) hw, hKlt j (by omega) w hw⟩)
      have q6 : Fr (c + 28) (c + 93) s t2 := q2.tr (a2.wid (by omega) (by omega))
      obtain ⟨t3, b1, b2, b3⟩ := go_is (c := c) (n := j) (s := t2) (D := D) (T := T) (p := rP D T j) (e := rE D T j) hc hV2 (hR.fr q6 (by omega)) (hP.fr hV2 q6 (by omega)) (by omega) (fun b hb => ⟨(congrFun (a2.1 (c + 28 + j) (by omega)) b).trans (q3 j b (Nat.le_refl _) hb), by have := rP_le (D := D) (T := T) j b; omega⟩) (fun b hb => ⟨a3 b hb, rE_le hV2 j b⟩)
      have q7 : Fr (c + 28) (c + 93) s t3 := q6.tr (b2.wid (by omega) (by omega))
      obtain ⟨t4, d1, d2, d3⟩ := turn_is (c := c) (n := j) (s := t3) (D := D) (T := T) (p := rP D T (j + 1)) (k := rK D T j) hc hV2 (hR.fr q7 (by omega)) (hP.fr hV2 q7 (by omega)) hl3 (by omega) (fun b hb => ⟨b3 b hb, by have := rP_le (D := D) (T := T) (j + 1) b; omega⟩) (fun w hw => ⟨(congrFun ((b2.1 (c + 50 + j) (by omega)).trans (a2.1 (c + 50 + j) (by omega))) w).trans (q4 j w (Nat.le_refl _) hw), hKlt j (by omega) w hw⟩)
      simp (disch := omega) only [gC_sail_h96, nI_leI, e9, if_false, a1, b1, nI_1, d1, Option.bind_some]
      refine ⟨_, rfl, rfl, q7.tr (d2.wid (by omega) (by omega)), fun n b hn hb => ?_, fun n w hn hw => ?_, fun n b hn hb => ?_⟩
      · (try dsimp only)
        rw [d2.1 (c + 28 + n) (by omega)]
        by_cases hnj : n = j + 1
        · subst hnj
          exact b3 b hb
        · rw [b2.1 (c + 28 + n) (by omega), a2.1 (c + 28 + n) (by omega)]
          exact q3 n b (by omega) hb
      · (try dsimp only)
        by_cases hnj : n = j + 1
        · subst hnj
          exact d3 w hw
        · rw [d2.1 (c + 50 + n) (by omega), b2.1 (c + 50 + n) (by omega), a2.1 (c + 50 + n) (by omega)]
          exact q4 n w (by omega) hw
      · (try dsimp only)
        rw [d2.1 (c + 72 + n) (by omega), b2.1 (c + 72 + n) (by omega)]
        by_cases hnj : n = j
        · subst hnj
          exact a3 b hb
        · rw [a2.1 (c + 72 + n) (by omega)]
          exact q5 n b (by omega) hb) (fun q hq => by
      obtain ⟨i, t1⟩ := q
      obtain ⟨q1, q2, q3⟩ := hq
      dsimp only at q1
      subst q1
      try dsimp only at q2
      try dsimp only at q3
      try dsimp only at q4
      try dsimp only at q5
      simp (disch := omega) only [gC_sail_h96, nI_leI, Nat.le_refl, if_true]
      exact ⟨_, rfl, q2, q3⟩) (q := ((0 : Int32), s2)) ⟨rfl, F2, fun n b hn hb => by
        obtain rfl : n = 0 := by omega
        exact (congrFun (g3.1 (c + 28) (by omega)) b).trans (g2 b hb), fun n w hn hw => by
        obtain rfl : n = 0 := by omega
        exact g4 w hw, fun n b hn hb => absurd hn (Nat.not_lt_zero _)⟩ FU (FU_gt (by omega))
  refine ⟨s3, ?_, g5, g6⟩
  unfold gC_sail
  rw [f1, Option.bind_some, f2, Option.bind_some, f3]
  rfl
end SL2
