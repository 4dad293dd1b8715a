/-! THE CLASS'S COURSE PREPARED: the whole -/
section PW
variable {c : Nat} {s : mT} {D : RD}
theorem bm_all (W : Nat) : bmN (fun _ => true) W = 2 ^ W - 1 := by
  induction W with
  | zero => rfl
  | succ n ih =>
    unfold bmN
    have := Nat.two_pow_pos n
    rw [ih, if_pos rfl, Nat.pow_succ]
    omega
theorem sh_all {W : Nat} (h : W ≤ 5) : ((1 : Int32) <<< (nI W &&& 31)) - (1 : Int32) = nI (bmN (fun _ => true) W) := by
  rw [sh_1 (by omega), bm_all]
  exact (by decide +kernel : ∀ W, W ≤ 5 → nI (2 ^ W) - (1 : Int32) = nI (2 ^ W - 1)) W h
theorem row_m1 {n : Nat} {v1 : Int32} (hc : isCo c) (hV : VD D) (hR : RR 16 D s) (hn : n ≤ 20) : ∃ s', wh FU (gC_prepareWithout_h77 c v1 (nI n)) ((0 : Int32), s) = some s' ∧ Fr (c + 5 + n) (c + 6 + n) s s' ∧ ∀ w, w < D 6 0 → s'.1 (c + 5 + n) w = -1 := by
  obtain ⟨⟨u1, u2, u3, u4, u5, u6, u7, u8, u9⟩, vB, vW, vS, vA, v0⟩ := hV
  have hW := hR.1.2.2.2.2.2.2.1
  obtain ⟨s2, f2, g3, g4⟩ := wh_inv (f := gC_prepareWithout_h77 c v1 (nI n)) (fun j q => q.1 = nI j ∧ Fr (c + 5 + n) (c + 6 + n) s q.2 ∧ ∀ w, w < j → q.2.1 (c + 5 + n) w = -1) (fun r => Fr (c + 5 + n) (c + 6 + n) s r ∧ ∀ w, w < D 6 0 → r.1 (c + 5 + n) w = -1) (D 6 0) (fun j hj q hq => by
      obtain ⟨i, s1⟩ := q
      obtain ⟨q1, q2, q3⟩ := hq
      dsimp only at q1
      subst q1
      try dsimp only at q2
      try dsimp only at q3
      try dsimp only at q4
      try dsimp only at q5
      have e1 := congrFun (q2.1 16 (by omega)) 6
      have e9 : ¬ D 6 0 ≤ j := by omega
      simp (disch := omega) only [gC_prepareWithout_h77, e1, hW, nI_leI, e9, if_false, ↓ix_ite, ix_ite2, nI_clamp, wr_n, Option.bind_some, nI_1]
      refine ⟨_, rfl, rfl, q2.tr (Fr.st (by omega) (by omega)), fun w hw => ?_⟩
      (try dsimp only)
      rw [stI_at]
      by_cases hwj : w = j
      · rw [if_pos ⟨rfl, hwj⟩]
      · rw [if_neg (fun z => hwj z.2)]
        exact q3 w (by omega)) (fun q hq => by
      obtain ⟨i, s1⟩ := q
      obtain ⟨q1, q2, q3⟩ := hq
      dsimp only at q1
      subst q1
      try dsimp only at q2
      try dsimp only at q3
      try dsimp only at q4
      try dsimp only at q5
      have e1 := congrFun (q2.1 16 (by omega)) 6
      simp (disch := omega) only [gC_prepareWithout_h77, e1, hW, nI_leI, Nat.le_refl, if_true]
      exact ⟨_, rfl, q2, q3⟩) (q := ((0 : Int32), s)) ⟨rfl, Fr.rfl', fun w hw => absurd hw (Nat.not_lt_zero _)⟩ FU (FU_gt (by omega))
  exact ⟨s2, f2, g3, g4⟩
theorem alK_lt (hV : VD D) : ∀ m, m ≤ D 8 0 → ∀ n w b, alK D m n w = some b → b < D 5 0 := by
  intro m
  induction m with
  | zero => intro _ n w b h; cases h
  | succ m ih =>
    intro hm n w b h
    unfold alK at h
    split at h
    · rename_i h1
      cases h
      have := (hV.2.2.2.2.1 m (by omega)).2.1
      have := h1.2.2
      omega
    · exact ih (by omega) n w b h
theorem prepW_is {v : Int32} {ex : Nat → Bool} (hc : isCo c) (hV : VD D) (hR : RR 16 D s) (hex : ∀ k, k < D 7 0 → (nI k = v ↔ ex k = true)) : ∃ s', gC_prepareWithout c v s = some s' ∧ Fr c (c + 27) s s' ∧ PR c D (tS D (fun n w => shK D ex (D 7 0) n w)) s' := by
  have hV2 := hV
  obtain ⟨⟨u1, u2, u3, u4, u5, u6, u7, u8, u9⟩, vB, vW, vS, vA, v0⟩ := hV
  have hN := hR.1.1
  have hS := hR.1.2.2.2.2.2.2.2.1
  have hW := hR.1.2.2.2.2.2.2.1
  obtain ⟨t0, ht0⟩ : ∃ t0, t0 = stI s c 1 (s.1 16 1) := ⟨_, rfl⟩
  have f0 : Fr c (c + 1) s t0 := by rw [ht0]; exact Fr.st (by omega) (by omega)
  have e0 : t0.1 c 1 = nI (D 1 0) := by rw [ht0, stI_eq]; exact hR.1.2.1
  obtain ⟨t1, a1, b1, d1⟩ := cp_n (n := 5) (a := 17) (b := c + 1) (s := t0) (by omega)
  obtain ⟨t2, a2, b2, d2⟩ := cp_n (n := 5) (a := 18) (b := c + 2) (s := t1) (by omega)
  obtain ⟨t3, a3, b3, d3⟩ := cp_n (n := 5) (a := 22) (b := c + 3) (s := t2) (by omega)
  have F3 : Fr c (c + 4) s t3 := (((f0.wid (by omega) (by omega)).tr (b1.wid (by omega) (by omega))).tr (b2.wid (by omega) (by omega))).tr (b3.wid (by omega) (by omega))
  have R3 := hR.fr F3 (by omega)
  obtain ⟨t4, a4, b4, d4⟩ := wh_inv (f := gC_prepareWithout_h64 c v) (fun j q => q.1 = nI j ∧ Fr (c + 5) (c + 26) t3 q.2 ∧ ∀ n w, n < j → w < D 6 0 → q.2.1 (c + 5 + n) w = -1) (fun r => Fr (c + 5) (c + 26) t3 r ∧ ∀ n w, n ≤ D 0 0 → w < D 6 0 → r.1 (c + 5 + n) w = -1) (D 0 0 + 1) (fun j hj q hq => by
      obtain ⟨i, s1⟩ := q
      obtain ⟨q1, q2, q3⟩ := hq
      dsimp only at q1
      subst q1
      try dsimp only at q2
      try dsimp only at q3
      try dsimp only at q4
      try dsimp only at q5
      have e1 := congrFun (q2.1 16 (by omega)) 0
      have e9 : ¬ D 0 0 < j := by omega
      obtain ⟨s2, z1, z2, z3⟩ := row_m1 (c := c) (s := s1) (D := D) (n := j) (v1 := v) hc hV2 (R3.fr q2 (by omega)) (by omega)
      simp (disch := omega) only [gC_prepareWithout_h64, e1, R3.1.1, nI_ltI, e9, if_false, z1, Option.bind_some, nI_1]
      refine ⟨_, rfl, rfl, q2.tr (z2.wid (by omega) (by omega)), fun n w hn hw => ?_⟩
      (try dsimp only)
      by_cases hnj : n = j
      · subst hnj; exact z3 w hw
      · rw [z2.1 (c + 5 + n) (by omega)]
        exact q3 n w (by omega) hw) (fun q hq => by
      obtain ⟨i, s1⟩ := q
      obtain ⟨q1, q2, q3⟩ := hq
      dsimp only at q1
      subst q1
      try dsimp only at q2
      try dsimp only at q3
      try dsimp only at q4
      try dsimp only at q5
      have e1 := congrFun (q2.1 16 (by omega)) 0
      have e9 : D 0 0 < D 0 0 + 1 := by omega
      simp (disch := omega) only [gC_prepareWithout_h64, e1, R3.1.1, nI_ltI, e9, if_true]
      exact ⟨_, rfl, q2, fun n w hn hw => q3 n w (by omega) hw⟩) (q := ((0 : Int32), t3)) ⟨rfl, Fr.rfl', fun n w hn hw => absurd hn (Nat.not_lt_zero _)⟩ FU (FU_gt (by omega))
  have R4 := R3.fr b4 (by omega)
  obtain ⟨t5, a5, b5, d5⟩ := wh_inv (f := gC_prepareWithout_h111 c v) (fun j q => q.1 = nI j ∧ Fr (c + 26) (c + 27) t4 q.2 ∧ ∀ n, n < j → q.2.1 (c + 26) n = nI (bmN (fun _ => true) (D 6 0))) (fun r => Fr (c + 26) (c + 27) t4 r ∧ ∀ n, n ≤ 20 → r.1 (c + 26) n = nI (bmN (fun _ => true) (D 6 0))) 21 (fun j hj q hq => by
      obtain ⟨i, s1⟩ := q
      obtain ⟨q1, q2, q3⟩ := hq
      dsimp only at q1
      subst q1
      try dsimp only at q2
      try dsimp only at q3
      try dsimp only at q4
      try dsimp only at q5
      have e1 := congrFun (q2.1 16 (by omega)) 6
      have e9 : ¬ 20 < j := by omega
      simp (disch := omega) only [gC_prepareWithout_h111, show (20 : Int32) = nI 20 from rfl, nI_ltI, e9, if_false, e1, R4.1.2.2.2.2.2.2.1, sh_all, wr_n, Option.bind_some, nI_1]
      refine ⟨_, rfl, rfl, q2.tr (Fr.st (by omega) (by omega)), fun n hn => ?_⟩
      (try dsimp only)
      rw [stI_at]
      by_cases hnj : n = j
      · rw [if_pos ⟨rfl, hnj⟩]
      · rw [if_neg (fun z => hnj z.2)]
        exact q3 n (by omega)) (fun q hq => by
      obtain ⟨i, s1⟩ := q
      obtain ⟨q1, q2, q3⟩ := hq
      dsimp only at q1
      subst q1
      try dsimp only at q2
      try dsimp only at q3
      try dsimp only at q4
      try dsimp only at q5
      refine ⟨s1, rfl, q2, fun n hn => q3 n (by omega)⟩) (q := ((0 : Int32), t4)) ⟨rfl, Fr.rfl', fun n hn => absurd hn (Nat.not_lt_zero _)⟩ FU (FU_gt (by omega))
  have R5 := R4.fr b5 (by omega)
  obtain ⟨t6, a6, b6, d6⟩ := wh_inv (f := gC_prepareWithout_h142 c v) (fun j q => q.1 = nI j ∧ Fr (c + 26) (c + 27) t5 q.2 ∧ ∀ n, n ≤ 20 → q.2.1 (c + 26) n = nI (bmN (fun w => !shK D ex j n w) (D 6 0))) (fun r => Fr (c + 26) (c + 27) t5 r ∧ ∀ n, n ≤ 20 → r.1 (c + 26) n = nI (bmN (fun w => !shK D ex (D 7 0) n w) (D 6 0))) (D 7 0) (fun j hj q hq => by
      obtain ⟨i, s1⟩ := q
      obtain ⟨q1, q2, q3⟩ := hq
      dsimp only at q1
      subst q1
      try dsimp only at q2
      try dsimp only at q3
      try dsimp only at q4
      try dsimp only at q5
      have e1 := congrFun (q2.1 16 (by omega)) 7
      have e23 := congrFun (q2.1 23 (by omega)) j
      have e24 := congrFun (q2.1 24 (by omega)) j
      obtain ⟨k1, k2⟩ := R5.2.2.2.1 j hj
      obtain ⟨x1, x2, x3⟩ := vS j hj
      have e9 : ¬ D 7 0 ≤ j := by omega
      (try dsimp only at q3)
      simp (disch := omega) only [gC_prepareWithout_h142, e1, R5.1.2.2.2.2.2.2.2.1, nI_leI, e9, if_false, rd_n, e23, e24, k1, k2, Option.bind_some, nI_1]
      by_cases h : ex j = true
      · rw [if_pos ((hex j hj).mpr h), Option.bind_some]
        refine ⟨_, rfl, rfl, q2, fun n hn => ?_⟩
        (try dsimp only)
        rw [q3 n hn]
        refine congrArg nI (bmN_congr (fun w hw => ?_))
        rw [show shK D ex (j + 1) n w = (shK D ex j n w || (!ex j && decide (D 16 j = n) && decide (D 11 w ≤ D 15 j))) from rfl, h]
        simp
      · have h2 : ex j = false := by cases hh : ex j; rfl; exact absurd hh h
        obtain ⟨s2, z1, z2, z3, z4⟩ := draw_is (c := c) (n := D 16 j) (s := s1) (D := D) (lu := D 15 j) hc hV2 (R5.fr q2 (by omega)) (by omega) (by omega) (q3 (D 16 j) (by omega))
        rw [if_neg (fun z => h ((hex j hj).mp z)), z1]
        simp only [Option.bind_some]
        refine ⟨_, rfl, rfl, q2.tr z2, fun n hn => ?_⟩
        (try dsimp only)
        by_cases hnj : n = D 16 j
        · subst hnj
          rw [z3]
          refine congrArg nI (bmN_congr (fun w hw => ?_))
          rw [show shK D ex (j + 1) (D 16 j) w = (shK D ex j (D 16 j) w || (!ex j && decide (D 16 j = D 16 j) && decide (D 11 w ≤ D 15 j))) from rfl, h2]
          simp
        · rw [z4 n hnj, q3 n hn]
          refine congrArg nI (bmN_congr (fun w hw => ?_))
          rw [show shK D ex (j + 1) n w = (shK D ex j n w || (!ex j && decide (D 16 j = n) && decide (D 11 w ≤ D 15 j))) from rfl]
          simp [Ne.symm hnj]) (fun q hq => by
      obtain ⟨i, s1⟩ := q
      obtain ⟨q1, q2, q3⟩ := hq
      dsimp only at q1
      subst q1
      try dsimp only at q2
      try dsimp only at q3
      try dsimp only at q4
      try dsimp only at q5
      have e1 := congrFun (q2.1 16 (by omega)) 7
      simp (disch := omega) only [gC_prepareWithout_h142, e1, R5.1.2.2.2.2.2.2.2.1, nI_leI, Nat.le_refl, if_true]
      exact ⟨_, rfl, q2, q3⟩) (q := ((0 : Int32), t5)) ⟨rfl, Fr.rfl', fun n hn => by
        (try dsimp only)
        rw [d5 n hn]
        rfl⟩ FU (FU_gt (by omega))
  have R6 := R5.fr b6 (by omega)
  obtain ⟨t7, a7, b7, d7, g7⟩ := acts_is (c := c) (s := t6) (D := D) (sl := fun n w => shK D ex (D 7 0) n w) hc hV2 R6 (fun n w hn hw => by
    rw [b6.1 (c + 5 + n) (by omega), b5.1 (c + 5 + n) (by omega)]
    exact d4 n w hn hw) d6
  have F7 : Fr c (c + 27) s t7 := ((((F3.wid (by omega) (by omega)).tr (b4.wid (by omega) (by omega))).tr (b5.wid (by omega) (by omega))).tr (b6.wid (by omega) (by omega))).tr (b7.wid (by omega) (by omega))
  refine ⟨t7, ?_, F7, ?_, fun b hb => ?_, fun w hw => ?_, fun n w hn hw => ⟨d7 n w hn hw, fun b hb => ?_⟩, g7⟩
  · unfold gC_prepareWithout
    rw [show (5 : Int32) = nI 5 from rfl]
    rw [← ht0, a1, Option.bind_some, a2, Option.bind_some, a3, Option.bind_some, a4, Option.bind_some, a5, Option.bind_some, a6, Option.bind_some, a7]
    rfl
  · rw [b7.1 c (by omega), b6.1 c (by omega), b5.1 c (by omega), b4.1 c (by omega), b3.1 c (by omega), b2.1 c (by omega), b1.1 c (by omega)]
    exact e0
  · obtain ⟨r1, r2⟩ := hR.2.1 b hb
    obtain ⟨r3, r4⟩ := vB b hb
    rw [b7.1 (c + 1) (by omega), b6.1 (c + 1) (by omega), b5.1 (c + 1) (by omega), b4.1 (c + 1) (by omega), b3.1 (c + 1) (by omega), b2.1 (c + 1) (by omega), d1 b (by omega), f0.1 17 (by omega)]
    rw [b7.1 (c + 2) (by omega), b6.1 (c + 2) (by omega), b5.1 (c + 2) (by omega), b4.1 (c + 2) (by omega), b3.1 (c + 2) (by omega), d2 b (by omega), b1.1 18 (by omega), f0.1 18 (by omega)]
    exact ⟨⟨r1, r3⟩, r2, r4.1, r4.2⟩
  · obtain ⟨r1, r2, r3, r4⟩ := hR.2.2.1 w hw
    obtain ⟨x1, x2, x3, x4, x5⟩ := vW w hw
    rw [b7.1 (c + 3) (by omega), b6.1 (c + 3) (by omega), b5.1 (c + 3) (by omega), b4.1 (c + 3) (by omega), d3 w (by omega), b2.1 22 (by omega), b1.1 22 (by omega), f0.1 22 (by omega)]
    exact ⟨r4, by show D 14 w < _; omega⟩
  · exact alK_lt hV2 (D 8 0) (Nat.le_refl _) n w b hb
end PW
