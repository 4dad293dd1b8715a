/-! THE CLASS'S COURSE SAILS as the spec says -/
section SL
variable {c n : Nat} {s : mT} {D : RD} {T : SU}
theorem RR.fr {r lo hi : Nat} {s s' : mT} (h : RR r D s) (hf : Fr lo hi s s') (hd : r + 12 ≤ lo ∨ hi ≤ r) : RR r D s' := by
  obtain ⟨h1, h2, h3, h4, h5⟩ := h
  have e0 := hf.1 r (by omega)
  have e1 := hf.1 (r + 1) (by omega)
  have e2 := hf.1 (r + 2) (by omega)
  have e3 := hf.1 (r + 3) (by omega)
  have e4 := hf.1 (r + 4) (by omega)
  have e5 := hf.1 (r + 5) (by omega)
  have e6 := hf.1 (r + 6) (by omega)
  have e7 := hf.1 (r + 7) (by omega)
  have e8 := hf.1 (r + 8) (by omega)
  have e9 := hf.1 (r + 9) (by omega)
  have e10 := hf.1 (r + 10) (by omega)
  have e11 := hf.1 (r + 11) (by omega)
  unfold RR
  rw [e0, e1, e2, e3, e4, e5, e6, e7, e8, e9, e10, e11]
  exact ⟨h1, h2, h3, h4, h5⟩
theorem PR.fr {lo hi : Nat} {s s' : mT} (h : PR c D T s) (hV : VD D) (hf : Fr lo hi s s') (hd : c + 27 ≤ lo ∨ hi ≤ c) : PR c D T s' := by
  obtain ⟨h1, h2, h3, h4, h5⟩ := h
  have hN := hV.1.1
  have e0 := hf.1 c (by omega)
  have e1 := hf.1 (c + 1) (by omega)
  have e2 := hf.1 (c + 2) (by omega)
  have e3 := hf.1 (c + 3) (by omega)
  have e5 := hf.1 (c + 26) (by omega)
  refine ⟨by rw [e0]; exact h1, fun b hb => by rw [e1, e2]; exact h2 b hb, fun w hw => by rw [e3]; exact h3 w hw, fun n w hn hw => ?_, fun n hn => by rw [e5]; exact h5 n hn⟩
  have e4 := hf.1 (c + 5 + n) (by omega)
  rw [e4]
  exact h4 n w hn hw
theorem countEyes_is {k : Nat → Nat} (hc : isCo c) (hV : VD D) (hR : RR 16 D s) (hA : s.1 (c + 26) n = nI (bmN (T.2.2.2.2.2 n) (D 6 0))) (hn : n < 20) (hk : ∀ w, w < D 6 0 → s.1 (c + 50 + n) w = nI (k w) ∧ k w < D 5 0) : ∃ s', gC_countEyes c (nI n) s = some s' ∧ Fr (c + 72 + n) (c + 73 + n) s s' ∧ ∀ b, b < D 5 0 → s'.1 (c + 72 + n) b = nI (eyN D (T.2.2.2.2.2 n) k b (D 6 0)) := by
  obtain ⟨⟨v1, v2, v3, v4, v5, v6, v7, v8, v9⟩, vB, vW, vS, vA, v0⟩ := hV
  have hB := hR.1.2.2.2.2.2.1
  have hW := hR.1.2.2.2.2.2.2.1
  have hEy := fun w hw => (hR.2.2.1 w hw).1
  obtain ⟨s1, f1, g1, g2⟩ := wh_inv (f := gC_countEyes_h9 c (nI n)) (fun k q => q.1 = nI k ∧ Fr (c + 72 + n) (c + 73 + n) s q.2 ∧ ∀ b, b < k → q.2.1 (c + 72 + n) b = nI 0) (fun r => Fr (c + 72 + n) (c + 73 + n) s r ∧ ∀ b, b < D 5 0 → r.1 (c + 72 + n) b = nI 0) (D 5 0) (fun k hk q hq => by
      obtain ⟨i, s1⟩ := q
      obtain ⟨q1, q2, q3⟩ := hq
      dsimp only at q1
      subst q1
      try dsimp only at q2
      try dsimp only at q3
      try dsimp only at q4
      try dsimp only at q5
      have e := congrFun (q2.1 16 (by omega)) 5
      have e9 : ¬ D 5 0 ≤ k := by omega
      simp (disch := omega) only [gC_countEyes_h9, e, hB, nI_leI, e9, if_false, nI_clamp, wr_n, Option.bind_some, nI_1]
      refine ⟨_, rfl, rfl, q2.tr (Fr.st (by omega) (by omega)), fun b hb => ?_⟩
      (try dsimp only)
      rw [stI_at]
      by_cases hbk : b = k
      · rw [if_pos ⟨rfl, hbk⟩]; rfl
      · rw [if_neg (fun z => hbk z.2)]
        exact q3 b (by omega)) (fun q hq => by
      obtain ⟨i, s1⟩ := q
      obtain ⟨q1, q2, q3⟩ := hq
      dsimp only at q1
      subst q1
      try dsimp only at q2
      try dsimp only at q3
      try dsimp only at q4
      try dsimp only at q5
      have e := congrFun (q2.1 16 (by omega)) 5
      simp (disch := omega) only [gC_countEyes_h9, e, hB, nI_leI, Nat.le_refl, if_true]
      exact ⟨_, rfl, q2, q3⟩) (q := ((0 : Int32), s)) ⟨rfl, Fr.rfl', fun b hb => absurd hb (Nat.not_lt_zero _)⟩ FU (FU_gt (by omega))
  obtain ⟨s2, f2, g3, g4⟩ := wh_inv (f := gC_countEyes_h32 c (nI n)) (fun j q => q.1 = nI j ∧ Fr (c + 72 + n) (c + 73 + n) s q.2 ∧ ∀ b, b < D 5 0 → q.2.1 (c + 72 + n) b = nI (eyN D (T.2.2.2.2.2 n) k b j)) (fun r => Fr (c + 72 + n) (c + 73 + n) s r ∧ ∀ b, b < D 5 0 → r.1 (c + 72 + n) b = nI (eyN D (T.2.2.2.2.2 n) k b (D 6 0))) (D 6 0) (fun j hj q hq => by
      obtain ⟨i, s1⟩ := q
      obtain ⟨q1, q2, q3⟩ := hq
      dsimp only at q1
      subst q1
      try dsimp only at q2
      try dsimp only at q3
      try dsimp only at q4
      try dsimp only at q5
      have e := congrFun (q2.1 16 (by omega)) 6
      have e26 := congrFun (q2.1 (c + 26) (by omega)) n
      have e50 := congrFun (q2.1 (c + 50 + n) (by omega)) j
      have e19 := congrFun (q2.1 19 (by omega)) j
      have k1 := hk j hj
      have k2 := hEy j hj
      have k3 := vW j hj
      have b1 := bmN_lt (T.2.2.2.2.2 n) (D 6 0)
      have b2 : 2 ^ D 6 0 ≤ 2 ^ 5 := Nat.pow_le_pow_right (by omega) (by omega)
      have b3 := bmN_bit (p := T.2.2.2.2.2 n) hj
      have e9 : ¬ D 6 0 ≤ j := by omega
      simp (disch := omega) only [gC_countEyes_h32, e, hW, nI_leI, e9, if_false, nI_clamp, rd_n, e26, hA, Option.bind_some, shr_b, b3, ↓ix_ite, ix_ite2, e50, k1.1, nI_1]
      have hs : ∀ b, eyN D (T.2.2.2.2.2 n) k b (j + 1) = eyN D (T.2.2.2.2.2 n) k b j + (if T.2.2.2.2.2 n j = true ∧ k j = b then D 11 j else 0) := fun b => rfl
      by_cases ha : T.2.2.2.2.2 n j = true
      · rw [if_pos ha, if_pos (show nI 1 = (1 : Int32) from rfl), q3 (k j) k1.2, e19, k2]
        simp (disch := omega) only [Option.bind_some, nI_add, wr_n]
        refine ⟨_, rfl, rfl, q2.tr (Fr.st (by omega) (by omega)), fun b hb => ?_⟩
        (try dsimp only)
        rw [stI_at, hs]
        by_cases hbk : b = k j
        · subst hbk
          rw [if_pos ⟨rfl, rfl⟩, if_pos ⟨ha, rfl⟩]
        · rw [if_neg (fun z => hbk z.2), if_neg (fun z => hbk z.2.symm), Nat.add_zero]
          exact q3 b hb
      · rw [if_neg ha, if_neg (by decide)]
        simp only [Option.bind_some]
        refine ⟨_, rfl, rfl, q2, fun b hb => ?_⟩
        rw [hs, if_neg (fun z => ha z.1), Nat.add_zero]
        exact q3 b hb) (fun q hq => by
      obtain ⟨i, s1⟩ := q
      obtain ⟨q1, q2, q3⟩ := hq
      dsimp only at q1
      subst q1
      try dsimp only at q2
      try dsimp only at q3
      try dsimp only at q4
      try dsimp only at q5
      have e := congrFun (q2.1 16 (by omega)) 6
      simp (disch := omega) only [gC_countEyes_h32, e, hW, nI_leI, Nat.le_refl, if_true]
      exact ⟨_, rfl, q2, q3⟩) (q := ((0 : Int32), s1)) ⟨rfl, g1, fun b hb => g2 b hb⟩ FU (FU_gt (by omega))
  refine ⟨s2, ?_, g3, g4⟩
  unfold gC_countEyes
  simp (disch := omega) only [↓ix_ite, ix_ite2, f1, f2, Option.bind_some]
end SL
