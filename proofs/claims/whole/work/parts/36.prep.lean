/-! THE CLASS'S COURSE PREPARED -/
/-- the boat that the acts tell a watcher at a step; whether he sneezes there; of the first m acts -/
def alK (D : RD) : Nat → Nat → Nat → Option Nat
  | 0, _, _ => none
  | m + 1, n, w => if D 17 m = w ∧ D 19 m = n ∧ D 18 m ≠ 0 then some (D 18 m - 1) else alK D m n w
def snK (D : RD) : Nat → Nat → Nat → Bool
  | 0, _, _ => false
  | m + 1, n, w => snK D m n w || (decide (D 17 m = w) && decide (D 19 m = n) && decide (D 18 m = 0))
/-- whether a show of the first m draws his eyes away there; ex: shows left out -/
def shK (D : RD) (ex : Nat → Bool) : Nat → Nat → Nat → Bool
  | 0, _, _ => false
  | m + 1, n, w => shK D ex m n w || (!ex m && decide (D 16 m = n) && decide (D 11 w ≤ D 15 m))
/-- as told, but these asleep -/
def tS (D : RD) (sl : Nat → Nat → Bool) : SU := (D 1 0, D 9, D 10, D 14, alK D (D 8 0), fun n w => !sl n w && !snK D (D 8 0) n w)
theorem bm_tb (p : Nat → Bool) (n i : Nat) : (bmN p n).testBit i = (decide (i < n) && p i) := by
  by_cases h : i < n
  · rw [Nat.testBit_eq_decide_div_mod_eq, bmN_bit h, decide_eq_true h, Bool.true_and]
    cases p i <;> rfl
  · rw [decide_eq_false h, Bool.false_and]
    exact Nat.testBit_lt_two_pow (Nat.lt_of_lt_of_le (bmN_lt p n) (Nat.pow_le_pow_right (by omega) (by omega)))
theorem nI_tb (A i : Nat) : (nI A).toBitVec.getLsbD i = (decide (i < 32) && A.testBit i) := by
  show (BitVec.ofNat 32 A).getLsbD i = _
  rw [BitVec.getLsbD_ofNat]
theorem nI_andn {A B C : Nat} (h : ∀ i, i < 32 → C.testBit i = (A.testBit i && !B.testBit i)) : nI A &&& (nI B ^^^ (-1 : Int32)) = nI C := by
  apply Int32.toBitVec.inj
  apply BitVec.eq_of_getLsbD_eq
  intro i hi
  rw [nI_tb, h i hi]
  show ((nI A).toBitVec &&& ((nI B).toBitVec ^^^ (-1 : Int32).toBitVec)).getLsbD i = _
  rw [BitVec.getLsbD_and, BitVec.getLsbD_xor, nI_tb, nI_tb]
  have e : ((-1 : Int32).toBitVec).getLsbD i = true := (by decide : ∀ i, i < 32 → ((-1 : Int32).toBitVec).getLsbD i = true) i hi
  rw [e]
  cases A.testBit i <;> cases B.testBit i <;> simp [hi]
theorem clr_b {p : Nat → Bool} {W k : Nat} (hk : k < 31) : nI (bmN p W) &&& (((1 : Int32) <<< (nI k &&& 31)) ^^^ (-1 : Int32)) = nI (bmN (fun w => p w && !decide (w = k)) W) := by
  rw [sh_1 hk]
  refine nI_andn (fun i hi => ?_)
  rw [bm_tb, bm_tb, Nat.testBit_two_pow]
  by_cases e : i = k
  · subst e; simp
  · simp [e, Ne.symm e]
theorem cp_n {n a b : Nat} {s : mT} (hn : n < 2 ^ 31) : ∃ s', cpI s a n (0 : Int32) b n (0 : Int32) (nI n) = some s' ∧ Fr b (b + 1) s s' ∧ ∀ k, k < n → s'.1 b k = s.1 a k := by
  have hc : ¬ (0 : Int32) < 0 ∧ ¬ (0 : Int32) < 0 ∧ ¬ nI n < 0 ∧ (0 : Int32).toNatClampNeg + (nI n).toNatClampNeg ≤ n ∧ (0 : Int32).toNatClampNeg + (nI n).toNatClampNeg ≤ n := by
    rw [nI_clamp hn, show (0 : Int32).toNatClampNeg = 0 from rfl]
    exact ⟨by decide, by decide, nI_pos hn, by omega, by omega⟩
  unfold cpI
  rw [if_pos hc]
  refine ⟨_, rfl, ⟨fun q hq => ?_, rfl⟩, fun k hk => ?_⟩
  · show va_up s.1 b _ q = s.1 q
    unfold va_up
    exact if_neg (by omega)
  · show va_up s.1 b _ b k = _
    unfold va_up va_cpy
    (try dsimp only)
    rw [if_pos rfl, nI_clamp hn, show (0 : Int32).toNatClampNeg = 0 from rfl, if_pos (by omega), Nat.zero_add, Nat.sub_zero]
theorem alK_s (D : RD) (m n w : Nat) : alK D (m + 1) n w = if D 17 m = w ∧ D 19 m = n ∧ D 18 m ≠ 0 then some (D 18 m - 1) else alK D m n w := rfl
theorem snK_s (D : RD) (m n w : Nat) : snK D (m + 1) n w = (snK D m n w || (decide (D 17 m = w) && decide (D 19 m = n) && decide (D 18 m = 0))) := rfl
theorem bm_s (p : Nat → Bool) (k : Nat) : bmN p (k + 1) = bmN p k + (if p k = true then 2 ^ k else 0) := rfl
section PP
variable {c n : Nat} {s : mT} {D : RD}
theorem draw_is {lu : Nat} {p : Nat → Bool} (hc : isCo c) (hV : VD D) (hR : RR 16 D s) (hn : n ≤ 20) (hlu : lu ≤ 9) (hA : s.1 (c + 26) n = nI (bmN p (D 6 0))) : ∃ s', gC_draw c (nI n) (nI lu) s = some s' ∧ Fr (c + 26) (c + 27) s s' ∧ s'.1 (c + 26) n = nI (bmN (fun w => p w && !decide (D 11 w ≤ lu)) (D 6 0)) ∧ ∀ m, m ≠ n → s'.1 (c + 26) m = s.1 (c + 26) m := by
  obtain ⟨⟨v1, v2, v3, v4, v5, v6, v7, v8, v9⟩, vB, vW, vS, vA, v0⟩ := hV
  have hW := hR.1.2.2.2.2.2.2.1
  obtain ⟨s2, f2, g3, g4, g5⟩ := wh_inv (f := gC_draw_h2 c (nI n) (nI lu)) (fun j q => q.1 = nI j ∧ Fr (c + 26) (c + 27) s q.2 ∧ q.2.1 (c + 26) n = nI (bmN (fun w => p w && !(decide (w < j) && decide (D 11 w ≤ lu))) (D 6 0)) ∧ ∀ m, m ≠ n → q.2.1 (c + 26) m = s.1 (c + 26) m) (fun r => Fr (c + 26) (c + 27) s r ∧ r.1 (c + 26) n = nI (bmN (fun w => p w && !decide (D 11 w ≤ lu)) (D 6 0)) ∧ ∀ m, m ≠ n → r.1 (c + 26) m = s.1 (c + 26) m) (D 6 0) (fun j hj q hq => by
      obtain ⟨i, s1⟩ := q
      obtain ⟨q1, q2, q3, q4⟩ := hq
      dsimp only at q1
      subst q1
      try dsimp only at q2
      try dsimp only at q3
      try dsimp only at q4
      try dsimp only at q5
      have e1 := congrFun (q2.1 16 (by omega)) 6
      have e19 := congrFun (q2.1 19 (by omega)) j
      have k1 := (hR.2.2.1 j hj).1
      have k2 := vW j hj
      have e9 : ¬ D 6 0 ≤ j := by omega
      (try dsimp only at q3)
      simp (disch := omega) only [gC_draw_h2, e1, hW, nI_leI, e9, if_false, rd_n, e19, k1, Option.bind_some, nI_ltI, q3, wr_n, nI_1, clr_b]
      by_cases h : lu < D 11 j
      · simp only [h, if_true, Option.bind_some]
        refine ⟨_, rfl, rfl, q2, ?_, q4⟩
        (try dsimp only)
        rw [q3]
        refine congrArg nI (bmN_congr (fun w hw => ?_))
        by_cases hwj : w = j
        · subst hwj; simp [Nat.not_le.mpr h]
        · have : (w < j + 1) = (w < j) := propext (by omega)
          simp [this]
      · simp only [h, if_false, Option.bind_some]
        refine ⟨_, rfl, rfl, q2.tr (Fr.st (by omega) (by omega)), ?_, fun m hm => ?_⟩
        · (try dsimp only)
          rw [stI_eq]
          refine congrArg nI (bmN_congr (fun w hw => ?_))
          by_cases hwj : w = j
          · subst hwj; simp [Nat.not_lt.mp h]
          · have : (w < j + 1) = (w < j) := propext (by omega)
            simp [this, hwj]
        · (try dsimp only)
          rw [stI_nk hm]
          exact q4 m hm) (fun q hq => by
      obtain ⟨i, s1⟩ := q
      obtain ⟨q1, q2, q3, q4⟩ := hq
      dsimp only at q1
      subst q1
      try dsimp only at q2
      try dsimp only at q3
      try dsimp only at q4
      try dsimp only at q5
      have e1 := congrFun (q2.1 16 (by omega)) 6
      simp (disch := omega) only [gC_draw_h2, e1, hW, nI_leI, Nat.le_refl, if_true]
      refine ⟨_, rfl, q2, ?_, q4⟩
      (try dsimp only at q3)
      rw [q3]
      refine congrArg nI (bmN_congr (fun w hw => ?_))
      simp [hw]) (q := ((0 : Int32), s)) ⟨rfl, Fr.rfl', by
        (try dsimp only)
        rw [hA]
        refine congrArg nI (bmN_congr (fun w hw => ?_))
        simp, fun m hm => rfl⟩ FU (FU_gt (by omega))
  refine ⟨s2, ?_, g3, g4, g5⟩
  unfold gC_draw
  rw [f2]
  rfl
theorem acts_is {sl : Nat → Nat → Bool} (hc : isCo c) (hV : VD D) (hR : RR 16 D s) (hL : ∀ n w, n ≤ D 0 0 → w < D 6 0 → s.1 (c + 5 + n) w = -1) (hA : ∀ n, n ≤ 20 → s.1 (c + 26) n = nI (bmN (fun w => !sl n w) (D 6 0))) : ∃ s', gC_prepareActs c s = some s' ∧ Fr (c + 5) (c + 27) s s' ∧ (∀ n w, n ≤ D 0 0 → w < D 6 0 → s'.1 (c + 5 + n) w = oz (alK D (D 8 0) n w)) ∧ ∀ n, n ≤ 20 → s'.1 (c + 26) n = nI (bmN (fun w => !sl n w && !snK D (D 8 0) n w) (D 6 0)) := by
  obtain ⟨⟨v1, v2, v3, v4, v5, v6, v7, v8, v9⟩, vB, vW, vS, vA, v0⟩ := hV
  have hN := hR.1.2.2.2.2.2.2.2.2
  obtain ⟨s2, f2, g3, g4, g5⟩ := wh_inv (f := gC_prepareActs_h2 c) (fun j q => q.1 = nI j ∧ Fr (c + 5) (c + 27) s q.2 ∧ (∀ n w, n ≤ D 0 0 → w < D 6 0 → q.2.1 (c + 5 + n) w = oz (alK D j n w)) ∧ ∀ n, n ≤ 20 → q.2.1 (c + 26) n = nI (bmN (fun w => !sl n w && !snK D j n w) (D 6 0))) (fun r => Fr (c + 5) (c + 27) s r ∧ (∀ n w, n ≤ D 0 0 → w < D 6 0 → r.1 (c + 5 + n) w = oz (alK D (D 8 0) n w)) ∧ ∀ n, n ≤ 20 → r.1 (c + 26) n = nI (bmN (fun w => !sl n w && !snK D (D 8 0) n w) (D 6 0))) (D 8 0) (fun j hj q hq => by
      obtain ⟨i, s1⟩ := q
      obtain ⟨q1, q2, q3, q4⟩ := hq
      dsimp only at q1
      subst q1
      try dsimp only at q2
      try dsimp only at q3
      try dsimp only at q4
      try dsimp only at q5
      have e1 := congrFun (q2.1 16 (by omega)) 8
      have e25 := congrFun (q2.1 25 (by omega)) j
      have e26 := congrFun (q2.1 26 (by omega)) j
      have e27 := congrFun (q2.1 27 (by omega)) j
      obtain ⟨k1, k2, k3⟩ := hR.2.2.2.2 j hj
      obtain ⟨a1, a2, a3⟩ := vA j hj
      have q4j := q4 (D 19 j) (by omega)
      have e9 : ¬ D 8 0 ≤ j := by omega
      (try dsimp only at q3 q4 q4j)
      simp (disch := omega) only [gC_prepareActs_h2, e1, hN, nI_leI, e9, if_false, rd_n, e25, e26, e27, k1, k2, k3, Option.bind_some, ↓ix_ite, ix_ite2, nI_clamp, wr_n, nI_1, q4j, clr_b]
      by_cases h : D 18 j = 0
      · rw [h, show nI 0 - (1 : Int32) = -1 from rfl, if_pos rfl, Option.bind_some]
        refine ⟨_, rfl, rfl, q2.tr (Fr.st (by omega) (by omega)), fun n w hn hw => ?_, fun n hn => ?_⟩
        · (try dsimp only)
          rw [stI_ne (by omega), q3 n w hn hw]
          rw [alK_s, if_neg (fun z => z.2.2 h)]
        · (try dsimp only)
          rw [stI_at]
          by_cases hnj : n = D 19 j
          · subst hnj
            rw [if_pos ⟨rfl, rfl⟩]
            refine congrArg nI (bmN_congr (fun w hw => ?_))
            rw [snK_s]
            by_cases hw2 : w = D 17 j
            · simp [hw2, h]
            · simp [hw2, Ne.symm hw2]
          · rw [if_neg (fun z => hnj z.2), q4 n hn]
            refine congrArg nI (bmN_congr (fun w hw => ?_))
            rw [snK_s]
            simp [Ne.symm hnj]
      · obtain ⟨b, hb⟩ : ∃ b, D 18 j = b + 1 := ⟨D 18 j - 1, by omega⟩
        rw [hb, nI_pred, if_neg (m1_n (by omega)), Option.bind_some]
        refine ⟨_, rfl, rfl, q2.tr (Fr.st (by omega) (by omega)), fun n w hn hw => ?_, fun n hn => ?_⟩
        · (try dsimp only)
          rw [stI_at]
          rw [alK_s]
          by_cases hnj : n = D 19 j ∧ w = D 17 j
          · obtain ⟨rfl, rfl⟩ := hnj
            rw [if_pos ⟨rfl, rfl⟩, if_pos ⟨rfl, rfl, h⟩, hb]
            rfl
          · rw [if_neg (fun z => hnj ⟨by omega, z.2⟩), if_neg (fun z => hnj ⟨z.2.1.symm, z.1.symm⟩)]
            exact q3 n w hn hw
        · (try dsimp only)
          rw [stI_ne (by omega), q4 n hn]
          refine congrArg nI (bmN_congr (fun w hw => ?_))
          rw [snK_s]
          simp [h]) (fun q hq => by
      obtain ⟨i, s1⟩ := q
      obtain ⟨q1, q2, q3, q4⟩ := hq
      dsimp only at q1
      subst q1
      try dsimp only at q2
      try dsimp only at q3
      try dsimp only at q4
      try dsimp only at q5
      have e1 := congrFun (q2.1 16 (by omega)) 8
      simp (disch := omega) only [gC_prepareActs_h2, e1, hN, nI_leI, Nat.le_refl, if_true]
      exact ⟨_, rfl, q2, q3, q4⟩) (q := ((0 : Int32), s)) ⟨rfl, Fr.rfl', fun n w hn hw => hL n w hn hw, fun n hn => by
        (try dsimp only)
        rw [hA n hn]
        refine congrArg nI (bmN_congr (fun w hw => ?_))
        simp [show snK D 0 n w = false from rfl]⟩ FU (FU_gt (by omega))
  refine ⟨s2, ?_, g3, g4, g5⟩
  unfold gC_prepareActs
  rw [f2]
  rfl
end PP
