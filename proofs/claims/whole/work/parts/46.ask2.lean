/-! SIMPLE ASKING, with loops -/
section A2
variable {n w b o k : Nat} {s : mT} {D : RD} {xs : Nat → Int32} {T : SU}
theorem cnt_s (p : Nat → Bool) (k : Nat) : cntB p (k + 1) = cntB p k + (if p k = true then 1 else 0) := rfl
/-- a count's step: as the class does it, as the model does it -/
theorem st_c {p : Nat → Bool} {k : Nat} {c : Prop} [Decidable c] (h : c ↔ p k = true) : (if c then some (nI (cntB p k) + (1 : Int32)) else some (nI (cntB p k))) = some (nI (cntB p (k + 1))) := by
  rw [cnt_s]
  by_cases hc : c
  · rw [if_pos hc, if_pos (h.mp hc), nI_1]
  · rw [if_neg hc, if_neg (fun z => hc (h.mpr z)), Nat.add_zero]
theorem st_cn {p : Nat → Bool} {k : Nat} {c : Prop} [Decidable c] (h : c ↔ p k = false) : (if c then some (nI (cntB p k)) else some (nI (cntB p k) + (1 : Int32))) = some (nI (cntB p (k + 1))) := by
  rw [cnt_s]
  by_cases hc : c
  · rw [if_pos hc, if_neg (by rw [h.mp hc]; decide), Nat.add_zero]
  · rw [if_neg hc, if_pos (by cases hp : p k; exact absurd (h.mpr hp) hc; rfl), nI_1]
theorem st_m {p : Nat → Bool} {k : Nat} {c : Prop} [Decidable c] (h : c ↔ p k = true) : ((if c then some (1 : Int32) else some (0 : Int32)).bind fun x => some (Sum.inl (nI (cntB p k) + x, nI k + (1 : Int32)))) = (some (Sum.inl (nI (cntB p (k + 1)), nI (k + 1))) : Option ((Int32 × Int32) ⊕ Int32)) := by
  rw [cnt_s]
  by_cases hc : c
  · rw [if_pos hc, if_pos (h.mp hc), Option.bind_some, nI_1, nI_1]
  · rw [if_neg hc, if_neg (fun z => hc (h.mpr z)), Option.bind_some, nI_1, ← nI_0, nI_add]
theorem st_mn {p : Nat → Bool} {k : Nat} {c : Prop} [Decidable c] (h : c ↔ p k = false) : ((if c then some (0 : Int32) else some (1 : Int32)).bind fun x => some (Sum.inl (nI (cntB p k) + x, nI k + (1 : Int32)))) = (some (Sum.inl (nI (cntB p (k + 1)), nI (k + 1))) : Option ((Int32 × Int32) ⊕ Int32)) := by
  rw [cnt_s]
  by_cases hc : c
  · rw [if_pos hc, if_neg (by rw [h.mp hc]; decide), Option.bind_some, nI_1, ← nI_0, nI_add]
  · rw [if_neg hc, if_pos (by cases hp : p k; exact absurd (h.mpr hp) hc; rfl), Option.bind_some, nI_1, nI_1]
/-- bits -/
theorem st_b {p : Nat → Bool} {k : Nat} {c : Prop} [Decidable c] (hk : k < 31) (h : c ↔ p k = true) : (if c then some (nI (bmN p k) ||| ((1 : Int32) <<< (nI k &&& 31))) else some (nI (bmN p k))) = some (nI (bmN p (k + 1))) := by
  show _ = some (nI (bmN p k + (if p k = true then 2 ^ k else 0)))
  by_cases hc : c
  · rw [if_pos hc, if_pos (h.mp hc), or_new hk]
  · rw [if_neg hc, if_neg (fun z => hc (h.mpr z)), Nat.add_zero]
theorem st_bn {p : Nat → Bool} {k : Nat} {c : Prop} [Decidable c] (hk : k < 31) (h : c ↔ p k = false) : (if c then some (nI (bmN p k)) else some (nI (bmN p k) ||| ((1 : Int32) <<< (nI k &&& 31)))) = some (nI (bmN p (k + 1))) := by
  show _ = some (nI (bmN p k + (if p k = true then 2 ^ k else 0)))
  by_cases hc : c
  · rw [if_pos hc, if_neg (by rw [h.mp hc]; decide), Nat.add_zero]
  · rw [if_neg hc, if_pos (by cases hp : p k; exact absurd (h.mpr hp) hc; rfl), or_new hk]
theorem st_mb {p : Nat → Bool} {k : Nat} {c : Prop} [Decidable c] (hk : k < 31) (h : c ↔ p k = true) : ((if c then some ((1 : Int32) <<< (nI k &&& 31)) else some (0 : Int32)).bind fun x => some (Sum.inl (nI (bmN p k) ||| x, nI k + (1 : Int32)))) = (some (Sum.inl (nI (bmN p (k + 1)), nI (k + 1))) : Option ((Int32 × Int32) ⊕ Int32)) := by
  show _ = some (Sum.inl (nI (bmN p k + (if p k = true then 2 ^ k else 0)), _))
  by_cases hc : c
  · rw [if_pos hc, if_pos (h.mp hc), Option.bind_some, or_new hk, nI_1]
  · rw [if_neg hc, if_neg (fun z => hc (h.mpr z)), Option.bind_some, ← nI_0, nI_or, Nat.or_zero, Nat.add_zero, nI_1]
theorem st_mbn {p : Nat → Bool} {k : Nat} {c : Prop} [Decidable c] (hk : k < 31) (h : c ↔ p k = false) : ((if c then some (0 : Int32) else some ((1 : Int32) <<< (nI k &&& 31))).bind fun x => some (Sum.inl (nI (bmN p k) ||| x, nI k + (1 : Int32)))) = (some (Sum.inl (nI (bmN p (k + 1)), nI (k + 1))) : Option ((Int32 × Int32) ⊕ Int32)) := by
  show _ = some (Sum.inl (nI (bmN p k + (if p k = true then 2 ^ k else 0)), _))
  by_cases hc : c
  · rw [if_pos hc, if_neg (by rw [h.mp hc]; decide), Option.bind_some, ← nI_0, nI_or, Nat.or_zero, Nat.add_zero, nI_1]
  · rw [if_neg hc, if_pos (by cases hp : p k; exact absurd (h.mpr hp) hc; rfl), Option.bind_some, or_new hk, nI_1]
theorem dt {c : Prop} [Decidable c] : c ↔ decide c = true := ⟨fun h => decide_eq_true h, fun h => of_decide_eq_true h⟩
theorem df {c : Prop} [Decidable c] : ¬ c ↔ decide c = false := ⟨fun h => decide_eq_false h, fun h => of_decide_eq_false h⟩
theorem nlt {a b : Nat} (ha : a < 2 ^ 31) (hb : b < 2 ^ 31) (h : ¬ a < b) : ¬ nI a < nI b := fun z => h ((nI_ltI ha hb).mp z)
theorem nle {a b : Nat} (ha : a < 2 ^ 31) (hb : b < 2 ^ 31) (h : ¬ a ≤ b) : ¬ nI a ≤ nI b := fun z => h ((nI_leI ha hb).mp z)
theorem ld31 {B : Nat} {p : Nat → Nat} (hB : B ≤ 5) : ∀ n, leadO B p = some n → n < 2 ^ 31 := fun n h => by have := leadO_lt h; omega
/-! front -/
theorem c_front (h : IV xs D s) (hb : b < D 5 0) : wh FU (gL_front_h19 (nI b) s) ((0 : Int32), (0 : Int32)) = some (nI (cntB (fun n => decide (leadO (D 5 0) (rP D (T0 D) n) = some b)) (D 0 0 + 1))) := by
  obtain ⟨d0, d2, d5, d6, d7⟩ := h.bd
  refine wh_for (fun k => (nI (cntB (fun n => decide (leadO (D 5 0) (rP D (T0 D) n) = some b)) k), nI k)) (D 0 0 + 1) (fun k hk => ?_) ?_ FU (FU_gt (by omega))
  · unfold gL_front_h19
    dsimp only
    rw [h.N, if_neg (nlt (by omega) (by omega) (by omega)), kC_leader h.cv (by omega), Option.bind_some, st_c (by rw [oz_iff (ld31 d5) (by omega)]; exact dt), Option.bind_some, nI_1]
  · unfold gL_front_h19
    dsimp only
    rw [h.N, if_pos (nI_lt (by omega) (by omega))]
theorem mq_front (h : MQq D T s) (hb : b < D 5 0) : wh FU (gM_front_h15 (nI b) s) ((0 : Int32), (0 : Int32)) = some (nI (cntB (fun n => decide (leadO (D 5 0) (rP D T n) = some b)) (D 0 0 + 1))) := by
  obtain ⟨d0, d2, d5, d6⟩ := mq_b h
  refine wh_for (fun k => (nI (cntB (fun n => decide (leadO (D 5 0) (rP D T n) = some b)) k), nI k)) (D 0 0 + 1) (fun k hk => ?_) ?_ FU (FU_gt (by omega))
  · unfold gM_front_h15
    dsimp only
    rw [mq_N h, Option.bind_some, if_neg (nlt (by omega) (by omega) (by omega)), mq_leads1 h (by omega), Option.bind_some]
    exact st_m (by rw [oz_iff (ld31 d5) (by omega)]; exact dt)
  · unfold gM_front_h15
    dsimp only
    rw [mq_N h, Option.bind_some, if_pos (nI_lt (by omega) (by omega))]
theorem a_front (v1 : Int32) : AG (gL_front v1) (gM_front v1) := by
  intro xs D s h
  obtain ⟨s1, f1, k1, i1, p1, q1⟩ := h.asksB (v := v1)
  simp only [gL_front, gM_front, h.hasB, f1, Option.bind_some, bz_if]
  by_cases g2 : 0 ≤ v1.toInt ∧ v1.toInt < (D 5 0 : Int)
  · simp only [if_pos g2]
    obtain ⟨b, hb, rfl⟩ := of_in g2
    rw [c_front h hb, mq_front (q1 (h.isr (by omega))).1 hb]
    exact ⟨_, s1, rfl, rfl, i1⟩
  · simp only [if_neg g2, Option.bind_some]; exact ⟨_, s1, rfl, rfl, i1⟩
/-! behind -/
theorem c_behind (h : IV xs D s) (hn : n ≤ D 0 0) (hb : b < D 5 0) : wh FU (gL_behind_h32 (nI b) (nI n) s) ((0 : Int32), (0 : Int32)) = some (nI (cntB (fun o => decide (¬ rP D (T0 D) n o ≤ rP D (T0 D) n b)) (D 5 0))) := by
  obtain ⟨d0, d2, d5, d6, d7⟩ := h.bd
  refine wh_for (fun k => (nI (cntB (fun o => decide (¬ rP D (T0 D) n o ≤ rP D (T0 D) n b)) k), nI k)) (D 5 0) (fun k hk => ?_) ?_ FU (FU_gt (by omega))
  · have p1 := h.P (n := n) (b := k)
    have p2 := h.P (n := n) (b := b)
    unfold gL_behind_h32
    dsimp only
    rw [h.B, if_neg (nle (by omega) (by omega) (by omega)), ix_ite (by omega) (by omega), nI_clamp (by omega), rd_n (by omega) (by omega), Option.bind_some, ix_ite2 (by omega) (by omega), rd_n (by omega) (by omega), Option.bind_some, h.pl hn hk, h.pl hn hb, st_cn (by rw [nI_leI (by omega) (by omega)]; simp), Option.bind_some, nI_1]
  · unfold gL_behind_h32
    dsimp only
    rw [h.B, if_pos (nI_le (Nat.le_refl _) (by omega))]
theorem mq_behind (h : MQq D T s) (hn : n ≤ D 0 0) (hb : b < D 5 0) : wh FU (gM_behind_h25 (nI b) (nI n) s) ((0 : Int32), (0 : Int32)) = some (nI (cntB (fun o => decide (¬ rP D T n o ≤ rP D T n b)) (D 5 0))) := by
  obtain ⟨d0, d2, d5, d6⟩ := mq_b h
  refine wh_for (fun k => (nI (cntB (fun o => decide (¬ rP D T n o ≤ rP D T n b)) k), nI k)) (D 5 0) (fun k hk => ?_) ?_ FU (FU_gt (by omega))
  · have p1 := mq_P h (n := n) (b := k)
    have p2 := mq_P h (n := n) (b := b)
    unfold gM_behind_h25
    dsimp only
    rw [mq_B h, Option.bind_some, if_neg (nle (by omega) (by omega) (by omega)), mq_pl h hn hk, Option.bind_some, mq_pl h hn hb, Option.bind_some]
    exact st_mn (by rw [nI_leI (by omega) (by omega)]; simp)
  · unfold gM_behind_h25
    dsimp only
    rw [mq_B h, Option.bind_some, if_pos (nI_le (Nat.le_refl _) (by omega))]
theorem a_behind (v1 v2 : Int32) : AG (gL_behind v1 v2) (gM_behind v1 v2) := by
  intro xs D s h
  obtain ⟨s1, f1, k1, i1, p1, q1⟩ := h.asksS (v := v2)
  simp only [gL_behind, gM_behind, h.hasB, h.hasS, f1, i1.mB, Option.bind_some, bz_if]
  by_cases g1 : 0 ≤ v1.toInt ∧ v1.toInt < (D 5 0 : Int)
  · by_cases g2 : 0 < D 4 0 ∧ 0 ≤ v2.toInt ∧ v2.toInt < (D 0 0 : Int) + 1
    · simp only [if_pos g1, if_pos g2]
      obtain ⟨b, hb, rfl⟩ := of_in g1
      obtain ⟨n, hn, rfl⟩ := of_inS g2.2
      rw [c_behind h hn hb, mq_behind (q1 g2.1).1 hn hb]
      exact ⟨_, s1, rfl, rfl, i1⟩
    · simp only [if_pos g1, if_neg g2, Option.bind_some]; exact ⟨_, s1, rfl, rfl, i1⟩
  · simp only [if_neg g1, ite_self, Option.bind_some]; exact ⟨_, s1, rfl, rfl, i1⟩
/-! changes: numbered from 1 -/
theorem lead_ld (h : IV xs D s) (hn : n ≤ D 0 0) : gC_leader 28 (nI n) s = some (oz (leadO (D 5 0) (rP D (T0 D) n))) := kC_leader h.cv hn
theorem c_changes (h : IV xs D s) : wh FU (gL_changes_h17 s) ((0 : Int32), (1 : Int32)) = some (nI (cntB (fun n => decide (¬ leadO (D 5 0) (rP D (T0 D) (n + 1)) = leadO (D 5 0) (rP D (T0 D) n))) (D 0 0))) := by
  obtain ⟨d0, d2, d5, d6, d7⟩ := h.bd
  refine wh_for (fun k => (nI (cntB (fun n => decide (¬ leadO (D 5 0) (rP D (T0 D) (n + 1)) = leadO (D 5 0) (rP D (T0 D) n))) k), nI (k + 1))) (D 0 0) (fun k hk => ?_) ?_ FU (FU_gt (by omega))
  · unfold gL_changes_h17
    dsimp only
    rw [h.N, if_neg (nlt (by omega) (by omega) (by omega)), lead_ld h (by omega), Option.bind_some, nI_pred, lead_ld h (by omega), Option.bind_some, st_cn (by rw [oz_inj (ld31 d5) (ld31 d5)]; simp), Option.bind_some, nI_1]
  · unfold gL_changes_h17
    dsimp only
    rw [h.N, if_pos (nI_lt (by omega) (by omega))]
theorem mq_changes (h : MQq D T s) : wh FU (gM_changes_h14 s) ((0 : Int32), (1 : Int32)) = some (nI (cntB (fun n => decide (¬ leadO (D 5 0) (rP D T (n + 1)) = leadO (D 5 0) (rP D T n))) (D 0 0))) := by
  obtain ⟨d0, d2, d5, d6⟩ := mq_b h
  refine wh_for (fun k => (nI (cntB (fun n => decide (¬ leadO (D 5 0) (rP D T (n + 1)) = leadO (D 5 0) (rP D T n))) k), nI (k + 1))) (D 0 0) (fun k hk => ?_) ?_ FU (FU_gt (by omega))
  · unfold gM_changes_h14
    dsimp only
    rw [mq_N h, Option.bind_some, if_neg (nlt (by omega) (by omega) (by omega)), mq_leads1 h (by omega), Option.bind_some, nI_pred, mq_leads1 h (by omega), Option.bind_some]
    rw [cnt_s]
    by_cases hc : leadO (D 5 0) (rP D T (k + 1)) = leadO (D 5 0) (rP D T k)
    · rw [if_pos (congrArg oz hc), Option.bind_some, if_neg (by simp [hc]), ← nI_0, nI_add, nI_1]
    · rw [if_neg (by rw [oz_inj (ld31 d5) (ld31 d5)]; exact hc), Option.bind_some, if_pos (by simp [hc]), nI_1, nI_1]
  · unfold gM_changes_h14
    dsimp only
    rw [mq_N h, Option.bind_some, if_pos (nI_lt (by omega) (by omega))]
theorem a_changes : AG gL_changes gM_changes := by
  intro xs D s h
  obtain ⟨s1, f1, k1, i1, p1, q1⟩ := h.asks
  simp only [gL_changes, gM_changes, h.ex, f1, Option.bind_some, bz_if]
  by_cases g2 : 0 < D 4 0
  · simp only [if_pos g2]
    rw [c_changes h, mq_changes (q1 g2).1]
    exact ⟨_, s1, rfl, rfl, i1⟩
  · simp only [if_neg g2, Option.bind_some]; exact ⟨_, s1, rfl, rfl, i1⟩
end A2
