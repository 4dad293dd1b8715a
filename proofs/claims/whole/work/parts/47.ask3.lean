/-! SIMPLE ASKING, more loops -/
section A3
variable {n w b o k : Nat} {s : mT} {D : RD} {xs : Nat → Int32} {T : SU}
/-! wavers -/
theorem c_wavers (h : IV xs D s) (hw : w < D 6 0) : wh FU (gL_wavers_h18 (nI w) s) ((0 : Int32), (1 : Int32)) = some (nI (cntB (fun n => decide (¬ rK D (T0 D) (n + 1) w = rK D (T0 D) n w)) (D 0 0))) := by
  obtain ⟨d0, d2, d5, d6, d7⟩ := h.bd
  refine wh_for (fun k => (nI (cntB (fun n => decide (¬ rK D (T0 D) (n + 1) w = rK D (T0 D) n w)) k), nI (k + 1))) (D 0 0) (fun k hk => ?_) ?_ FU (FU_gt (by omega))
  · have p1 := h.K (n := k) (w := w) (by omega) hw
    have p2 := h.K (n := k + 1) (w := w) (by omega) hw
    unfold gL_wavers_h18
    dsimp only
    rw [h.N, if_neg (nlt (by omega) (by omega) (by omega)), nI_pred, ix_ite (by omega) (by omega), nI_clamp (by omega), rd_n (by omega) (by omega), Option.bind_some, ix_ite (by omega) (by omega), nI_clamp (by omega), rd_n (by omega) (by omega), Option.bind_some, h.on (by omega) hw, h.on (by omega) hw, st_cn (by rw [nI_eq (by omega) (by omega)]; simp), Option.bind_some, nI_1]
  · unfold gL_wavers_h18
    dsimp only
    rw [h.N, if_pos (nI_lt (by omega) (by omega))]
theorem mq_wavers (h : MQq D T s) (hw : w < D 6 0) : wh FU (gM_wavers_h15 (nI w) s) ((0 : Int32), (1 : Int32)) = some (nI (cntB (fun n => decide (¬ rK D T (n + 1) w = rK D T n w)) (D 0 0))) := by
  obtain ⟨d0, d2, d5, d6⟩ := mq_b h
  refine wh_for (fun k => (nI (cntB (fun n => decide (¬ rK D T (n + 1) w = rK D T n w)) k), nI (k + 1))) (D 0 0) (fun k hk => ?_) ?_ FU (FU_gt (by omega))
  · have p1 := h.2.2.2.1 k w (by omega) hw
    have p2 := h.2.2.2.1 (k + 1) w (by omega) hw
    unfold gM_wavers_h15
    dsimp only
    rw [mq_N h, Option.bind_some, if_neg (nlt (by omega) (by omega) (by omega)), mq_on h (by omega) hw, Option.bind_some, nI_pred, mq_on h (by omega) hw, Option.bind_some, cnt_s]
    by_cases hc : rK D T (k + 1) w = rK D T k w
    · rw [if_pos (congrArg nI hc), Option.bind_some, if_neg (by simp [hc]), ← nI_0, nI_add, nI_1]
    · rw [if_neg (fun z => hc ((nI_eq (by omega) (by omega)).mp z)), Option.bind_some, if_pos (by simp [hc]), nI_1, nI_1]
  · unfold gM_wavers_h15
    dsimp only
    rw [mq_N h, Option.bind_some, if_pos (nI_lt (by omega) (by omega))]
theorem a_wavers (v1 : Int32) : AG (gL_wavers v1) (gM_wavers v1) := by
  intro xs D s h
  obtain ⟨s1, f1, k1, i1, p1, q1⟩ := h.asksW (v := v1)
  simp only [gL_wavers, gM_wavers, h.hasW, f1, Option.bind_some, bz_if]
  by_cases g2 : 0 ≤ v1.toInt ∧ v1.toInt < (D 6 0 : Int)
  · simp only [if_pos g2]
    obtain ⟨b, hb, rfl⟩ := of_in g2
    rw [c_wavers h hb, mq_wavers (q1 (h.isr (by omega))).1 hb]
    exact ⟨_, s1, rfl, rfl, i1⟩
  · simp only [if_neg g2, Option.bind_some]; exact ⟨_, s1, rfl, rfl, i1⟩
/-! total, fleet -/
theorem c_total (h : IV xs D s) (hb : b < D 5 0) : wh FU (gL_total_h19 (nI b) s) ((0 : Int32), (0 : Int32)) = some (nI (sumN (fun n => rE D (T0 D) n b) (D 0 0))) := by
  obtain ⟨d0, d2, d5, d6, d7⟩ := h.bd
  refine wh_for (fun k => (nI (sumN (fun n => rE D (T0 D) n b) k), nI k)) (D 0 0) (fun k hk => ?_) ?_ FU (FU_gt (by omega))
  · unfold gL_total_h19
    dsimp only
    rw [h.N, if_neg (nle (by omega) (by omega) (by omega)), ix_ite (by omega) (by omega), nI_clamp (by omega), rd_n (by omega) (by omega), Option.bind_some, h.ey hk hb, nI_add, nI_1]
    rfl
  · unfold gL_total_h19
    dsimp only
    rw [h.N, if_pos (nI_le (Nat.le_refl _) (by omega))]
theorem mq_total (h : MQq D T s) (hb : b < D 5 0) : wh FU (gM_total_h15 (nI b) s) ((0 : Int32), (0 : Int32)) = some (nI (sumN (fun n => rE D T n b) (D 0 0))) := by
  obtain ⟨d0, d2, d5, d6⟩ := mq_b h
  refine wh_for (fun k => (nI (sumN (fun n => rE D T n b) k), nI k)) (D 0 0) (fun k hk => ?_) ?_ FU (FU_gt (by omega))
  · unfold gM_total_h15
    dsimp only
    rw [mq_N h, Option.bind_some, if_neg (nle (by omega) (by omega) (by omega)), show (5 : Int32) = nI 5 from rfl, pk_mul, nI_add, rd_n (by omega) (by omega), Option.bind_some, h.2.2.1.2.2.1 k b hk hb, nI_add, nI_1]
    rfl
  · unfold gM_total_h15
    dsimp only
    rw [mq_N h, Option.bind_some, if_pos (nI_le (Nat.le_refl _) (by omega))]
theorem a_total (v1 : Int32) : AG (gL_total v1) (gM_total v1) := by
  intro xs D s h
  obtain ⟨s1, f1, k1, i1, p1, q1⟩ := h.asksB (v := v1)
  simp only [gL_total, gM_total, h.hasB, f1, Option.bind_some, bz_if]
  by_cases g2 : 0 ≤ v1.toInt ∧ v1.toInt < (D 5 0 : Int)
  · simp only [if_pos g2]
    obtain ⟨b, hb, rfl⟩ := of_in g2
    rw [c_total h hb, mq_total (q1 (h.isr (by omega))).1 hb]
    exact ⟨_, s1, rfl, rfl, i1⟩
  · simp only [if_neg g2, Option.bind_some]; exact ⟨_, s1, rfl, rfl, i1⟩
theorem c_fleet (h : IV xs D s) (hn : n ≤ D 0 0) : wh FU (gL_fleet_h19 (nI n) s) ((0 : Int32), (0 : Int32)) = some (nI (sumN (rP D (T0 D) n) (D 5 0))) := by
  obtain ⟨d0, d2, d5, d6, d7⟩ := h.bd
  refine wh_for (fun k => (nI (sumN (rP D (T0 D) n) k), nI k)) (D 5 0) (fun k hk => ?_) ?_ FU (FU_gt (by omega))
  · unfold gL_fleet_h19
    dsimp only
    rw [h.B, if_neg (nle (by omega) (by omega) (by omega)), ix_ite (by omega) (by omega), nI_clamp (by omega), rd_n (by omega) (by omega), Option.bind_some, h.pl hn hk, nI_add, nI_1]
    rfl
  · unfold gL_fleet_h19
    dsimp only
    rw [h.B, if_pos (nI_le (Nat.le_refl _) (by omega))]
theorem mq_fleet (h : MQq D T s) (hn : n ≤ D 0 0) : wh FU (gM_fleet_h15 (nI n) s) ((0 : Int32), (0 : Int32)) = some (nI (sumN (rP D T n) (D 5 0))) := by
  obtain ⟨d0, d2, d5, d6⟩ := mq_b h
  refine wh_for (fun k => (nI (sumN (rP D T n) k), nI k)) (D 5 0) (fun k hk => ?_) ?_ FU (FU_gt (by omega))
  · unfold gM_fleet_h15
    dsimp only
    rw [mq_B h, Option.bind_some, if_neg (nle (by omega) (by omega) (by omega)), mq_pl h hn hk, Option.bind_some, nI_add, nI_1]
    rfl
  · unfold gM_fleet_h15
    dsimp only
    rw [mq_B h, Option.bind_some, if_pos (nI_le (Nat.le_refl _) (by omega))]
theorem a_fleet (v1 : Int32) : AG (gL_fleet v1) (gM_fleet v1) := by
  intro xs D s h
  obtain ⟨s1, f1, k1, i1, p1, q1⟩ := h.asksS (v := v1)
  simp only [gL_fleet, gM_fleet, h.hasS, f1, Option.bind_some, bz_if]
  by_cases g2 : 0 < D 4 0 ∧ 0 ≤ v1.toInt ∧ v1.toInt < (D 0 0 : Int) + 1
  · simp only [if_pos g2]
    obtain ⟨n, hn, rfl⟩ := of_inS g2.2
    rw [c_fleet h hn, mq_fleet (q1 g2.1).1 hn]
    exact ⟨_, s1, rfl, rfl, i1⟩
  · simp only [if_neg g2, Option.bind_some]; exact ⟨_, s1, rfl, rfl, i1⟩
/-! gaze, calmest: the first with most, if more than 0 -/
def bmO (f : Nat → Nat) : Nat → Option Nat × Nat
  | 0 => (none, 0)
  | j + 1 => if f j ≤ (bmO f j).2 then bmO f j else (some j, f j)
theorem c_gaze (h : IV xs D s) (hw : w < D 6 0) : wh FU (gL_gaze_h21 (nI w) s) ((-1 : Int32), (0 : Int32), (0 : Int32)) = some (oz (bmO (fun b => cntB (fun n => decide (rK D (T0 D) n w = b)) (D 0 0 + 1)) (D 5 0)).1) := by
  obtain ⟨d0, d2, d5, d6, d7⟩ := h.bd
  have hle : ∀ j, (bmO (fun b => cntB (fun n => decide (rK D (T0 D) n w = b)) (D 0 0 + 1)) j).2 ≤ 21 := fun j => by
    induction j with
    | zero => exact Nat.zero_le _
    | succ j ih =>
      unfold bmO
      split
      · exact ih
      · exact Nat.le_trans (cntB_le _ _) (by omega)
  refine wh_for (fun k => (oz (bmO (fun b => cntB (fun n => decide (rK D (T0 D) n w = b)) (D 0 0 + 1)) k).1, nI (bmO (fun b => cntB (fun n => decide (rK D (T0 D) n w = b)) (D 0 0 + 1)) k).2, nI k)) (D 5 0) (fun k hk => ?_) ?_ FU (FU_gt (by omega))
  · have c1 := cntB_le (fun n => decide (rK D (T0 D) n w = k)) (D 0 0 + 1)
    have c2 := hle k
    unfold gL_gaze_h21
    dsimp only
    rw [h.B, if_neg (nle (by omega) (by omega) (by omega)), kC_steps h.cv hw (by omega), Option.bind_some]
    conv => rhs; unfold bmO
    (try dsimp only)
    generalize bmO (fun b => cntB (fun n => decide (rK D (T0 D) n w = b)) (D 0 0 + 1)) k = z at *
    by_cases hc : cntB (fun n => decide (rK D (T0 D) n w = k)) (D 0 0 + 1) ≤ z.2
    · rw [if_pos (nI_le hc (by omega)), Option.bind_some, if_pos hc, nI_1]
    · rw [if_neg (nle (by omega) (by omega) hc), Option.bind_some, if_neg hc, nI_1]; rfl
  · unfold gL_gaze_h21
    dsimp only
    rw [h.B, if_pos (nI_le (Nat.le_refl _) (by omega))]
theorem mq_steps (h : MQq D T s) (hw : w < D 6 0) (hb : b ≤ 4) {x y : Int32} : wh FU (gM_gaze_h35 (nI w) x y (nI b) s) ((0 : Int32), (0 : Int32)) = some (nI (cntB (fun n => decide (rK D T n w = b)) (D 0 0 + 1))) := by
  obtain ⟨d0, d2, d5, d6⟩ := mq_b h
  refine wh_for (fun k => (nI (cntB (fun n => decide (rK D T n w = b)) k), nI k)) (D 0 0 + 1) (fun k hk => ?_) ?_ FU (FU_gt (by omega))
  · have p1 := h.2.2.2.1 k w (by omega) hw
    unfold gM_gaze_h35
    dsimp only
    rw [mq_N h, Option.bind_some, if_neg (nlt (by omega) (by omega) (by omega)), mq_on h (by omega) hw, Option.bind_some]
    exact st_m (by rw [nI_eq (by omega) (by omega)]; exact dt)
  · unfold gM_gaze_h35
    dsimp only
    rw [mq_N h, Option.bind_some, if_pos (nI_lt (by omega) (by omega))]
theorem mq_gaze (h : MQq D T s) (hw : w < D 6 0) : wh FU (gM_gaze_h18 (nI w) s) ((-1 : Int32), (0 : Int32), (0 : Int32)) = some (oz (bmO (fun b => cntB (fun n => decide (rK D T n w = b)) (D 0 0 + 1)) (D 5 0)).1) := by
  obtain ⟨d0, d2, d5, d6⟩ := mq_b h
  have hle : ∀ j, (bmO (fun b => cntB (fun n => decide (rK D T n w = b)) (D 0 0 + 1)) j).2 ≤ 21 := fun j => by
    induction j with
    | zero => exact Nat.zero_le _
    | succ j ih =>
      unfold bmO
      split
      · exact ih
      · exact Nat.le_trans (cntB_le _ _) (by omega)
  refine wh_for (fun k => (oz (bmO (fun b => cntB (fun n => decide (rK D T n w = b)) (D 0 0 + 1)) k).1, nI (bmO (fun b => cntB (fun n => decide (rK D T n w = b)) (D 0 0 + 1)) k).2, nI k)) (D 5 0) (fun k hk => ?_) ?_ FU (FU_gt (by omega))
  · have c1 := cntB_le (fun n => decide (rK D T n w = k)) (D 0 0 + 1)
    have c2 := hle k
    unfold gM_gaze_h18
    dsimp only
    rw [mq_B h, Option.bind_some, if_neg (nle (by omega) (by omega) (by omega)), mq_steps h hw (by omega), Option.bind_some]
    conv => rhs; unfold bmO
    (try dsimp only)
    generalize bmO (fun b => cntB (fun n => decide (rK D T n w = b)) (D 0 0 + 1)) k = z at *
    by_cases hc : cntB (fun n => decide (rK D T n w = k)) (D 0 0 + 1) ≤ z.2
    · rw [if_neg (nlt (by omega) (by omega) (by omega)), Option.bind_some, if_pos hc, nI_1]
    · rw [if_pos (nI_lt (by omega) (by omega)), Option.bind_some, if_neg hc, nI_1]; rfl
  · unfold gM_gaze_h18
    dsimp only
    rw [mq_B h, Option.bind_some, if_pos (nI_le (Nat.le_refl _) (by omega))]
theorem a_gaze (v1 : Int32) : AG (gL_gaze v1) (gM_gaze v1) := by
  intro xs D s h
  obtain ⟨s1, f1, k1, i1, p1, q1⟩ := h.asksW (v := v1)
  simp only [gL_gaze, gM_gaze, h.hasW, f1, Option.bind_some, bz_if]
  by_cases g2 : 0 ≤ v1.toInt ∧ v1.toInt < (D 6 0 : Int)
  · simp only [if_pos g2]
    obtain ⟨b, hb, rfl⟩ := of_in g2
    rw [c_gaze h hb, mq_gaze (q1 (h.isr (by omega))).1 hb]
    exact ⟨_, s1, rfl, rfl, i1⟩
  · simp only [if_neg g2, Option.bind_some]; exact ⟨_, s1, rfl, rfl, i1⟩
theorem bmO_le (f : Nat → Nat) (c j : Nat) (h : ∀ i, f i ≤ c) : (bmO f j).2 ≤ c := by
  induction j with
  | zero => exact Nat.zero_le _
  | succ j ih =>
    unfold bmO
    split
    · exact ih
    · exact h j
theorem c_calmest (h : IV xs D s) : wh FU (gL_calmest_h19 s) ((-1 : Int32), (0 : Int32), (0 : Int32)) = some (oz (bmO (fun b => pcN (bmN (calmB (D 2 0) (rP D (T0 D)) (rE D (T0 D)) (D 10) b) (D 0 0)) 20) (D 5 0)).1) := by
  obtain ⟨d0, d2, d5, d6, d7⟩ := h.bd
  refine wh_for (fun k => (oz (bmO (fun b => pcN (bmN (calmB (D 2 0) (rP D (T0 D)) (rE D (T0 D)) (D 10) b) (D 0 0)) 20) k).1, nI (bmO (fun b => pcN (bmN (calmB (D 2 0) (rP D (T0 D)) (rE D (T0 D)) (D 10) b) (D 0 0)) 20) k).2, nI k)) (D 5 0) (fun k hk => ?_) ?_ FU (FU_gt (by omega))
  · have c2 := bmO_le (fun b => pcN (bmN (calmB (D 2 0) (rP D (T0 D)) (rE D (T0 D)) (D 10) b) (D 0 0)) 20) 20 k (fun i => pcN_le _ _)
    have hb := bmN_lt (calmB (D 2 0) (rP D (T0 D)) (rE D (T0 D)) (D 10) k) (D 0 0)
    have hb2 : 2 ^ D 0 0 ≤ 2 ^ 20 := Nat.pow_le_pow_right (by omega) d0
    have c1 := pcN_le (bmN (calmB (D 2 0) (rP D (T0 D)) (rE D (T0 D)) (D 10) k) (D 0 0)) 20
    unfold gL_calmest_h19
    dsimp only
    rw [h.B, if_neg (nle (by omega) (by omega) (by omega)), kC_calm h.cv hk, Option.bind_some, bitCount_is (by omega), Option.bind_some]
    conv => rhs; unfold bmO
    (try dsimp only)
    generalize bmO (fun b => pcN (bmN (calmB (D 2 0) (rP D (T0 D)) (rE D (T0 D)) (D 10) b) (D 0 0)) 20) k = z at *
    by_cases hc : pcN (bmN (calmB (D 2 0) (rP D (T0 D)) (rE D (T0 D)) (D 10) k) (D 0 0)) 20 ≤ z.2
    · rw [if_pos (nI_le hc (by omega)), Option.bind_some, if_pos hc, nI_1]
    · rw [if_neg (nle (by omega) (by omega) hc), Option.bind_some, if_neg hc, nI_1]; rfl
  · unfold gL_calmest_h19
    dsimp only
    rw [h.B, if_pos (nI_le (Nat.le_refl _) (by omega))]
theorem mq_calmest (h : MQq D T s) : wh FU (gM_calmest_h16 s) ((-1 : Int32), (0 : Int32), (0 : Int32)) = some (oz (bmO (fun b => pcN (bmN (calmB (D 2 0) (rP D T) (rE D T) T.2.2.1 b) (D 0 0)) 20) (D 5 0)).1) := by
  obtain ⟨d0, d2, d5, d6⟩ := mq_b h
  refine wh_for (fun k => (oz (bmO (fun b => pcN (bmN (calmB (D 2 0) (rP D T) (rE D T) T.2.2.1 b) (D 0 0)) 20) k).1, nI (bmO (fun b => pcN (bmN (calmB (D 2 0) (rP D T) (rE D T) T.2.2.1 b) (D 0 0)) 20) k).2, nI k)) (D 5 0) (fun k hk => ?_) ?_ FU (FU_gt (by omega))
  · have c2 := bmO_le (fun b => pcN (bmN (calmB (D 2 0) (rP D T) (rE D T) T.2.2.1 b) (D 0 0)) 20) 20 k (fun i => pcN_le _ _)
    have hb := bmN_lt (calmB (D 2 0) (rP D T) (rE D T) T.2.2.1 k) (D 0 0)
    have hb2 : 2 ^ D 0 0 ≤ 2 ^ 20 := Nat.pow_le_pow_right (by omega) d0
    have c1 := pcN_le (bmN (calmB (D 2 0) (rP D T) (rE D T) T.2.2.1 k) (D 0 0)) 20
    unfold gM_calmest_h16
    dsimp only
    rw [mq_B h, Option.bind_some, if_neg (nle (by omega) (by omega) (by omega)), mq_calm h hk, Option.bind_some, m_bits (by omega), Option.bind_some]
    conv => rhs; unfold bmO
    (try dsimp only)
    generalize bmO (fun b => pcN (bmN (calmB (D 2 0) (rP D T) (rE D T) T.2.2.1 b) (D 0 0)) 20) k = z at *
    by_cases hc : pcN (bmN (calmB (D 2 0) (rP D T) (rE D T) T.2.2.1 k) (D 0 0)) 20 ≤ z.2
    · rw [if_neg (nlt (by omega) (by omega) (by omega)), Option.bind_some, if_pos hc, nI_1]
    · rw [if_pos (nI_lt (by omega) (by omega)), Option.bind_some, m_bits (by omega), Option.bind_some, Option.bind_some, if_neg hc, nI_1]; rfl
  · unfold gM_calmest_h16
    dsimp only
    rw [mq_B h, Option.bind_some, if_pos (nI_le (Nat.le_refl _) (by omega))]
theorem a_calmest : AG gL_calmest gM_calmest := by
  intro xs D s h
  obtain ⟨s1, f1, k1, i1, p1, q1⟩ := h.asks
  simp only [gL_calmest, gM_calmest, h.ex, f1, Option.bind_some, bz_if]
  by_cases g2 : 0 < D 4 0
  · simp only [if_pos g2]
    rw [c_calmest h, mq_calmest (q1 g2).1]
    exact ⟨_, s1, rfl, rfl, i1⟩
  · simp only [if_neg g2, Option.bind_some]; exact ⟨_, s1, rfl, rfl, i1⟩
/-! faithful -/
theorem cnt_all {p : Nat → Bool} {n : Nat} : (cntB p n = n) ↔ allN p n = true := by
  induction n with
  | zero => exact ⟨fun _ => rfl, fun _ => rfl⟩
  | succ n ih =>
    have h1 := cntB_le p n
    unfold cntB allN
    rw [Bool.and_eq_true, ← ih]
    by_cases h : p n = true
    · rw [if_pos h]; exact ⟨fun z => ⟨by omega, h⟩, fun z => by omega⟩
    · rw [if_neg h]; exact ⟨fun z => by omega, fun z => absurd z.2 h⟩
theorem c_faithful (h : IV xs D s) : wh FU (gL_faithful_h17 s) ((0 : Int32), (0 : Int32)) = some (nI (bmN (fun w => allN (fun n => decide (rK D (T0 D) n w = D 14 w)) (D 0 0 + 1)) (D 6 0))) := by
  obtain ⟨d0, d2, d5, d6, d7⟩ := h.bd
  refine wh_for (fun k => (nI (bmN (fun w => allN (fun n => decide (rK D (T0 D) n w = D 14 w)) (D 0 0 + 1)) k), nI k)) (D 6 0) (fun k hk => ?_) ?_ FU (FU_gt (by omega))
  · have e1 := (h.R.2.2.1 k hk).2.2.2
    have e2 := h.V.2.2.1 k hk
    have c1 := cntB_le (fun n => decide (rK D (T0 D) n k = D 14 k)) (D 0 0 + 1)
    unfold gL_faithful_h17
    dsimp only
    rw [h.W, if_neg (nle (by omega) (by omega) (by omega)), rd_n (by omega) (by omega), Option.bind_some, e1, kC_steps h.cv hk (by omega), Option.bind_some, h.N, nI_1, st_b (by omega) (by rw [nI_eq (by omega) (by omega)]; exact cnt_all), Option.bind_some, nI_1]
  · unfold gL_faithful_h17
    dsimp only
    rw [h.W, if_pos (nI_le (Nat.le_refl _) (by omega))]
theorem mq_faith1 (h : MQq D T s) (hw : w < D 6 0) {x : Int32} : wh FU (gM_faithful_h29 x (nI w) s) ((1 : Int32), (0 : Int32)) = some (bz (allN (fun n => decide (rK D T n w = D 14 w)) (D 0 0 + 1))) := by
  obtain ⟨d0, d2, d5, d6⟩ := mq_b h
  have e2 := h.1.2.2.1 w hw
  refine wh_for (fun k => (bz (allN (fun n => decide (rK D T n w = D 14 w)) k), nI k)) (D 0 0 + 1) (fun k hk => ?_) ?_ FU (FU_gt (by omega))
  · have p1 := h.2.2.2.1 k w (by omega) hw
    unfold gM_faithful_h29
    dsimp only
    rw [mq_N h, Option.bind_some, if_neg (nlt (by omega) (by omega) (by omega)), mq_on h (by omega) hw, of_3 h.1 h.2.1 hw, Option.bind_some, Option.bind_some]
    conv => rhs; unfold allN
    cases allN (fun n => decide (rK D T n w = D 14 w)) k with
    | false => rw [bz_f, if_pos rfl, Option.bind_some, nI_1]; rfl
    | true =>
      rw [bz_t, if_neg (by decide)]
      by_cases hc : rK D T k w = D 14 w
      · rw [if_pos (congrArg nI hc), Option.bind_some, nI_1, decide_eq_true hc]; rfl
      · rw [if_neg (fun z => hc ((nI_eq (by omega) (by omega)).mp z)), Option.bind_some, nI_1, decide_eq_false hc]; rfl
  · unfold gM_faithful_h29
    dsimp only
    rw [mq_N h, Option.bind_some, if_pos (nI_lt (by omega) (by omega))]
theorem mq_faithful (h : MQq D T s) : wh FU (gM_faithful_h14 s) ((0 : Int32), (0 : Int32)) = some (nI (bmN (fun w => allN (fun n => decide (rK D T n w = D 14 w)) (D 0 0 + 1)) (D 6 0))) := by
  obtain ⟨d0, d2, d5, d6⟩ := mq_b h
  refine wh_for (fun k => (nI (bmN (fun w => allN (fun n => decide (rK D T n w = D 14 w)) (D 0 0 + 1)) k), nI k)) (D 6 0) (fun k hk => ?_) ?_ FU (FU_gt (by omega))
  · unfold gM_faithful_h14
    dsimp only
    rw [mq_W h, Option.bind_some, if_neg (nle (by omega) (by omega) (by omega)), mq_faith1 h hk, Option.bind_some]
    exact st_mbn (by omega) (bz_0 _)
  · unfold gM_faithful_h14
    dsimp only
    rw [mq_W h, Option.bind_some, if_pos (nI_le (Nat.le_refl _) (by omega))]
theorem a_faithful : AG gL_faithful gM_faithful := by
  intro xs D s h
  obtain ⟨s1, f1, k1, i1, p1, q1⟩ := h.asks
  simp only [gL_faithful, gM_faithful, h.ex, f1, Option.bind_some, bz_if]
  by_cases g2 : 0 < D 4 0
  · simp only [if_pos g2]
    rw [c_faithful h, mq_faithful (q1 g2).1]
    exact ⟨_, s1, rfl, rfl, i1⟩
  · simp only [if_neg g2, Option.bind_some]; exact ⟨_, s1, rfl, rfl, i1⟩
/-! unseen, arrived -/
theorem c_unseen (h : IV xs D s) (hn : n ≤ D 0 0) : wh FU (gL_unseen_h19 (nI n) s) ((0 : Int32), (0 : Int32)) = some (nI (bmN (fun b => decide (bmN (fun w => decide (rK D (T0 D) n w = b)) (D 6 0) = 0)) (D 5 0))) := by
  obtain ⟨d0, d2, d5, d6, d7⟩ := h.bd
  have b2 : 2 ^ D 6 0 ≤ 2 ^ 5 := Nat.pow_le_pow_right (by omega) (by omega)
  refine wh_for (fun k => (nI (bmN (fun b => decide (bmN (fun w => decide (rK D (T0 D) n w = b)) (D 6 0) = 0)) k), nI k)) (D 5 0) (fun k hk => ?_) ?_ FU (FU_gt (by omega))
  · have b1 := bmN_lt (fun w => decide (rK D (T0 D) n w = k)) (D 6 0)
    unfold gL_unseen_h19
    dsimp only
    rw [h.B, if_neg (nle (by omega) (by omega) (by omega)), kC_lookers h.cv hn hk, Option.bind_some, st_b (by omega) (by rw [← nI_0, nI_eq (by omega) (by omega)]; exact dt), Option.bind_some, nI_1]
  · unfold gL_unseen_h19
    dsimp only
    rw [h.B, if_pos (nI_le (Nat.le_refl _) (by omega))]
theorem mq_unseen (h : MQq D T s) (hn : n ≤ D 0 0) : wh FU (gM_unseen_h15 (nI n) s) ((0 : Int32), (0 : Int32)) = some (nI (bmN (fun b => decide (bmN (fun w => decide (rK D T n w = b)) (D 6 0) = 0)) (D 5 0))) := by
  obtain ⟨d0, d2, d5, d6⟩ := mq_b h
  have b2 : 2 ^ D 6 0 ≤ 2 ^ 5 := Nat.pow_le_pow_right (by omega) (by omega)
  refine wh_for (fun k => (nI (bmN (fun b => decide (bmN (fun w => decide (rK D T n w = b)) (D 6 0) = 0)) k), nI k)) (D 5 0) (fun k hk => ?_) ?_ FU (FU_gt (by omega))
  · have b1 := bmN_lt (fun w => decide (rK D T n w = k)) (D 6 0)
    unfold gM_unseen_h15
    dsimp only
    rw [mq_B h, Option.bind_some, if_neg (nle (by omega) (by omega) (by omega)), mq_lookers h hn hk, Option.bind_some]
    exact st_mb (by omega) (by rw [← nI_0, nI_eq (by omega) (by omega)]; exact dt)
  · unfold gM_unseen_h15
    dsimp only
    rw [mq_B h, Option.bind_some, if_pos (nI_le (Nat.le_refl _) (by omega))]
theorem a_unseen (v1 : Int32) : AG (gL_unseen v1) (gM_unseen v1) := by
  intro xs D s h
  obtain ⟨s1, f1, k1, i1, p1, q1⟩ := h.asksS (v := v1)
  simp only [gL_unseen, gM_unseen, h.hasS, f1, Option.bind_some, bz_if]
  by_cases g2 : 0 < D 4 0 ∧ 0 ≤ v1.toInt ∧ v1.toInt < (D 0 0 : Int) + 1
  · simp only [if_pos g2]
    obtain ⟨n, hn, rfl⟩ := of_inS g2.2
    rw [c_unseen h hn, mq_unseen (q1 g2.1).1 hn]
    exact ⟨_, s1, rfl, rfl, i1⟩
  · simp only [if_neg g2, Option.bind_some]; exact ⟨_, s1, rfl, rfl, i1⟩
theorem c_arrived (h : IV xs D s) (hn : n ≤ D 0 0) : wh FU (gL_arrived_h19 (nI n) s) ((0 : Int32), (0 : Int32)) = some (nI (bmN (fun b => decide (D 2 0 ≤ rP D (T0 D) n b)) (D 5 0))) := by
  obtain ⟨d0, d2, d5, d6, d7⟩ := h.bd
  refine wh_for (fun k => (nI (bmN (fun b => decide (D 2 0 ≤ rP D (T0 D) n b)) k), nI k)) (D 5 0) (fun k hk => ?_) ?_ FU (FU_gt (by omega))
  · unfold gL_arrived_h19
    dsimp only
    rw [h.B, if_neg (nle (by omega) (by omega) (by omega)), kC_isHome h.cv hn hk, Option.bind_some, st_bn (p := fun b => decide (D 2 0 ≤ rP D (T0 D) n b)) (by omega) (bz_0 _), Option.bind_some, nI_1]
  · unfold gL_arrived_h19
    dsimp only
    rw [h.B, if_pos (nI_le (Nat.le_refl _) (by omega))]
theorem mq_arrived (h : MQq D T s) (hn : n ≤ D 0 0) : wh FU (gM_arrived_h15 (nI n) s) ((0 : Int32), (0 : Int32)) = some (nI (bmN (fun b => decide (D 2 0 ≤ rP D T n b)) (D 5 0))) := by
  obtain ⟨d0, d2, d5, d6⟩ := mq_b h
  refine wh_for (fun k => (nI (bmN (fun b => decide (D 2 0 ≤ rP D T n b)) k), nI k)) (D 5 0) (fun k hk => ?_) ?_ FU (FU_gt (by omega))
  · have p1 := rP_le (D := D) (T := T) n k
    unfold gM_arrived_h15
    dsimp only
    rw [mq_B h, Option.bind_some, if_neg (nle (by omega) (by omega) (by omega)), mq_pl h hn hk, Option.bind_some, mq_G h, Option.bind_some]
    exact st_mb (by omega) (by rw [nI_eq (by omega) (by omega), decide_eq_true_eq]; omega)
  · unfold gM_arrived_h15
    dsimp only
    rw [mq_B h, Option.bind_some, if_pos (nI_le (Nat.le_refl _) (by omega))]
theorem a_arrived (v1 : Int32) : AG (gL_arrived v1) (gM_arrived v1) := by
  intro xs D s h
  obtain ⟨s1, f1, k1, i1, p1, q1⟩ := h.asksS (v := v1)
  simp only [gL_arrived, gM_arrived, h.hasS, f1, Option.bind_some, bz_if]
  by_cases g2 : 0 < D 4 0 ∧ 0 ≤ v1.toInt ∧ v1.toInt < (D 0 0 : Int) + 1
  · simp only [if_pos g2]
    obtain ⟨n, hn, rfl⟩ := of_inS g2.2
    rw [c_arrived h hn, mq_arrived (q1 g2.1).1 hn]
    exact ⟨_, s1, rfl, rfl, i1⟩
  · simp only [if_neg g2, Option.bind_some]; exact ⟨_, s1, rfl, rfl, i1⟩
/-! even -/
theorem c_even (h : IV xs D s) (hb : b < D 5 0) (ho : o < D 5 0) : wh FU (gL_even_h32 (nI b) (nI o) s) ((0 : Int32), (0 : Int32)) = some (nI (cntB (fun n => decide (rP D (T0 D) n b = rP D (T0 D) n o)) (D 0 0 + 1))) := by
  obtain ⟨d0, d2, d5, d6, d7⟩ := h.bd
  refine wh_for (fun k => (nI (cntB (fun n => decide (rP D (T0 D) n b = rP D (T0 D) n o)) k), nI k)) (D 0 0 + 1) (fun k hk => ?_) ?_ FU (FU_gt (by omega))
  · have p1 := h.P (n := k) (b := b)
    have p2 := h.P (n := k) (b := o)
    unfold gL_even_h32
    dsimp only
    rw [h.N, if_neg (nlt (by omega) (by omega) (by omega)), ix_ite (by omega) (by omega), nI_clamp (by omega), rd_n (by omega) (by omega), Option.bind_some, ix_ite2 (by omega) (by omega), rd_n (by omega) (by omega), Option.bind_some, h.pl (by omega) hb, h.pl (by omega) ho, st_c (by rw [nI_eq (by omega) (by omega)]; exact dt), Option.bind_some, nI_1]
  · unfold gL_even_h32
    dsimp only
    rw [h.N, if_pos (nI_lt (by omega) (by omega))]
theorem mq_even (h : MQq D T s) (hb : b < D 5 0) (ho : o < D 5 0) : wh FU (gM_even_h25 (nI b) (nI o) s) ((0 : Int32), (0 : Int32)) = some (nI (cntB (fun n => decide (rP D T n b = rP D T n o)) (D 0 0 + 1))) := by
  obtain ⟨d0, d2, d5, d6⟩ := mq_b h
  refine wh_for (fun k => (nI (cntB (fun n => decide (rP D T n b = rP D T n o)) k), nI k)) (D 0 0 + 1) (fun k hk => ?_) ?_ FU (FU_gt (by omega))
  · have p1 := mq_P h (n := k) (b := b)
    have p2 := mq_P h (n := k) (b := o)
    unfold gM_even_h25
    dsimp only
    rw [mq_N h, Option.bind_some, if_neg (nlt (by omega) (by omega) (by omega)), mq_pl h (by omega) hb, Option.bind_some, mq_pl h (by omega) ho, Option.bind_some]
    exact st_m (by rw [nI_eq (by omega) (by omega)]; exact dt)
  · unfold gM_even_h25
    dsimp only
    rw [mq_N h, Option.bind_some, if_pos (nI_lt (by omega) (by omega))]
theorem a_even (v1 v2 : Int32) : AG (gL_even v1 v2) (gM_even v1 v2) := by
  intro xs D s h
  obtain ⟨s1, f1, k1, i1, p1, q1⟩ := h.asksB (v := v1)
  simp only [gL_even, gM_even, h.hasB, f1, i1.mB, Option.bind_some, bz_if]
  by_cases g1 : 0 ≤ v1.toInt ∧ v1.toInt < (D 5 0 : Int)
  · by_cases g2 : 0 ≤ v2.toInt ∧ v2.toInt < (D 5 0 : Int)
    · simp only [if_pos g1, if_pos g2]
      obtain ⟨b, hb, rfl⟩ := of_in g1
      obtain ⟨o, ho, rfl⟩ := of_in g2
      rw [c_even h hb ho, mq_even (q1 (h.isr (by omega))).1 hb ho]
      exact ⟨_, s1, rfl, rfl, i1⟩
    · simp only [if_pos g1, if_neg g2, Option.bind_some]; exact ⟨_, s1, rfl, rfl, i1⟩
  · simp only [if_neg g1, ite_self, Option.bind_some]; exact ⟨_, s1, rfl, rfl, i1⟩
end A3
