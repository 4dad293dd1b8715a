/-! SURVEY: the calls -/
section WAYS
variable {n w o b a k m l wd i j W c lw : Nat} {s s' s'' t : mT} {D D' : RD} {xs : Nat → Int32}
theorem AS_of2 {R : Type} {A B : mT → Option (R × mT)} (h : ∀ xs D s, IV xs D s → ∃ r s1, A s = some (r, s1) ∧ (∀ a, a < 121 ∨ 246 < a → s1.1 a = s.1 a) ∧ IV xs D s1 ∧ ∀ t, IV xs D t → ∃ t', B t = some (r, t') ∧ IV xs D t') : AS A B := fun xs D s hi => by
  obtain ⟨r, s1, h1, h2, h3, h4⟩ := h xs D s hi
  obtain ⟨t', h5, h6⟩ := h4 s1 h3
  have eXB : XB = 1000000 := rfl
  exact ⟨r, s1, t', D, h1, fun a ha => h2 a (by omega), h5, h6⟩
theorem m_asks (h : IV xs D s) (hb : b < D 5 0) : ∃ s', gM_asksLooks (nI b) s = some (1, s') ∧ IV xs D s' ∧ MSv D b (QN D) s' := by
  obtain ⟨t1, y1, y2, y3, y4⟩ := h.asIs
  obtain ⟨t2, x1, x2, x3⟩ := m_survey y3 y4 hb
  have hd := h.bd
  have g : 0 ≤ (nI b).toInt ∧ (nI b).toInt < (D 5 0 : Int) := by rw [nI_toInt (by omega)]; omega
  refine ⟨t2, ?_, x2, x3⟩
  unfold gM_asksLooks
  rw [y1, Option.bind_some, y3.mB, Option.bind_some, bz_if, if_pos g, x1, Option.bind_some]
theorem m_asksN {v : Int32} (h : IV xs D s) (hb : ¬ (0 ≤ v.toInt ∧ v.toInt < (D 5 0 : Int))) : ∃ s', gM_asksLooks v s = some (0, s') ∧ IV xs D s' := by
  obtain ⟨t1, y1, y2, y3, y4⟩ := h.asIs
  refine ⟨t1, ?_, y3⟩
  unfold gM_asksLooks
  rw [y1, Option.bind_some, y3.mB, Option.bind_some, bz_if, if_neg hb]
theorem or_none {x : Option Nat} (hx : ∀ u, x = some u → u ≤ 60) : gM_orNone (mzO x) s = some (oz x) := by
  unfold gM_orNone
  cases x with
  | none =>
    rw [show mzO none = (1000000000 : Int32) from rfl, if_neg (by decide), Option.bind_some]
    rfl
  | some u =>
    have := hx u rfl
    rw [show mzO (some u) = nI u from rfl, show (1000000000 : Int32) = nI 1000000000 from rfl, if_pos (nI_lt (by omega) (by omega)), Option.bind_some]
    rfl
theorem a_ways (v1 : Int32) : AS (gL_ways v1) (gM_ways v1) := AS_of2 fun xs D s h => by
  have hd := h.bd
  by_cases g : 0 ≤ v1.toInt ∧ v1.toInt < (D 5 0 : Int)
  · have g' := g
    obtain ⟨b, hb, rfl⟩ := of_in g
    obtain ⟨s1, f1, f2, f3, f4⟩ := c_survey h
    refine ⟨nI (wyN D b (QN D)), s1, ?_, fun a ha => f2 a (by omega), f3, fun t ht => ?_⟩
    · unfold gL_ways
      rw [h.hasB, Option.bind_some, bz_if, if_pos g', f1, Option.bind_some, rd_n (by omega) (by omega), Option.bind_some, (f4 b hb).1]
    · obtain ⟨t1, y1, y2, y3⟩ := m_asks ht hb
      refine ⟨t1, ?_, y2⟩
      unfold gM_ways
      rw [y1, Option.bind_some, if_neg (show ¬ (1 : Int32) = 0 by decide), Option.bind_some, y3.1]
  · refine ⟨-2, s, ?_, fun a _ => rfl, h, fun t ht => ?_⟩
    · unfold gL_ways
      rw [h.hasB, Option.bind_some, bz_if, if_neg g]
    · obtain ⟨t1, y1, y2⟩ := m_asksN ht g
      refine ⟨t1, ?_, y2⟩
      unfold gM_ways
      rw [y1, Option.bind_some, if_pos rfl, Option.bind_some]
theorem a_far (v1 : Int32) : AS (gL_far v1) (gM_far v1) := AS_of2 fun xs D s h => by
  have hd := h.bd
  by_cases g : 0 ≤ v1.toInt ∧ v1.toInt < (D 5 0 : Int)
  · have g' := g
    obtain ⟨b, hb, rfl⟩ := of_in g
    obtain ⟨s1, f1, f2, f3, f4⟩ := c_survey h
    refine ⟨nI (frN D b (QN D)), s1, ?_, fun a ha => f2 a (by omega), f3, fun t ht => ?_⟩
    · unfold gL_far
      rw [h.hasB, Option.bind_some, bz_if, if_pos g', f1, Option.bind_some, rd_n (by omega) (by omega), Option.bind_some, (f4 b hb).2.2.2.1]
    · obtain ⟨t1, y1, y2, y3⟩ := m_asks ht hb
      refine ⟨t1, ?_, y2⟩
      unfold gM_far
      rw [y1, Option.bind_some, if_neg (show ¬ (1 : Int32) = 0 by decide), Option.bind_some, y3.2.2.2.1]
  · refine ⟨-2, s, ?_, fun a _ => rfl, h, fun t ht => ?_⟩
    · unfold gL_far
      rw [h.hasB, Option.bind_some, bz_if, if_neg g]
    · obtain ⟨t1, y1, y2⟩ := m_asksN ht g
      refine ⟨t1, ?_, y2⟩
      unfold gM_far
      rw [y1, Option.bind_some, if_pos rfl, Option.bind_some]
theorem a_fewest (v1 : Int32) : AS (gL_fewest v1) (gM_fewest v1) := AS_of2 fun xs D s h => by
  have hd := h.bd
  by_cases g : 0 ≤ v1.toInt ∧ v1.toInt < (D 5 0 : Int)
  · have g' := g
    obtain ⟨b, hb, rfl⟩ := of_in g
    obtain ⟨s1, f1, f2, f3, f4⟩ := c_survey h
    refine ⟨oz (fwO D b (QN D)), s1, ?_, fun a ha => f2 a (by omega), f3, fun t ht => ?_⟩
    · unfold gL_fewest
      rw [h.hasB, Option.bind_some, bz_if, if_pos g', f1, Option.bind_some, rd_n (by omega) (by omega), Option.bind_some, (f4 b hb).2.1]
    · obtain ⟨t1, y1, y2, y3⟩ := m_asks ht hb
      refine ⟨t1, ?_, y2⟩
      unfold gM_fewest
      rw [y1, Option.bind_some, if_neg (show ¬ (1 : Int32) = 0 by decide), y3.2.1, or_none (fun u hu => by have := fw_le h.V hu; omega), Option.bind_some, Option.bind_some]
  · refine ⟨-2, s, ?_, fun a _ => rfl, h, fun t ht => ?_⟩
    · unfold gL_fewest
      rw [h.hasB, Option.bind_some, bz_if, if_neg g]
    · obtain ⟨t1, y1, y2⟩ := m_asksN ht g
      refine ⟨t1, ?_, y2⟩
      unfold gM_fewest
      rw [y1, Option.bind_some, if_pos rfl, Option.bind_some]
theorem a_soonest (v1 : Int32) : AS (gL_soonest v1) (gM_soonest v1) := AS_of2 fun xs D s h => by
  have hd := h.bd
  by_cases g : 0 ≤ v1.toInt ∧ v1.toInt < (D 5 0 : Int)
  · have g' := g
    obtain ⟨b, hb, rfl⟩ := of_in g
    obtain ⟨s1, f1, f2, f3, f4⟩ := c_survey h
    refine ⟨oz (snO D b (QN D)), s1, ?_, fun a ha => f2 a (by omega), f3, fun t ht => ?_⟩
    · unfold gL_soonest
      rw [h.hasB, Option.bind_some, bz_if, if_pos g', f1, Option.bind_some, rd_n (by omega) (by omega), Option.bind_some, (f4 b hb).2.2.1]
    · obtain ⟨t1, y1, y2, y3⟩ := m_asks ht hb
      refine ⟨t1, ?_, y2⟩
      unfold gM_soonest
      rw [y1, Option.bind_some, if_neg (show ¬ (1 : Int32) = 0 by decide), y3.2.2.1, or_none (fun u hu => by have := sn_le h.V hu; omega), Option.bind_some, Option.bind_some]
  · refine ⟨-2, s, ?_, fun a _ => rfl, h, fun t ht => ?_⟩
    · unfold gL_soonest
      rw [h.hasB, Option.bind_some, bz_if, if_neg g]
    · obtain ⟨t1, y1, y2⟩ := m_asksN ht g
      refine ⟨t1, ?_, y2⟩
      unfold gM_soonest
      rw [y1, Option.bind_some, if_pos rfl, Option.bind_some]
theorem a_plan (v1 v2 : Int32) : AS (gL_plan v1 v2) (gM_plan v1 v2) := AS_of2 fun xs D s h => by
  have hd := h.bd
  have hq := QN_le h.V
  by_cases g1 : 0 ≤ v1.toInt ∧ v1.toInt < (D 5 0 : Int)
  · by_cases g2 : 0 ≤ v2.toInt ∧ v2.toInt < (D 6 0 : Int)
    · obtain ⟨b, hb, rfl⟩ := of_in g1
      obtain ⟨w, hw, rfl⟩ := of_in g2
      obtain ⟨s1, f1, f2, f3, f4⟩ := c_survey h
      have wl := wy_le (D := D) (b := b) (k := QN D)
      refine ⟨oz (plN D b w (QN D)), s1, ?_, fun a ha => f2 a (by omega), f3, fun t ht => ?_⟩
      · unfold gL_plan
        rw [h.hasB, Option.bind_some, bz_if, if_pos g1, h.hasW, Option.bind_some, bz_if, if_pos g2, f1, Option.bind_some, ix_ite (by omega) (by omega), nI_clamp (by omega), rd_n (by omega) (by omega), Option.bind_some, (f4 b hb).2.2.2.2 w hw]
      · obtain ⟨t1, y1, y2, y3⟩ := m_asks ht hb
        refine ⟨t1, ?_, y2⟩
        unfold gM_plan
        rw [ht.mW, Option.bind_some, bz_if, if_pos g2, y1, Option.bind_some, if_neg (show ¬ (1 : Int32) = 0 by decide), y3.1]
        cases hp : plN D b w (QN D) with
        | none =>
          have e0 : wyN D b (QN D) = 0 := by
            refine cnt_0.mpr ?_
            unfold plN at hp
            cases hf : ffN (fun i => decide (wnI D i = some b)) (QN D) 0 with
            | none => rfl
            | some i => rw [hf] at hp; cases hp
          rw [e0, if_pos (show nI 0 = (0 : Int32) from rfl), Option.bind_some]
          rfl
        | some v =>
          have e0 : ¬ wyN D b (QN D) = 0 := fun z => by
            have := cnt_0.mp z
            unfold plN at hp
            rw [this] at hp
            cases hp
          rw [if_neg (show ¬ nI (wyN D b (QN D)) = (0 : Int32) from fun z => e0 ((nI_eq (b := 0) (by omega) (by omega)).mp z)), rd_n (by omega) (by omega), Option.bind_some, Option.bind_some, y3.2.2.2.2.2 w v hw hp]
          rfl
    · refine ⟨-2, s, ?_, fun a _ => rfl, h, fun t ht => ⟨t, ?_, ht⟩⟩
      · unfold gL_plan
        rw [h.hasB, Option.bind_some, bz_if, if_pos g1, h.hasW, Option.bind_some, bz_if, if_neg g2]
      · unfold gM_plan
        rw [ht.mW, Option.bind_some, bz_if, if_neg g2, Option.bind_some]
  · refine ⟨-2, s, ?_, fun a _ => rfl, h, fun t ht => ?_⟩
    · unfold gL_plan
      rw [h.hasB, Option.bind_some, bz_if, if_neg g1]
    · by_cases g2 : 0 ≤ v2.toInt ∧ v2.toInt < (D 6 0 : Int)
      · obtain ⟨t1, y1, y2⟩ := m_asksN ht g1
        refine ⟨t1, ?_, y2⟩
        unfold gM_plan
        rw [ht.mW, Option.bind_some, bz_if, if_pos g2, y1, Option.bind_some, if_pos rfl, Option.bind_some]
      · refine ⟨t, ?_, ht⟩
        unfold gM_plan
        rw [ht.mW, Option.bind_some, bz_if, if_neg g2, Option.bind_some]
theorem a_can : AS gL_can gM_can := AS_of2 fun xs D s h => by
  have hd := h.bd
  have hq := QN_le h.V
  by_cases g : 0 < D 4 0
  · obtain ⟨s1, f1, f2, f3, f4⟩ := c_survey h
    have e : wh FU (gL_can_h24 s1) ((0 : Int32), (0 : Int32)) = some (nI (bmN (fun c => decide (0 < wyN D c (QN D))) (D 5 0))) := by
      refine wh_for (fun k => (nI (bmN (fun c => decide (0 < wyN D c (QN D))) k), nI k)) (D 5 0) (fun k hk => ?_) ?_ FU (FU_gt (by omega))
      · have wl := wy_le (D := D) (b := k) (k := QN D)
        unfold gL_can_h24
        dsimp only
        rw [f3.B, if_neg (nle (by omega) (by omega) (by omega)), rd_n (by omega) (by omega), Option.bind_some, (f4 k hk).1, bm_s]
        by_cases e0 : 0 < wyN D k (QN D)
        · rw [if_neg (show ¬ nI (wyN D k (QN D)) ≤ (0 : Int32) from nle (b := 0) (by omega) (by omega) (by omega)), if_pos (decide_eq_true e0), or_new (by omega), Option.bind_some, nI_1]
        · rw [if_pos (show nI (wyN D k (QN D)) ≤ (0 : Int32) from nI_le (b := 0) (by omega) (by omega)), if_neg (fun z => e0 (of_decide_eq_true z)), Nat.add_zero, Option.bind_some, nI_1]
      · unfold gL_can_h24
        dsimp only
        rw [f3.B, if_pos (nI_le (Nat.le_refl _) (by omega))]
    refine ⟨nI (bmN (fun c => decide (0 < wyN D c (QN D))) (D 5 0)), s1, ?_, fun a ha => f2 a (by omega), f3, fun t ht => ?_⟩
    · unfold gL_can
      rw [h.ex, Option.bind_some, bz_if, if_pos g, f1, Option.bind_some, e, Option.bind_some]
    · have e4 : rdI (t.1 295) 79 (4 : Int32) = some (nI (D 5 0)) := (rd_n (k := 4) (by omega) (by omega)).trans (congrArg some ht.M.1.2.2.2.2.1)
      by_cases g0 : D 5 0 = 0
      · refine ⟨t, ?_, ht⟩
        unfold gM_can
        rw [ht.mR, Option.bind_some, bz_if, if_pos g, e4, Option.bind_some, g0, if_pos (show nI 0 = (0 : Int32) from rfl)]
        rfl
      · obtain ⟨t1, y1, y2, y3⟩ := m_asks (b := 0) ht (by omega)
        refine ⟨t1, ?_, y2⟩
        unfold gM_can
        rw [ht.mR, Option.bind_some, bz_if, if_pos g, e4, Option.bind_some, if_neg (show ¬ nI (D 5 0) = (0 : Int32) from fun z => g0 ((nI_eq (b := 0) (by omega) (by omega)).mp z)), show (0 : Int32) = nI 0 from rfl, y1, Option.bind_some, y3.2.2.2.2.1]
  · refine ⟨-2, s, ?_, fun a _ => rfl, h, fun t ht => ⟨t, ?_, ht⟩⟩
    · unfold gL_can
      rw [h.ex, Option.bind_some, bz_if, if_neg g]
    · unfold gM_can
      rw [ht.mR, Option.bind_some, bz_if, if_neg g]
end WAYS
