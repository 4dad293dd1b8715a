/-! GUARDS: is it a boat, a watcher, a step ..; both programs' -/
section GD
variable {r B W N n lo l : Nat} {s : mT}
theorem c_lt0 {v : Int64} : (lg_cmp v 0 < 0) ↔ v.toInt < 0 := by rw [lg_cmp_lt, Int64.lt_iff_toInt_lt]; rfl
theorem c_ge {v : Int64} (h : B < 2 ^ 31) : (0 ≤ lg_cmp v (lN B)) ↔ (B : Int) ≤ v.toInt := by rw [lg_cmp_ge, Int64.le_iff_toInt_le, lN_toInt h]
theorem c_gt {v : Int64} (h : B < 2 ^ 31) : (0 < lg_cmp v (lN B)) ↔ (B : Int) < v.toInt := by rw [lg_cmp_gt, Int64.lt_iff_toInt_lt, lN_toInt h]
theorem i_lt0 {v : Int32} : (v < 0) ↔ v.toInt < 0 := by rw [Int32.lt_iff_toInt_lt]; rfl
theorem i_ge {v : Int32} (h : B < 2 ^ 31) : (nI B ≤ v) ↔ (B : Int) ≤ v.toInt := by rw [Int32.le_iff_toInt_le, nI_toInt h]
theorem i_gt {v : Int32} (h : B < 2 ^ 31) : (nI B < v) ↔ (B : Int) < v.toInt := by rw [Int32.lt_iff_toInt_lt, nI_toInt h]
theorem of_in {v : Int32} (h : 0 ≤ v.toInt ∧ v.toInt < (n : Int)) : ∃ k, k < n ∧ v = nI k := by
  refine ⟨v.toInt.toNat, by omega, ?_⟩
  apply Int32.toInt.inj
  have := v.toInt_lt
  rw [nI_toInt (by omega)]
  omega
theorem in_of {k : Nat} (h : k < n) (hn : n ≤ 2 ^ 31) : 0 ≤ (nI k).toInt ∧ (nI k).toInt < (n : Int) := by rw [nI_toInt (by omega)]; omega
theorem of_eq0 {v : Int32} : v = 0 ↔ v.toInt = 0 := by rw [← Int32.toInt_inj]; rfl
theorem of_eq1 {v : Int32} : v = 1 ↔ v.toInt = 1 := by rw [← Int32.toInt_inj]; rfl
theorem g_hasBoat {v : Int64} (h : s.1 r 5 = nI B) (hB : B ≤ 5) : gR_hasBoat r v s = some (bz (decide (0 ≤ v.toInt ∧ v.toInt < (B : Int)))) := by
  unfold gR_hasBoat
  rw [h, nI_l (by omega)]
  simp (disch := omega) only [c_lt0, c_ge]
  by_cases h1 : v.toInt < 0
  · rw [if_pos h1, Option.bind_some, if_pos (Or.inl rfl), decide_eq_false (by omega)]; rfl
  · by_cases h2 : (B : Int) ≤ v.toInt
    · rw [if_neg h1, if_pos h2, Option.bind_some, if_pos (Or.inl rfl), decide_eq_false (by omega)]; rfl
    · rw [if_neg h1, if_neg h2, Option.bind_some, if_pos (Or.inr rfl), decide_eq_true (by omega)]; rfl
theorem g_hasW {v : Int32} (h : s.1 r 6 = nI W) (hB : W ≤ 5) : gR_hasWatcher r v s = some (bz (decide (0 ≤ v.toInt ∧ v.toInt < (W : Int)))) := by
  unfold gR_hasWatcher
  rw [h]
  simp (disch := omega) only [i_lt0, i_ge]
  by_cases h1 : v.toInt < 0
  · rw [if_pos h1, Option.bind_some, if_pos (Or.inl rfl), decide_eq_false (by omega)]; rfl
  · by_cases h2 : (W : Int) ≤ v.toInt
    · rw [if_neg h1, if_pos h2, Option.bind_some, if_pos (Or.inl rfl), decide_eq_false (by omega)]; rfl
    · rw [if_neg h1, if_neg h2, Option.bind_some, if_pos (Or.inr rfl), decide_eq_true (by omega)]; rfl
theorem g_hasShow {v : Int32} (h : s.1 r 7 = nI W) (hB : W ≤ 5) : gR_hasShow r v s = some (bz (decide (0 ≤ v.toInt ∧ v.toInt < (W : Int)))) := by
  unfold gR_hasShow
  rw [h]
  simp (disch := omega) only [i_lt0, i_ge]
  by_cases h1 : v.toInt < 0
  · rw [if_pos h1, Option.bind_some, if_pos (Or.inl rfl), decide_eq_false (by omega)]; rfl
  · by_cases h2 : (W : Int) ≤ v.toInt
    · rw [if_neg h1, if_pos h2, Option.bind_some, if_pos (Or.inl rfl), decide_eq_false (by omega)]; rfl
    · rw [if_neg h1, if_neg h2, Option.bind_some, if_pos (Or.inr rfl), decide_eq_true (by omega)]; rfl
theorem g_exists (h : s.1 r 4 = nI l) (hl : l < 2 ^ 31) : gR_exists r s = some (bz (decide (0 < l))) := by
  unfold gR_exists
  rw [h]
  by_cases h1 : l = 0
  · subst h1; rfl
  · rw [if_neg (nI_nle (by omega) hl), Option.bind_some, if_pos (Or.inr rfl), decide_eq_true (by omega)]; rfl
theorem g_hasStep {v : Int64} (h : s.1 r 4 = nI l) (hl : l < 2 ^ 31) (h0 : s.1 r 0 = nI N) (hN : N ≤ 20) : gR_hasStep r v s = some (bz (decide (0 < l ∧ 0 ≤ v.toInt ∧ v.toInt < (N : Int) + 1))) := by
  unfold gR_hasStep
  rw [g_exists h hl, Option.bind_some, h0, nI_l (by omega)]
  simp (disch := omega) only [c_lt0, c_gt]
  by_cases h3 : 0 < l
  · rw [decide_eq_true h3, bz_t, if_neg (by decide)]
    by_cases h1 : v.toInt < 0
    · rw [if_pos h1, Option.bind_some, if_pos (Or.inl rfl), decide_eq_false (by omega)]; rfl
    · by_cases h2 : (N : Int) < v.toInt
      · rw [if_neg h1, if_pos h2, Option.bind_some, if_pos (Or.inl rfl), decide_eq_false (by omega)]; rfl
      · rw [if_neg h1, if_neg h2, Option.bind_some, if_pos (Or.inr rfl), decide_eq_true (by omega)]; rfl
  · rw [decide_eq_false h3, bz_f, if_pos rfl, decide_eq_false (by omega)]; rfl
theorem g_hasEarly {v : Int32} (h : s.1 r 4 = nI l) (hl : l < 2 ^ 31) (h0 : s.1 r 0 = nI N) (hN : N ≤ 20) : gR_hasEarlyStep r v s = some (bz (decide (0 < l ∧ 0 ≤ v.toInt ∧ v.toInt < (N : Int)))) := by
  unfold gR_hasEarlyStep
  rw [g_exists h hl, Option.bind_some, h0]
  simp (disch := omega) only [i_lt0, i_ge]
  by_cases h3 : 0 < l
  · rw [decide_eq_true h3, bz_t, if_neg (by decide)]
    by_cases h1 : v.toInt < 0
    · rw [if_pos h1, Option.bind_some, if_pos (Or.inl rfl), decide_eq_false (by omega)]; rfl
    · by_cases h2 : (N : Int) ≤ v.toInt
      · rw [if_neg h1, if_pos h2, Option.bind_some, if_pos (Or.inl rfl), decide_eq_false (by omega)]; rfl
      · rw [if_neg h1, if_neg h2, Option.bind_some, if_pos (Or.inr rfl), decide_eq_true (by omega)]; rfl
  · rw [decide_eq_false h3, bz_f, if_pos rfl, decide_eq_false (by omega)]; rfl
theorem g_isPart {v : Int32} : gL_isPart v s = some (bz (decide (0 ≤ v.toInt ∧ v.toInt < (2 : Nat)))) := by
  unfold gL_isPart
  simp only [show (v = (1 : Int32)) = (v.toInt = 1) from propext of_eq1, show (v = (0 : Int32)) = (v.toInt = 0) from propext of_eq0]
  by_cases h1 : v.toInt = 0
  · rw [if_pos h1, Option.bind_some, if_pos (Or.inr rfl), decide_eq_true (by omega)]; rfl
  · by_cases h2 : v.toInt = 1
    · rw [if_neg h1, if_pos h2, Option.bind_some, if_pos (Or.inr rfl), decide_eq_true (by omega)]; rfl
    · rw [if_neg h1, if_neg h2, Option.bind_some, if_pos (Or.inl rfl), decide_eq_false (by omega)]; rfl
theorem g_isSlot {v : Int32} : gL_isSlot v s = some (bz (decide (0 ≤ v.toInt ∧ v.toInt < (4 : Nat)))) := by
  unfold gL_isSlot
  simp only [show ((4 : Int32) ≤ v) = ((4 : Int) ≤ v.toInt) from propext (i_ge (B := 4) (by decide)), show (v < (0 : Int32)) = (v.toInt < 0) from propext i_lt0]
  by_cases h1 : v.toInt < 0
  · rw [if_pos h1, Option.bind_some, if_pos (Or.inl rfl), decide_eq_false (by omega)]; rfl
  · by_cases h2 : (4 : Int) ≤ v.toInt
    · rw [if_neg h1, if_pos h2, Option.bind_some, if_pos (Or.inl rfl), decide_eq_false (by omega)]; rfl
    · rw [if_neg h1, if_neg h2, Option.bind_some, if_pos (Or.inr rfl), decide_eq_true (by omega)]; rfl
/-! the model's -/
theorem m_in {v a b : Int64} : gM_in v a b s = some (bz (decide (a.toInt ≤ v.toInt ∧ v.toInt ≤ b.toInt))) := by
  unfold gM_in
  simp only [show (lg_cmp v a < 0) = (v.toInt < a.toInt) from propext (by rw [lg_cmp_lt, Int64.lt_iff_toInt_lt]), show (0 < lg_cmp v b) = (b.toInt < v.toInt) from propext (by rw [lg_cmp_gt, Int64.lt_iff_toInt_lt])]
  by_cases h1 : v.toInt < a.toInt
  · rw [if_pos h1, Option.bind_some, if_pos (Or.inl rfl), decide_eq_false (by omega)]; rfl
  · by_cases h2 : b.toInt < v.toInt
    · rw [if_neg h1, if_pos h2, Option.bind_some, if_pos (Or.inl rfl), decide_eq_false (by omega)]; rfl
    · rw [if_neg h1, if_neg h2, Option.bind_some, if_pos (Or.inr rfl), decide_eq_true (by omega)]; rfl
theorem pred_l (h : B ≤ 999) : ((nI B - (1 : Int32)).toInt64).toInt = (B : Int) - 1 := by
  rw [Int32.toInt_toInt64]
  exact pk_sub_toInt (a := B) (b := 1) (by omega) (by omega)
theorem m_isBoat {v : Int64} (h : s.1 295 4 = nI B) (hB : B ≤ 5) : gM_isBoat v s = some (bz (decide (0 ≤ v.toInt ∧ v.toInt < (B : Int)))) := by
  unfold gM_isBoat
  rw [show (4 : Int32) = nI 4 from rfl, rd_n (by omega) (by omega), Option.bind_some, h, m_in, Option.bind_some, bz_ite, pred_l (by omega), show (0 : Int64).toInt = 0 from rfl]
  simp only [show (0 ≤ v.toInt ∧ v.toInt ≤ (B : Int) - 1) = (0 ≤ v.toInt ∧ v.toInt < (B : Int)) from propext (by omega)]
theorem m_isW {v : Int32} (h : s.1 295 5 = nI W) (hB : W ≤ 5) : gM_isWatcher v s = some (bz (decide (0 ≤ v.toInt ∧ v.toInt < (W : Int)))) := by
  unfold gM_isWatcher
  rw [show (5 : Int32) = nI 5 from rfl, rd_n (by omega) (by omega), Option.bind_some, h, m_in, Option.bind_some, bz_ite, pred_l (by omega), show (0 : Int64).toInt = 0 from rfl, Int32.toInt_toInt64]
  simp only [show (0 ≤ v.toInt ∧ v.toInt ≤ (W : Int) - 1) = (0 ≤ v.toInt ∧ v.toInt < (W : Int)) from propext (by omega)]
theorem m_isRace (h : s.1 295 8 = nI l) (hl : l < 2 ^ 31) : gM_isRace s = some (bz (decide (0 < l))) := by
  unfold gM_isRace
  rw [show (8 : Int32) = nI 8 from rfl, rd_n (by omega) (by omega), Option.bind_some, h]
  by_cases h1 : l = 0
  · subst h1; rfl
  · rw [if_neg (nI_nle (by omega) hl), Option.bind_some, if_pos (Or.inr rfl), decide_eq_true (by omega)]; rfl
theorem m_last (h : s.1 295 0 = nI N) : gM_last s = some (nI N) := by
  unfold gM_last
  rw [show (0 : Int32) = nI 0 from rfl, rd_n (by omega) (by omega), Option.bind_some, h]
theorem m_isStep {v : Int64} (h : s.1 295 8 = nI l) (hl : l < 2 ^ 31) (h0 : s.1 295 0 = nI N) (hN : N ≤ 20) : gM_isStep v s = some (bz (decide (0 < l ∧ 0 ≤ v.toInt ∧ v.toInt < (N : Int) + 1))) := by
  unfold gM_isStep
  rw [m_isRace h hl, Option.bind_some, m_last h0, Option.bind_some, m_in, Option.bind_some, nI_l (by omega), lN_toInt (by omega), show (0 : Int64).toInt = 0 from rfl]
  simp only [show (0 ≤ v.toInt ∧ v.toInt ≤ (N : Int)) = (0 ≤ v.toInt ∧ v.toInt < (N : Int) + 1) from propext (by omega)]
  by_cases h3 : 0 < l
  · rw [decide_eq_true h3, bz_t, if_neg (by decide)]
    by_cases h1 : 0 ≤ v.toInt ∧ v.toInt < (N : Int) + 1
    · rw [decide_eq_true h1, decide_eq_true ⟨h3, h1⟩]; rfl
    · rw [decide_eq_false h1, decide_eq_false (fun z => h1 z.2)]; rfl
  · rw [decide_eq_false h3, bz_f, if_pos rfl, decide_eq_false (by omega)]; rfl
theorem m_isAhead {v : Int32} (h : s.1 295 8 = nI l) (hl : l < 2 ^ 31) (h0 : s.1 295 0 = nI N) (hN : N ≤ 20) : gM_isAhead v s = some (bz (decide (0 < l ∧ 0 ≤ v.toInt ∧ v.toInt < (N : Int)))) := by
  unfold gM_isAhead
  rw [m_isRace h hl, Option.bind_some, m_last h0, Option.bind_some, m_in, Option.bind_some, pred_l (by omega), Int32.toInt_toInt64, show (0 : Int64).toInt = 0 from rfl]
  simp only [show (0 ≤ v.toInt ∧ v.toInt ≤ (N : Int) - 1) = (0 ≤ v.toInt ∧ v.toInt < (N : Int)) from propext (by omega)]
  by_cases h3 : 0 < l
  · rw [decide_eq_true h3, bz_t, if_neg (by decide)]
    by_cases h1 : 0 ≤ v.toInt ∧ v.toInt < (N : Int)
    · rw [decide_eq_true h1, decide_eq_true ⟨h3, h1⟩]; rfl
    · rw [decide_eq_false h1, decide_eq_false (fun z => h1 z.2)]; rfl
  · rw [decide_eq_false h3, bz_f, if_pos rfl, decide_eq_false (by omega)]; rfl
end GD
