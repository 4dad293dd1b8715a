/-! COVER -/
theorem ite_iff {α : Type} {c d : Prop} [Decidable c] [Decidable d] (h : c ↔ d) {x y : α} : (if c then x else y) = if d then x else y := by
  by_cases hc : c
  · rw [if_pos hc, if_pos (h.mp hc)]
  · rw [if_neg hc, if_neg (fun z => hc (h.mpr z))]
theorem ex_true {p : Nat → Bool} {n : Nat} : exN p n = true ↔ ∃ w, w < n ∧ p w = true := by
  induction n with
  | zero => exact ⟨fun z => (by cases z), fun ⟨w, h, _⟩ => absurd h (Nat.not_lt_zero _)⟩
  | succ n ih =>
    unfold exN
    rw [Bool.or_eq_true, ih]
    constructor
    · rintro (⟨w, h1, h2⟩ | h)
      · exact ⟨w, by omega, h2⟩
      · exact ⟨n, by omega, h⟩
    · rintro ⟨w, h1, h2⟩
      by_cases e : w = n
      · subst e; exact Or.inr h2
      · exact Or.inl ⟨w, by omega, h2⟩
theorem ex_and {p : Nat → Bool} {n m : Nat} : (bmN p n &&& m = 0) ↔ exN (fun w => decide (m / 2 ^ w % 2 = 1) && p w) n = false := by
  have hb : ∀ i, (bmN p n &&& m).testBit i = (decide (i < n) && p i && decide (m / 2 ^ i % 2 = 1)) := fun i => by
    rw [Nat.testBit_and, bm_tb, Nat.testBit_eq_decide_div_mod_eq]
  constructor
  · intro h
    cases he : exN (fun w => decide (m / 2 ^ w % 2 = 1) && p w) n with
    | false => rfl
    | true =>
      obtain ⟨w, h1, h2⟩ := ex_true.mp he
      have := hb w
      rw [h, Nat.zero_testBit] at this
      rw [Bool.and_eq_true] at h2
      rw [decide_eq_true h1, h2.1, h2.2] at this
      cases this
  · intro h
    apply Nat.eq_of_testBit_eq
    intro i
    rw [hb, Nat.zero_testBit]
    by_cases h1 : i < n
    · cases h2 : decide (m / 2 ^ i % 2 = 1) && p i with
      | false => rw [Bool.and_assoc, Bool.and_comm (p i), h2, Bool.and_false]
      | true =>
        have := ex_true (p := fun w => decide (m / 2 ^ w % 2 = 1) && p w).mpr ⟨i, h1, h2⟩
        rw [h] at this
        cases this
    · rw [decide_eq_false h1, Bool.false_and, Bool.false_and]
theorem bm_allN {p : Nat → Bool} {n : Nat} : (bmN p n = bmN (fun _ => true) n) ↔ allN p n = true := by
  induction n with
  | zero => exact ⟨fun _ => rfl, fun _ => rfl⟩
  | succ n ih =>
    have h1 := bmN_lt p n
    have h2 := bmN_lt (fun _ => true) n
    rw [bm_s, bm_s, if_pos rfl]
    unfold allN
    rw [Bool.and_eq_true, ← ih]
    cases hp : p n with
    | true => rw [if_pos rfl]; exact ⟨fun z => ⟨by omega, rfl⟩, fun z => by omega⟩
    | false => rw [if_neg (by decide)]; exact ⟨fun z => by omega, fun z => by cases z.2⟩
/-- is each boat seen by one of the set -/
def cvB (D : RD) (m : Nat) : Bool := allN (fun b => exN (fun w => decide (m / 2 ^ w % 2 = 1) && seB D b w) (D 6 0)) (D 5 0)
def cvO (D : RD) : Nat → Option Nat
  | 0 => none
  | j + 1 => if cvB D j = true then (match cvO D j with
    | none => some j
    | some c => if pcN c 20 ≤ pcN j 20 then some c else some j) else cvO D j
theorem cvO_lt {D : RD} {j c : Nat} : cvO D j = some c → c < j := by
  induction j generalizing c with
  | zero => intro h; cases h
  | succ j ih =>
    intro h
    unfold cvO at h
    split at h
    · split at h
      · cases h; omega
      · rename_i c0 hc
        split at h
        · cases h; have := ih hc; omega
        · cases h; omega
    · have := ih h; omega
section CO
variable {n w b k m : Nat} {s : mT} {D : RD} {xs : Nat → Int32}
theorem c_seen1 (h : IV xs D s) (hm : m < 2 ^ 31) (hb : b < D 5 0) {p : Nat → Bool} (hp : p b = exN (fun w => decide (m / 2 ^ w % 2 = 1) && seB D b w) (D 6 0)) : wh FU (gL_seenBy_h18 (nI m) (nI b) s) (nI (bmN p b), (0 : Int32)) = some (nI (bmN p (b + 1))) := by
  have hd := h.bd
  have e0 : (nI (bmN p b), (0 : Int32)) = (fun k => (nI (bmN p b ||| (if exN (fun w => decide (m / 2 ^ w % 2 = 1) && seB D b w) k = true then 2 ^ b else 0)), nI k)) 0 := by
    dsimp only
    rw [show exN (fun w => decide (m / 2 ^ w % 2 = 1) && seB D b w) 0 = false from rfl, if_neg (by decide), Nat.or_zero]
    rfl
  have e1 : bmN p (b + 1) = bmN p b ||| (if exN (fun w => decide (m / 2 ^ w % 2 = 1) && seB D b w) (D 6 0) = true then 2 ^ b else 0) := by
    rw [bm_s, hp]
    by_cases h1 : exN (fun w => decide (m / 2 ^ w % 2 = 1) && seB D b w) (D 6 0) = true
    · rw [if_pos h1]
      have h2 := Nat.two_pow_add_eq_or_of_lt (bmN_lt p b) 1
      rw [Nat.mul_one] at h2
      rw [Nat.or_comm, ← h2, Nat.add_comm]
    · rw [if_neg h1, Nat.or_zero, Nat.add_zero]
  rw [e0, e1]
  refine wh_for (fun k => (nI (bmN p b ||| (if exN (fun w => decide (m / 2 ^ w % 2 = 1) && seB D b w) k = true then 2 ^ b else 0)), nI k)) (D 6 0) (fun k hk => ?_) ?_ FU (FU_gt (by omega))
  · unfold gL_seenBy_h18
    dsimp only
    rw [h.W, if_neg (nle (by omega) (by omega) (by omega)), shr_b hm (by omega), c_sees h hk (by omega), Option.bind_some]
    have es : exN (fun w => decide (m / 2 ^ w % 2 = 1) && seB D b w) (k + 1) = (exN (fun w => decide (m / 2 ^ w % 2 = 1) && seB D b w) k || (decide (m / 2 ^ k % 2 = 1) && seB D b k)) := rfl
    rw [es]
    have e2 : m / 2 ^ k % 2 < 2 := Nat.mod_lt _ (by decide)
    rw [ite_iff (show (nI (m / 2 ^ k % 2) = (1 : Int32)) ↔ (m / 2 ^ k % 2 = 1) from nI_eq (b := 1) (by omega) (by omega))]
    generalize exN (fun w => decide (m / 2 ^ w % 2 = 1) && seB D b w) k = e
    by_cases h1 : m / 2 ^ k % 2 = 1
    · rw [if_pos h1, decide_eq_true h1, Bool.true_and]
      cases seB D b k with
      | false => rw [bz_f, if_pos rfl, Option.bind_some, nI_1, Bool.or_false]
      | true =>
        rw [bz_t, if_neg (by decide), Option.bind_some, nI_1, sh_1 (by omega), nI_or, Bool.or_true, if_pos rfl]
        cases e with
        | false => rw [if_neg (by decide), Nat.or_zero]
        | true => rw [if_pos rfl, Nat.or_assoc, Nat.or_self]
    · rw [if_neg h1, decide_eq_false h1, Bool.false_and, Bool.or_false, Option.bind_some, nI_1]
  · unfold gL_seenBy_h18
    dsimp only
    rw [h.W, if_pos (nI_le (Nat.le_refl _) (by omega))]
theorem c_seen (h : IV xs D s) (hm : m < 2 ^ 31) : gL_seenBy (nI m) s = some (nI (bmN (fun b => exN (fun w => decide (m / 2 ^ w % 2 = 1) && seB D b w) (D 6 0)) (D 5 0))) := by
  have hd := h.bd
  have e : wh FU (gL_seenBy_h4 (nI m) s) ((0 : Int32), (0 : Int32)) = some (nI (bmN (fun b => exN (fun w => decide (m / 2 ^ w % 2 = 1) && seB D b w) (D 6 0)) (D 5 0))) := by
    refine wh_for (fun k => (nI (bmN (fun b => exN (fun w => decide (m / 2 ^ w % 2 = 1) && seB D b w) (D 6 0)) k), nI k)) (D 5 0) (fun k hk => ?_) ?_ FU (FU_gt (by omega))
    · unfold gL_seenBy_h4
      dsimp only
      rw [h.B, if_neg (nle (by omega) (by omega) (by omega)), c_seen1 h hm hk rfl, Option.bind_some, nI_1]
    · unfold gL_seenBy_h4
      dsimp only
      rw [h.B, if_pos (nI_le (Nat.le_refl _) (by omega))]
  unfold gL_seenBy
  rw [e]
  rfl
theorem c_least (h : IV xs D s) : gL_leastCover s = some (oz (cvO D (2 ^ D 6 0))) := by
  have hd := h.bd
  have b2 : 2 ^ D 6 0 ≤ 2 ^ 5 := Nat.pow_le_pow_right (by omega) (by omega)
  have b3 : 2 ^ D 5 0 ≤ 2 ^ 5 := Nat.pow_le_pow_right (by omega) (by omega)
  have e : wh FU (gL_leastCover_h16 (((1 : Int32) <<< ((s.1 16 5) &&& 31)) - (1 : Int32)) s) ((-1 : Int32), (0 : Int32)) = some (oz (cvO D (2 ^ D 6 0))) := by
    rw [h.B, sh_all (by omega)]
    refine wh_for (fun k => (oz (cvO D k), nI k)) (2 ^ D 6 0) (fun k hk => ?_) ?_ FU (FU_gt (by omega))
    · have l1 := bmN_lt (fun b => exN (fun w => decide (k / 2 ^ w % 2 = 1) && seB D b w) (D 6 0)) (D 5 0)
      have l2 := bmN_lt (fun _ => true) (D 5 0)
      unfold gL_leastCover_h16
      dsimp only
      rw [h.W, sh_1 (by omega), if_neg (nle (by omega) (by omega) (by omega)), c_seen h (by omega), Option.bind_some]
      rw [ite_iff (show (nI (bmN (fun b => exN (fun w => decide (k / 2 ^ w % 2 = 1) && seB D b w) (D 6 0)) (D 5 0)) = nI (bmN (fun _ => true) (D 5 0))) ↔ (cvB D k = true) from (nI_eq (by omega) (by omega)).trans bm_allN)]
      have es : cvO D (k + 1) = if cvB D k = true then (match cvO D k with
        | none => some k
        | some c => if pcN c 20 ≤ pcN k 20 then some c else some k) else cvO D k := rfl
      rw [es]
      by_cases h1 : cvB D k = true
      · rw [if_pos h1, if_pos h1]
        cases hc : cvO D k with
        | none => rw [oz_none, if_pos rfl, Option.bind_some, nI_1]; rfl
        | some c =>
          have hcl := cvO_lt hc
          have p1 := pcN_le c 20
          have p2 := pcN_le k 20
          rw [oz_some, if_neg (m1_n (by omega)), bitCount_is (by omega), Option.bind_some, bitCount_is (by omega), Option.bind_some]
          dsimp only
          by_cases h2 : pcN c 20 ≤ pcN k 20
          · rw [if_pos (nI_le h2 (by omega)), Option.bind_some, if_pos h2, nI_1]; rfl
          · rw [if_neg (nle (by omega) (by omega) h2), Option.bind_some, if_neg h2, nI_1]; rfl
      · rw [if_neg h1, if_neg h1, Option.bind_some, nI_1]
    · unfold gL_leastCover_h16
      dsimp only
      rw [h.W, sh_1 (by omega), if_pos (nI_le (Nat.le_refl _) (by omega))]
  unfold gL_leastCover
  rw [e]
  rfl
theorem m_cov1 (h : IV xs D s) (hm : m < 2 ^ 31) {x : Int32} : wh FU (gM_coverSet_h21 x (nI m) s) ((1 : Int32), (0 : Int32)) = some (bz (cvB D m)) := by
  have hd := h.bd
  have b2 : 2 ^ D 6 0 ≤ 2 ^ 5 := Nat.pow_le_pow_right (by omega) (by omega)
  have hB : rdI (s.1 295) 79 (4 : Int32) = some (nI (D 5 0)) := (rd_n (k := 4) (by omega) (by omega)).trans (congrArg some h.M.1.2.2.2.2.1)
  refine wh_for (fun k => (bz (allN (fun b => exN (fun w => decide (m / 2 ^ w % 2 = 1) && seB D b w) (D 6 0)) k), nI k)) (D 5 0) (fun k hk => ?_) ?_ FU (FU_gt (by omega))
  · have l1 := bmN_lt (seB D k) (D 6 0)
    have l2 : bmN (seB D k) (D 6 0) &&& m ≤ bmN (seB D k) (D 6 0) := Nat.and_le_left
    unfold gM_coverSet_h21
    dsimp only
    rw [hB, Option.bind_some, if_neg (nle (by omega) (by omega) (by omega)), m_seers h (by omega), Option.bind_some, nI_and]
    rw [ite_iff (show (nI (bmN (seB D k) (D 6 0) &&& m) = (0 : Int32)) ↔ (exN (fun w => decide (m / 2 ^ w % 2 = 1) && seB D k w) (D 6 0) = false) from (nI_eq (b := 0) (by omega) (by omega)).trans ex_and)]
    have es : allN (fun b => exN (fun w => decide (m / 2 ^ w % 2 = 1) && seB D b w) (D 6 0)) (k + 1) = (allN (fun b => exN (fun w => decide (m / 2 ^ w % 2 = 1) && seB D b w) (D 6 0)) k && exN (fun w => decide (m / 2 ^ w % 2 = 1) && seB D k w) (D 6 0)) := rfl
    rw [es]
    cases allN (fun b => exN (fun w => decide (m / 2 ^ w % 2 = 1) && seB D b w) (D 6 0)) k with
    | false => rw [bz_f, if_pos rfl, Option.bind_some, Bool.false_and, bz_f, nI_1]
    | true =>
      rw [bz_t, if_neg (by decide), Bool.true_and]
      cases exN (fun w => decide (m / 2 ^ w % 2 = 1) && seB D k w) (D 6 0) with
      | false => rw [if_pos rfl, Option.bind_some, bz_f, nI_1]
      | true => rw [if_neg (by decide), Option.bind_some, bz_t, nI_1]
  · unfold gM_coverSet_h21
    dsimp only
    rw [hB, Option.bind_some, if_pos (nI_le (Nat.le_refl _) (by omega))]
    rfl
theorem m_cov (h : IV xs D s) : gM_coverSet s = some (oz (cvO D (2 ^ D 6 0))) := by
  have hd := h.bd
  have b2 : 2 ^ D 6 0 ≤ 2 ^ 5 := Nat.pow_le_pow_right (by omega) (by omega)
  have hW : rdI (s.1 295) 79 (5 : Int32) = some (nI (D 6 0)) := (rd_n (k := 5) (by omega) (by omega)).trans (congrArg some h.M.1.2.2.2.2.2.1)
  have e : wh FU (gM_coverSet_h4 s) ((-1 : Int32), (0 : Int32)) = some (oz (cvO D (2 ^ D 6 0))) := by
    refine wh_for (fun k => (oz (cvO D k), nI k)) (2 ^ D 6 0) (fun k hk => ?_) ?_ FU (FU_gt (by omega))
    · unfold gM_coverSet_h4
      dsimp only
      rw [hW, Option.bind_some, sh_1 (by omega), if_neg (nle (by omega) (by omega) (by omega)), m_cov1 h (by omega), Option.bind_some]
      have es : cvO D (k + 1) = if cvB D k = true then (match cvO D k with
        | none => some k
        | some c => if pcN c 20 ≤ pcN k 20 then some c else some k) else cvO D k := rfl
      rw [es]
      cases h1 : cvB D k with
      | false => rw [bz_f, if_pos rfl, if_neg (by decide), Option.bind_some, nI_1]
      | true =>
        rw [bz_t, if_neg (show ¬ (1 : Int32) = 0 by decide), if_pos rfl]
        cases hc : cvO D k with
        | none => rw [oz_none, if_pos rfl, Option.bind_some, nI_1]; rfl
        | some c =>
          have hcl := cvO_lt hc
          have p1 := pcN_le c 20
          have p2 := pcN_le k 20
          rw [oz_some, if_neg (m1_n (by omega)), m_bits (by omega), Option.bind_some, m_bits (by omega), Option.bind_some]
          dsimp only
          by_cases h2 : pcN c 20 ≤ pcN k 20
          · rw [if_pos (nI_le h2 (by omega)), Option.bind_some, if_pos h2, nI_1]; rfl
          · rw [if_neg (nle (by omega) (by omega) h2), Option.bind_some, if_neg h2, nI_1]; rfl
    · unfold gM_coverSet_h4
      dsimp only
      rw [hW, Option.bind_some, sh_1 (by omega), if_pos (nI_le (Nat.le_refl _) (by omega))]
  unfold gM_coverSet
  rw [e]
  rfl
theorem a_covers : AP gL_covers gM_covers := by
  intro xs D s h
  simp only [gL_covers, gM_covers, h.ex, h.mR, c_least h, m_cov h, Option.bind_some, bz_if]
  by_cases g : 0 < D 4 0
  · simp only [if_pos g, Option.bind_some]; exact ⟨_, rfl, rfl⟩
  · simp only [if_neg g, Option.bind_some]; exact ⟨_, rfl, rfl⟩
theorem a_cover : AP gL_cover gM_cover := by
  intro xs D s h
  have hd := h.bd
  have b2 : 2 ^ D 6 0 ≤ 2 ^ 5 := Nat.pow_le_pow_right (by omega) (by omega)
  simp only [gL_cover, gM_cover, h.ex, h.mR, c_least h, m_cov h, Option.bind_some, bz_if]
  by_cases g : 0 < D 4 0
  · simp only [if_pos g]
    cases hc : cvO D (2 ^ D 6 0) with
    | none => rw [oz_none, if_pos rfl, if_pos rfl]; exact ⟨_, rfl, rfl⟩
    | some c =>
      have hcl := cvO_lt hc
      rw [oz_some, if_neg (m1_n (by omega)), if_neg (m1_n (by omega)), bitCount_is (by omega), m_bits (by omega)]
      exact ⟨_, rfl, rfl⟩
  · simp only [if_neg g, Option.bind_some]; exact ⟨_, rfl, rfl⟩
end CO
