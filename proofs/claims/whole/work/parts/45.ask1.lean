/-! SIMPLE ASKING: both programs, call by call -/
def AG (A : mT → Option Int32) (B : mT → Option (Int32 × mT)) : Prop := ∀ xs D s, IV xs D s → ∃ r s', A s = some r ∧ B s = some (r, s') ∧ IV xs D s'
def AP (A B : mT → Option Int32) : Prop := ∀ xs D s, IV xs D s → ∃ r, A s = some r ∧ B s = some r
theorem bz_if {α : Type} (p : Prop) [Decidable p] (x y : α) : (if bz (decide p) = 0 then x else y) = if p then y else x := by
  by_cases h : p
  · rw [decide_eq_true h, bz_t, if_neg (by decide), if_pos h]
  · rw [decide_eq_false h, bz_f, if_pos rfl, if_neg h]
theorem of_inS {v : Int32} {n : Nat} (h : 0 ≤ v.toInt ∧ v.toInt < (n : Int) + 1) : ∃ k, k ≤ n ∧ v = nI k := by
  obtain ⟨k, h1, h2⟩ := of_in (v := v) (n := n + 1) (by omega)
  exact ⟨k, by omega, h2⟩
theorem oz_iff {x : Option Nat} {b : Nat} (hx : ∀ n, x = some n → n < 2 ^ 31) (hb : b < 2 ^ 31) : (oz x = nI b) = (x = some b) := by
  apply propext
  cases x with
  | none => exact ⟨fun z => absurd z (m1_n' hb), fun z => by cases z⟩
  | some n => exact ⟨fun z => congrArg some ((nI_eq (hx n rfl) hb).mp z), fun z => by cases z; rfl⟩
theorem oz_inj {x y : Option Nat} (hx : ∀ n, x = some n → n < 2 ^ 31) (hy : ∀ n, y = some n → n < 2 ^ 31) : (oz x = oz y) = (x = y) := by
  cases y with
  | none => exact propext (oz_m1 hx)
  | some n => exact oz_iff hx (hy n rfl)
theorem leadO_lt {B : Nat} {p : Nat → Nat} {c : Nat} (h : leadO B p = some c) : c < B := by
  unfold leadO at h
  split at h
  · cases h
  · cases h
    have := amF_in (fun i j => decide (p j < p i)) 0 (B - 1)
    omega
theorem lagO_lt {B : Nat} {p : Nat → Nat} {c : Nat} (h : lagO B p = some c) : c < B := by
  unfold lagO at h
  split at h
  · cases h
  · cases h
    have := amF_in (fun i j => decide (p i < p j)) 0 (B - 1)
    omega
theorem winO_lt {N B G : Nat} {P : Nat → Nat → Nat} {c : Nat} (h : winO N B G P = some c) : c < B := by
  rw [← wbO_win] at h
  exact (wbO_lt h).1
section A1
variable {n w b o k : Nat} {s : mT} {D : RD} {xs : Nat → Int32}
theorem IV.bd (h : IV xs D s) : D 0 0 ≤ 20 ∧ D 2 0 ≤ 60 ∧ D 5 0 ≤ 5 ∧ D 6 0 ≤ 5 ∧ D 7 0 ≤ 5 := ⟨h.V.1.1, h.V.1.2.2.1, h.V.1.2.2.2.2.2.1, h.V.1.2.2.2.2.2.2.1, h.V.1.2.2.2.2.2.2.2.1⟩
theorem IV.pl (h : IV xs D s) (hn : n ≤ D 0 0) (hb : b < D 5 0) : s.1 (56 + n) b = nI (rP D (T0 D) n b) := h.2.1.2.1 n b hn hb
theorem IV.on (h : IV xs D s) (hn : n ≤ D 0 0) (hw : w < D 6 0) : s.1 (78 + n) w = nI (rK D (T0 D) n w) := h.2.1.2.2.1 n w hn hw
theorem IV.ey (h : IV xs D s) (hn : n < D 0 0) (hb : b < D 5 0) : s.1 (100 + n) b = nI (rE D (T0 D) n b) := h.2.1.2.2.2 n b hn hb
theorem IV.aw (h : IV xs D s) (hn : n ≤ 20) : s.1 54 n = nI (bmN ((T0 D).2.2.2.2.2 n) (D 6 0)) := h.2.1.1.2.2.2.2 n hn
theorem IV.P (h : IV xs D s) : rP D (T0 D) n b ≤ 60 := Nat.le_trans (rP_le n b) h.bd.2.1
theorem IV.K (h : IV xs D s) (hn : n ≤ D 0 0) (hw : w < D 6 0) : rK D (T0 D) n w < 5 := by have := T0_K h.V n w hn hw; have := h.bd; omega
theorem IV.E (h : IV xs D s) : rE D (T0 D) n b ≤ 45 := rE_le h.V n b
theorem IV.N (h : IV xs D s) : s.1 16 0 = nI (D 0 0) := h.R.1.1
theorem IV.B (h : IV xs D s) : s.1 16 5 = nI (D 5 0) := h.R.1.2.2.2.2.2.1
theorem IV.W (h : IV xs D s) : s.1 16 6 = nI (D 6 0) := h.R.1.2.2.2.2.2.2.1
theorem a_place (v1 v2 : Int32) : AG (gL_place v1 v2) (gM_place v1 v2) := by
  intro xs D s h
  have hd := h.bd
  obtain ⟨s1, f1, k1, i1, p1, q1⟩ := h.asksS (v := v2)
  simp only [gL_place, gM_place, h.hasB, h.hasS, f1, i1.mB, Option.bind_some, bz_if]
  by_cases g1 : 0 ≤ v1.toInt ∧ v1.toInt < (D 5 0 : Int)
  · by_cases g2 : 0 < D 4 0 ∧ 0 ≤ v2.toInt ∧ v2.toInt < (D 0 0 : Int) + 1
    · simp only [if_pos g1, if_pos g2]
      obtain ⟨b, hb, rfl⟩ := of_in g1
      obtain ⟨n, hn, rfl⟩ := of_inS g2.2
      refine ⟨nI (rP D (T0 D) n b), s1, ?_, ?_, i1⟩
      · simp (disch := omega) only [↓ix_ite, ix_ite2, nI_clamp, rd_n, Option.bind_some, h.pl hn hb]
      · simp only [mq_pl (q1 g2.1).1 hn hb, Option.bind_some]
    · simp only [if_pos g1, if_neg g2, Option.bind_some]; exact ⟨_, s1, rfl, rfl, i1⟩
  · simp only [if_neg g1, ite_self, Option.bind_some]; exact ⟨_, s1, rfl, rfl, i1⟩
theorem a_on (v1 v2 : Int32) : AG (gL_on v1 v2) (gM_on v1 v2) := by
  intro xs D s h
  have hd := h.bd
  obtain ⟨s1, f1, k1, i1, p1, q1⟩ := h.asksS (v := v2)
  simp only [gL_on, gM_on, h.hasW, h.hasS, f1, i1.mW, Option.bind_some, bz_if]
  by_cases g1 : 0 ≤ v1.toInt ∧ v1.toInt < (D 6 0 : Int)
  · by_cases g2 : 0 < D 4 0 ∧ 0 ≤ v2.toInt ∧ v2.toInt < (D 0 0 : Int) + 1
    · simp only [if_pos g1, if_pos g2]
      obtain ⟨b, hb, rfl⟩ := of_in g1
      obtain ⟨n, hn, rfl⟩ := of_inS g2.2
      refine ⟨nI (rK D (T0 D) n b), s1, ?_, ?_, i1⟩
      · simp (disch := omega) only [↓ix_ite, ix_ite2, nI_clamp, rd_n, Option.bind_some, h.on hn hb]
      · simp only [mq_on (q1 g2.1).1 hn hb, Option.bind_some]
    · simp only [if_pos g1, if_neg g2, Option.bind_some]; exact ⟨_, s1, rfl, rfl, i1⟩
  · simp only [if_neg g1, ite_self, Option.bind_some]; exact ⟨_, s1, rfl, rfl, i1⟩
theorem a_eyes (v1 v2 : Int32) : AG (gL_eyes v1 v2) (gM_eyes v1 v2) := by
  intro xs D s h
  have hd := h.bd
  obtain ⟨s1, f1, k1, i1, p1, q1⟩ := h.asksE (v := v2)
  simp only [gL_eyes, gM_eyes, h.hasB, h.hasE, f1, i1.mB, Option.bind_some, bz_if]
  by_cases g1 : 0 ≤ v1.toInt ∧ v1.toInt < (D 5 0 : Int)
  · by_cases g2 : 0 < D 4 0 ∧ 0 ≤ v2.toInt ∧ v2.toInt < (D 0 0 : Int)
    · simp only [if_pos g1, if_pos g2]
      obtain ⟨b, hb, rfl⟩ := of_in g1
      obtain ⟨n, hn, rfl⟩ := of_in g2.2
      refine ⟨nI (rE D (T0 D) n b), s1, ?_, ?_, i1⟩
      · simp (disch := omega) only [↓ix_ite, ix_ite2, nI_clamp, rd_n, Option.bind_some, h.ey hn hb]
      · simp (disch := omega) only [show (5 : Int32) = nI 5 from rfl, pk_mul, nI_add, rd_n, (q1 g2.1).1.2.2.1.2.2.1 n b hn hb, Option.bind_some]
    · simp only [if_pos g1, if_neg g2, Option.bind_some]; exact ⟨_, s1, rfl, rfl, i1⟩
  · simp only [if_neg g1, ite_self, Option.bind_some]; exact ⟨_, s1, rfl, rfl, i1⟩
theorem a_awake (v1 : Int32) : AG (gL_awake v1) (gM_awake v1) := by
  intro xs D s h
  have hd := h.bd
  obtain ⟨s1, f1, k1, i1, p1, q1⟩ := h.asksE (v := v1)
  simp only [gL_awake, gM_awake, h.hasE, f1, Option.bind_some, bz_if]
  by_cases g2 : 0 < D 4 0 ∧ 0 ≤ v1.toInt ∧ v1.toInt < (D 0 0 : Int)
  · simp only [if_pos g2]
    obtain ⟨n, hn, rfl⟩ := of_in g2.2
    refine ⟨nI (bmN ((T0 D).2.2.2.2.2 n) (D 6 0)), s1, ?_, ?_, i1⟩
    · simp (disch := omega) only [rd_n, Option.bind_some, h.aw (show n ≤ 20 by omega)]
    · simp (disch := omega) only [rd_n, (q1 g2.1).1.2.2.1.2.2.2 n hn, Option.bind_some]
  · simp only [if_neg g2, Option.bind_some]; exact ⟨_, s1, rfl, rfl, i1⟩
theorem a_lookers (v1 v2 : Int32) : AG (gL_lookers v1 v2) (gM_lookers v1 v2) := by
  intro xs D s h
  obtain ⟨s1, f1, k1, i1, p1, q1⟩ := h.asksS (v := v2)
  simp only [gL_lookers, gM_lookers, h.hasB, h.hasS, f1, i1.mB, Option.bind_some, bz_if]
  by_cases g1 : 0 ≤ v1.toInt ∧ v1.toInt < (D 5 0 : Int)
  · by_cases g2 : 0 < D 4 0 ∧ 0 ≤ v2.toInt ∧ v2.toInt < (D 0 0 : Int) + 1
    · simp only [if_pos g1, if_pos g2]
      obtain ⟨b, hb, rfl⟩ := of_in g1
      obtain ⟨n, hn, rfl⟩ := of_inS g2.2
      refine ⟨nI (bmN (fun w => decide (rK D (T0 D) n w = b)) (D 6 0)), s1, ?_, ?_, i1⟩
      · simp only [kC_lookers h.cv hn hb, Option.bind_some]
      · simp only [mq_lookers (q1 g2.1).1 hn hb, Option.bind_some]
    · simp only [if_pos g1, if_neg g2, Option.bind_some]; exact ⟨_, s1, rfl, rfl, i1⟩
  · simp only [if_neg g1, ite_self, Option.bind_some]; exact ⟨_, s1, rfl, rfl, i1⟩
theorem a_leads (v1 : Int32) : AG (gL_leads v1) (gM_leads v1) := by
  intro xs D s h
  obtain ⟨s1, f1, k1, i1, p1, q1⟩ := h.asksS (v := v1)
  simp only [gL_leads, gM_leads, h.hasS, f1, Option.bind_some, bz_if]
  by_cases g2 : 0 < D 4 0 ∧ 0 ≤ v1.toInt ∧ v1.toInt < (D 0 0 : Int) + 1
  · simp only [if_pos g2]
    obtain ⟨n, hn, rfl⟩ := of_inS g2.2
    refine ⟨oz (leadO (D 5 0) (rP D (T0 D) n)), s1, ?_, ?_, i1⟩
    · simp only [kC_leader h.cv hn, Option.bind_some]
    · simp only [mq_leads1 (q1 g2.1).1 hn, Option.bind_some]
  · simp only [if_neg g2, Option.bind_some]; exact ⟨_, s1, rfl, rfl, i1⟩
theorem a_lags (v1 : Int32) : AG (gL_lags v1) (gM_lags v1) := by
  intro xs D s h
  obtain ⟨s1, f1, k1, i1, p1, q1⟩ := h.asksS (v := v1)
  simp only [gL_lags, gM_lags, h.hasS, f1, Option.bind_some, bz_if]
  by_cases g2 : 0 < D 4 0 ∧ 0 ≤ v1.toInt ∧ v1.toInt < (D 0 0 : Int) + 1
  · simp only [if_pos g2]
    obtain ⟨n, hn, rfl⟩ := of_inS g2.2
    refine ⟨oz (lagO (D 5 0) (rP D (T0 D) n)), s1, ?_, ?_, i1⟩
    · simp only [kC_last h.cv hn, Option.bind_some]
    · simp only [mq_lags1 (q1 g2.1).1 hn, Option.bind_some]
  · simp only [if_neg g2, Option.bind_some]; exact ⟨_, s1, rfl, rfl, i1⟩
theorem a_calm (v1 : Int32) : AG (gL_calm v1) (gM_calm v1) := by
  intro xs D s h
  obtain ⟨s1, f1, k1, i1, p1, q1⟩ := h.asksB (v := v1)
  simp only [gL_calm, gM_calm, h.hasB, f1, Option.bind_some, bz_if]
  by_cases g2 : 0 ≤ v1.toInt ∧ v1.toInt < (D 5 0 : Int)
  · simp only [if_pos g2]
    obtain ⟨b, hb, rfl⟩ := of_in g2
    refine ⟨nI (bmN (calmB (D 2 0) (rP D (T0 D)) (rE D (T0 D)) (D 10) b) (D 0 0)), s1, ?_, ?_, i1⟩
    · simp only [kC_calm h.cv hb, Option.bind_some]
    · have := mq_calm (q1 (h.isr (by omega))).1 hb
      simp only [this, Option.bind_some]
      rfl
  · simp only [if_neg g2, Option.bind_some]; exact ⟨_, s1, rfl, rfl, i1⟩
theorem a_home (v1 : Int32) : AG (gL_home v1) (gM_home v1) := by
  intro xs D s h
  obtain ⟨s1, f1, k1, i1, p1, q1⟩ := h.asksB (v := v1)
  simp only [gL_home, gM_home, h.hasB, f1, Option.bind_some, bz_if]
  by_cases g2 : 0 ≤ v1.toInt ∧ v1.toInt < (D 5 0 : Int)
  · simp only [if_pos g2]
    obtain ⟨b, hb, rfl⟩ := of_in g2
    refine ⟨oz (homeO (D 0 0) (D 2 0) (rP D (T0 D)) b), s1, ?_, ?_, i1⟩
    · simp only [kC_home h.cv hb, Option.bind_some]
    · simp only [mq_home (q1 (h.isr (by omega))).1 hb, Option.bind_some]
  · simp only [if_neg g2, Option.bind_some]; exact ⟨_, s1, rfl, rfl, i1⟩
theorem a_wins : AG gL_wins gM_wins := by
  intro xs D s h
  obtain ⟨s1, f1, k1, i1, p1, q1⟩ := h.asks
  simp only [gL_wins, gM_wins, h.ex, f1, Option.bind_some, bz_if]
  by_cases g2 : 0 < D 4 0
  · simp only [if_pos g2]
    refine ⟨oz (winO (D 0 0) (D 5 0) (D 2 0) (rP D (T0 D))), s1, ?_, ?_, i1⟩
    · simp only [kC_winner h.cv, Option.bind_some]
    · simp only [mq_win (q1 g2).1, Option.bind_some]
  · simp only [if_neg g2, Option.bind_some]; exact ⟨_, s1, rfl, rfl, i1⟩
theorem a_gap (v1 v2 v3 : Int32) : AG (gL_gap v1 v2 v3) (gM_gap v1 v2 v3) := by
  intro xs D s h
  have hd := h.bd
  obtain ⟨s1, f1, k1, i1, p1, q1⟩ := h.asksS (v := v3)
  simp only [gL_gap, gM_gap, h.hasB, h.hasS, f1, i1.mB, Option.bind_some, bz_if]
  by_cases g1 : 0 ≤ v1.toInt ∧ v1.toInt < (D 5 0 : Int)
  · by_cases g3 : 0 ≤ v2.toInt ∧ v2.toInt < (D 5 0 : Int)
    · by_cases g2 : 0 < D 4 0 ∧ 0 ≤ v3.toInt ∧ v3.toInt < (D 0 0 : Int) + 1
      · simp only [if_pos g1, if_pos g2, if_pos g3]
        obtain ⟨b, hb, rfl⟩ := of_in g1
        obtain ⟨o, ho, rfl⟩ := of_in g3
        obtain ⟨n, hn, rfl⟩ := of_inS g2.2
        refine ⟨nI (rP D (T0 D) n b) - nI (rP D (T0 D) n o), s1, ?_, ?_, i1⟩
        · simp (disch := omega) only [↓ix_ite, ix_ite2, nI_clamp, rd_n, Option.bind_some, h.pl hn hb, h.pl hn ho]
        · simp only [mq_pl (q1 g2.1).1 hn hb, mq_pl (q1 g2.1).1 hn ho, Option.bind_some]
      · simp only [if_pos g1, if_pos g3, if_neg g2, Option.bind_some]; exact ⟨_, s1, rfl, rfl, i1⟩
    · simp only [if_pos g1, if_neg g3, ite_self, Option.bind_some]; exact ⟨_, s1, rfl, rfl, i1⟩
  · simp only [if_neg g1, ite_self, Option.bind_some]; exact ⟨_, s1, rfl, rfl, i1⟩
theorem a_speed (v1 v2 : Int32) : AG (gL_speed v1 v2) (gM_speed v1 v2) := by
  intro xs D s h
  have hd := h.bd
  obtain ⟨s1, f1, k1, i1, p1, q1⟩ := h.asksE (v := v2)
  simp only [gL_speed, gM_speed, h.hasB, h.hasE, f1, i1.mB, Option.bind_some, bz_if]
  by_cases g1 : 0 ≤ v1.toInt ∧ v1.toInt < (D 5 0 : Int)
  · by_cases g2 : 0 < D 4 0 ∧ 0 ≤ v2.toInt ∧ v2.toInt < (D 0 0 : Int)
    · simp only [if_pos g1, if_pos g2]
      obtain ⟨b, hb, rfl⟩ := of_in g1
      obtain ⟨n, hn, rfl⟩ := of_in g2.2
      refine ⟨nI (rP D (T0 D) (n + 1) b) - nI (rP D (T0 D) n b), s1, ?_, ?_, i1⟩
      · simp (disch := omega) only [nI_1, ↓ix_ite, ix_ite2, nI_clamp, rd_n, Option.bind_some, h.pl (show n ≤ D 0 0 by omega) hb, h.pl (show n + 1 ≤ D 0 0 by omega) hb]
      · simp only [nI_1, mq_pl (q1 g2.1).1 (show n ≤ D 0 0 by omega) hb, mq_pl (q1 g2.1).1 (show n + 1 ≤ D 0 0 by omega) hb, Option.bind_some]
    · simp only [if_pos g1, if_neg g2, Option.bind_some]; exact ⟨_, s1, rfl, rfl, i1⟩
  · simp only [if_neg g1, ite_self, Option.bind_some]; exact ⟨_, s1, rfl, rfl, i1⟩
theorem a_lacks (v1 v2 : Int32) : AG (gL_lacks v1 v2) (gM_lacks v1 v2) := by
  intro xs D s h
  have hd := h.bd
  obtain ⟨s1, f1, k1, i1, p1, q1⟩ := h.asksE (v := v2)
  simp only [gL_lacks, gM_lacks, h.hasB, h.hasE, f1, i1.mB, Option.bind_some, bz_if]
  by_cases g1 : 0 ≤ v1.toInt ∧ v1.toInt < (D 5 0 : Int)
  · by_cases g2 : 0 < D 4 0 ∧ 0 ≤ v2.toInt ∧ v2.toInt < (D 0 0 : Int)
    · simp only [if_pos g1, if_pos g2]
      obtain ⟨b, hb, rfl⟩ := of_in g1
      obtain ⟨n, hn, rfl⟩ := of_in g2.2
      have e1 := (h.R.2.1 b hb).2
      have e2 : s1.1 302 b = nI (D 10 b) := ((q1 g2.1).1.2.2.2.2 b hb).1
      refine ⟨imax 0 (nI (D 10 b) - nI (rE D (T0 D) n b)), s1, ?_, ?_, i1⟩
      · simp (disch := omega) only [↓ix_ite, ix_ite2, nI_clamp, rd_n, Option.bind_some, h.ey hn hb, e1]
      · simp (disch := omega) only [show (5 : Int32) = nI 5 from rfl, pk_mul, nI_add, rd_n, (q1 g2.1).1.2.2.1.2.2.1 n b hn hb, e2, Option.bind_some]
    · simp only [if_pos g1, if_neg g2, Option.bind_some]; exact ⟨_, s1, rfl, rfl, i1⟩
  · simp only [if_neg g1, ite_self, Option.bind_some]; exact ⟨_, s1, rfl, rfl, i1⟩
end A1
