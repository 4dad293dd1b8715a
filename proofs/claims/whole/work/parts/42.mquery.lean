/-! THE MODEL ASKED: what its own queries answer -/
def MQq (D : RD) (T : SU) (s : mT) : Prop := VD D ∧ MA (s.1 295) D ∧ MW D T s ∧ (∀ n w, n ≤ D 0 0 → w < D 6 0 → rK D T n w < D 5 0) ∧ (∀ b, b < D 5 0 → s.1 302 b = nI (T.2.2.1 b) ∧ 1 ≤ T.2.2.1 b ∧ T.2.2.1 b ≤ 9)
theorem amF_first (gt : Nat → Nat → Bool) (j : Nat) (hj : 0 < j) : amF gt 0 j = if gt j (amF gt 0 (j - 1)) = true then j else amF gt 0 (j - 1) := by
  obtain ⟨i, rfl⟩ : ∃ i, j = i + 1 := ⟨j - 1, by omega⟩
  show (if gt (0 + i + 1) (amF gt 0 i) = true then 0 + i + 1 else amF gt 0 i) = _
  rw [Nat.zero_add, Nat.add_sub_cancel]
def amO (gt : Nat → Nat → Bool) (B : Nat) : Option Nat := if B = 0 then none else some (amF gt 0 (B - 1))
/-- the best by homes, as the model finds it -/
def wbO (h : Nat → Option Nat) : Nat → Option Nat
  | 0 => none
  | j + 1 => match h j, wbO h j with
    | none, x => x
    | some _, none => some j
    | some u, some c => if (h c).getD 0 ≤ u then some c else some j
theorem wbO_lt {h : Nat → Option Nat} : ∀ {j c : Nat}, wbO h j = some c → c < j ∧ ∃ v, h c = some v := by
  intro j
  induction j with
  | zero => intro c z; cases z
  | succ j ih =>
    intro c z
    unfold wbO at z
    split at z
    · obtain ⟨h1, h2⟩ := ih z; exact ⟨by omega, h2⟩
    · rename_i u h1 h2; cases z; exact ⟨by omega, u, h1⟩
    · rename_i u c0 h1 h2
      split at z
      · cases z
        obtain ⟨h3, h4⟩ := ih h2
        exact ⟨by omega, h4⟩
      · cases z; exact ⟨by omega, u, h1⟩
theorem wbO_none {h : Nat → Option Nat} : ∀ {j : Nat}, wbO h j = none → ∀ b, b < j → h b = none := by
  intro j
  induction j with
  | zero => intro _ b hb; omega
  | succ j ih =>
    intro z b hb
    unfold wbO at z
    split at z
    · rename_i h1
      by_cases e : b = j
      · rw [e]; exact h1
      · exact ih z b (by omega)
    · cases z
    · split at z <;> cases z
theorem wbO_best {h : Nat → Option Nat} : ∀ {j c : Nat}, wbO h j = some c → ∀ b u v, b < j → h b = some u → h c = some v → v ≤ u ∧ (b < c → v < u) := by
  intro j
  induction j with
  | zero => intro c z; cases z
  | succ j ih =>
    intro c z b u v hb hu hv
    unfold wbO at z
    split at z
    · rename_i h1
      by_cases e : b = j
      · subst e; rw [h1] at hu; cases hu
      · exact ih z b u v (by omega) hu hv
    · rename_i u0 h1 h2
      have e0 : j = c := Option.some.inj z
      subst e0
      by_cases e : b = j
      · subst e; rw [hu] at hv; cases hv; exact ⟨Nat.le_refl _, fun z => absurd z (by omega)⟩
      · rw [wbO_none h2 b (by omega)] at hu; cases hu
    · rename_i u0 c0 h1 h2
      obtain ⟨g1, v0, g2⟩ := wbO_lt h2
      split at z
      · rename_i h3
        cases z
        rw [hv] at g2; cases g2
        rw [hv] at h3
        by_cases e : b = j
        · subst e; rw [hu] at h1; cases h1
          exact ⟨h3, fun z => absurd z (by omega)⟩
        · exact ih h2 b u v (by omega) hu hv
      · rename_i h3
        have e0 : j = c := Option.some.inj z
        subst e0
        rw [g2] at h3
        have h3 : ¬ v0 ≤ u0 := h3
        rw [hv] at h1; cases h1
        by_cases e : b = j
        · subst e; rw [hu] at hv; cases hv; exact ⟨Nat.le_refl _, fun z => absurd z (by omega)⟩
        · have := ih h2 b u v0 (by omega) hu g2
          omega
theorem wbO_win {N B G : Nat} {P : Nat → Nat → Nat} : wbO (homeO N G P) B = winO N B G P := by
  cases hw : wbO (homeO N G P) B with
  | none =>
    have h1 := wbO_none hw
    unfold winO
    rw [ffN_isN]
    · rfl
    · intro n _ hn
      rw [ffN_isN]
      · rfl
      · intro b _ hb
        have := ffN_none (h1 b (by omega)) n (Nat.zero_le _) hn
        exact this
  | some c =>
    obtain ⟨h1, v, h2⟩ := wbO_lt hw
    have h3 := wbO_best hw
    obtain ⟨g1, g2, g3, g4⟩ := ffN_some h2
    have hin : ffN (fun b => decide (G ≤ P v b)) B 0 = some c := by
      refine ffN_is (Nat.zero_le _) (by omega) g3 (fun b _ hb => ?_)
      cases hh : homeO N G P b with
      | none => exact ffN_none hh v (Nat.zero_le _) g2
      | some u =>
        have := (h3 b u v (by omega) hh h2).2 hb
        exact (ffN_some hh).2.2.2 v (Nat.zero_le _) this
    unfold winO
    rw [ffN_is (k := v) (Nat.zero_le _) g2 (by show (ffN (fun b => decide (G ≤ P v b)) B 0).isSome = true; rw [hin]; rfl) (fun n _ hn => ?_)]
    · exact hin.symm
    · show (ffN (fun b => decide (G ≤ P n b)) B 0).isSome = false
      rw [ffN_isN]
      · rfl
      · intro b _ hb
        cases hh : homeO N G P b with
        | none => exact ffN_none hh n (Nat.zero_le _) (by omega)
        | some u =>
          have := (h3 b u v (by omega) hh h2).1
          exact (ffN_some hh).2.2.2 n (Nat.zero_le _) (by omega)
section MQS
variable {n w b : Nat} {s : mT} {D : RD} {T : SU}
theorem mq_pl (h : MQq D T s) (hn : n ≤ D 0 0) (hb : b < D 5 0) : gM_placeOf (nI b) (nI n) s = some (nI (rP D T n b)) := by
  have h1 := h.1.1.1
  have h2 := h.1.1.2.2.2.2.2.1
  rw [pl_is (by omega) (by omega), h.2.2.1.1 n b hn hb]
theorem mq_on (h : MQq D T s) (hn : n ≤ D 0 0) (hb : w < D 6 0) : gM_onOf (nI w) (nI n) s = some (nI (rK D T n w)) := by
  have h1 := h.1.1.1
  have h2 := h.1.1.2.2.2.2.2.2.1
  rw [on_is (by omega) (by omega), h.2.2.1.2.1 n w hn hb]
theorem mq_B (h : MQq D T s) : rdI (s.1 295) 79 (4 : Int32) = some (nI (D 5 0)) := (rd_n (k := 4) (by omega) (by omega)).trans (congrArg some h.2.1.1.2.2.2.2.1)
theorem mq_W (h : MQq D T s) : rdI (s.1 295) 79 (5 : Int32) = some (nI (D 6 0)) := (rd_n (k := 5) (by omega) (by omega)).trans (congrArg some h.2.1.1.2.2.2.2.2.1)
theorem mq_G (h : MQq D T s) : rdI (s.1 295) 79 (2 : Int32) = some (nI (D 2 0)) := (rd_n (k := 2) (by omega) (by omega)).trans (congrArg some h.2.1.1.2.2.1)
theorem mq_N (h : MQq D T s) : gM_last s = some (nI (D 0 0)) := m_last h.2.1.1.1
theorem mq_b (h : MQq D T s) : D 0 0 ≤ 20 ∧ D 2 0 ≤ 60 ∧ D 5 0 ≤ 5 ∧ D 6 0 ≤ 5 := ⟨h.1.1.1, h.1.1.2.2.1, h.1.1.2.2.2.2.2.1, h.1.1.2.2.2.2.2.2.1⟩
theorem mq_P (h : MQq D T s) : rP D T n b ≤ 60 := Nat.le_trans (rP_le n b) (mq_b h).2.1
theorem mq_leads1 (h : MQq D T s) (hn : n ≤ D 0 0) : gM_leadsOf (nI n) s = some (oz (leadO (D 5 0) (rP D T n))) := by
  obtain ⟨b1, b2, b3, b4⟩ := mq_b h
  have e : wh FU (gM_leadsOf_h4 (nI n) s) ((-1 : Int32), (0 : Int32)) = some (oz (leadO (D 5 0) (rP D T n))) := by
    refine wh_for (fun j => (oz (leadO j (rP D T n)), nI j)) (D 5 0) (fun j hj => ?_) ?_ FU (FU_gt (by omega))
    · have e9 : ¬ D 5 0 ≤ j := by omega
      have p1 := mq_pl h hn hj
      have p2 := mq_P h (n := n) (b := j)
      unfold gM_leadsOf_h4
      dsimp only
      rw [mq_B h, Option.bind_some, if_neg (fun z => e9 ((nI_leI (by omega) (by omega)).mp z))]
      by_cases h0 : j = 0
      · subst h0
        rw [show oz (leadO 0 (rP D T n)) = (-1 : Int32) from rfl, if_pos rfl, Option.bind_some, nI_1]
        rfl
      · have g0 := amF_in (fun i k => decide (rP D T n k < rP D T n i)) 0 (j - 1)
        have q1 := mq_pl h hn (b := amF (fun i k => decide (rP D T n k < rP D T n i)) 0 (j - 1)) (by omega)
        have q2 := mq_P h (n := n) (b := amF (fun i k => decide (rP D T n k < rP D T n i)) 0 (j - 1))
        have ej : leadO j (rP D T n) = some (amF (fun i k => decide (rP D T n k < rP D T n i)) 0 (j - 1)) := if_neg h0
        have ej1 : leadO (j + 1) (rP D T n) = some (amF (fun i k => decide (rP D T n k < rP D T n i)) 0 j) := if_neg (by omega)
        rw [ej, ej1, oz_some, if_neg (m1_n (by omega)), p1, q1, Option.bind_some, Option.bind_some, amF_first _ j (by omega)]
        generalize amF (fun i k => decide (rP D T n k < rP D T n i)) 0 (j - 1) = z at *
        by_cases hh : rP D T n j ≤ rP D T n z
        · rw [if_pos ((nI_leI (by omega) (by omega)).mpr hh), Option.bind_some, if_neg (by simp; omega), nI_1]; rfl
        · rw [if_neg (fun y => hh ((nI_leI (by omega) (by omega)).mp y)), Option.bind_some, if_pos (by simp; omega), nI_1]; rfl
    · unfold gM_leadsOf_h4
      dsimp only
      rw [mq_B h, Option.bind_some, if_pos (nI_le (Nat.le_refl _) (by omega))]
  unfold gM_leadsOf
  rw [e]
  rfl
theorem mq_lags1 (h : MQq D T s) (hn : n ≤ D 0 0) : wh FU (gM_lags_h15 (nI n) s) ((-1 : Int32), (0 : Int32)) = some (oz (lagO (D 5 0) (rP D T n))) := by
  obtain ⟨b1, b2, b3, b4⟩ := mq_b h
  refine wh_for (fun j => (oz (lagO j (rP D T n)), nI j)) (D 5 0) (fun j hj => ?_) ?_ FU (FU_gt (by omega))
  · have e9 : ¬ D 5 0 ≤ j := by omega
    have p1 := mq_pl h hn hj
    have p2 := mq_P h (n := n) (b := j)
    unfold gM_lags_h15
    dsimp only
    rw [mq_B h, Option.bind_some, if_neg (fun z => e9 ((nI_leI (by omega) (by omega)).mp z))]
    by_cases h0 : j = 0
    · subst h0
      rw [show oz (lagO 0 (rP D T n)) = (-1 : Int32) from rfl, if_pos rfl, Option.bind_some, nI_1]
      rfl
    · have g0 := amF_in (fun i k => decide (rP D T n i < rP D T n k)) 0 (j - 1)
      have q1 := mq_pl h hn (b := amF (fun i k => decide (rP D T n i < rP D T n k)) 0 (j - 1)) (by omega)
      have q2 := mq_P h (n := n) (b := amF (fun i k => decide (rP D T n i < rP D T n k)) 0 (j - 1))
      have ej : lagO j (rP D T n) = some (amF (fun i k => decide (rP D T n i < rP D T n k)) 0 (j - 1)) := if_neg h0
      have ej1 : lagO (j + 1) (rP D T n) = some (amF (fun i k => decide (rP D T n i < rP D T n k)) 0 j) := if_neg (by omega)
      rw [ej, ej1, oz_some, if_neg (m1_n (by omega)), p1, q1, Option.bind_some, Option.bind_some, amF_first _ j (by omega)]
      generalize amF (fun i k => decide (rP D T n i < rP D T n k)) 0 (j - 1) = z at *
      by_cases hh : rP D T n z ≤ rP D T n j
      · rw [if_pos ((nI_leI (by omega) (by omega)).mpr hh), Option.bind_some, if_neg (by simp; omega), nI_1]; rfl
      · rw [if_neg (fun y => hh ((nI_leI (by omega) (by omega)).mp y)), Option.bind_some, if_pos (by simp; omega), nI_1]; rfl
  · unfold gM_lags_h15
    dsimp only
    rw [mq_B h, Option.bind_some, if_pos (nI_le (Nat.le_refl _) (by omega))]
theorem mq_home (h : MQq D T s) (hb : b < D 5 0) : gM_homeOf (nI b) s = some (oz (homeO (D 0 0) (D 2 0) (rP D T) b)) := by
  obtain ⟨b1, b2, b3, b4⟩ := mq_b h
  unfold gM_homeOf homeO
  refine wh_ff (fun n => decide (D 2 0 ≤ rP D T n b)) (fun k => nI k) oz (D 0 0 + 1) 0 (fun k _ hk hp => ?_) (fun k _ hk hp => ?_) ?_ FU (FU_gt (by omega))
  · have e9 : ¬ D 0 0 < k := by omega
    have p2 := mq_P h (n := k) (b := b)
    have hp := of_decide_eq_false hp
    unfold gM_homeOf_h2
    rw [mq_N h, Option.bind_some, if_neg (fun z => e9 ((nI_ltI (by omega) (by omega)).mp z)), mq_pl h (by omega) hb, Option.bind_some, mq_G h, Option.bind_some, if_neg (fun z => by have := (nI_eq (by omega) (by omega)).mp z; omega), nI_1]
  · have e9 : ¬ D 0 0 < k := by omega
    have p2 := mq_P h (n := k) (b := b)
    have p3 := rP_le (D := D) (T := T) k b
    have hp := of_decide_eq_true hp
    unfold gM_homeOf_h2
    rw [mq_N h, Option.bind_some, if_neg (fun z => e9 ((nI_ltI (by omega) (by omega)).mp z)), mq_pl h (by omega) hb, Option.bind_some, mq_G h, Option.bind_some, if_pos (by congr 1; omega)]
    rfl
  · unfold gM_homeOf_h2
    rw [mq_N h, Option.bind_some, if_pos (nI_lt (by omega) (by omega))]
    rfl
theorem oz_m1 {x : Option Nat} (h : ∀ n, x = some n → n < 2 ^ 31) : (oz x = (-1 : Int32)) ↔ x = none := by
  cases x with
  | none => exact ⟨fun _ => rfl, fun _ => rfl⟩
  | some n => exact ⟨fun z => absurd z (m1_n (h n rfl)), fun z => by cases z⟩
theorem homeO_le {N G : Nat} {P : Nat → Nat → Nat} {b k : Nat} (h : homeO N G P b = some k) : k ≤ N := by
  have := (ffN_some h).2.1
  omega
theorem mq_win (h : MQq D T s) : gM_winsOf s = some (oz (winO (D 0 0) (D 5 0) (D 2 0) (rP D T))) := by
  obtain ⟨b1, b2, b3, b4⟩ := mq_b h
  rw [← wbO_win]
  have e : wh FU (gM_winsOf_h4 s) ((-1 : Int32), (0 : Int32)) = some (oz (wbO (homeO (D 0 0) (D 2 0) (rP D T)) (D 5 0))) := by
    refine wh_for (fun j => (oz (wbO (homeO (D 0 0) (D 2 0) (rP D T)) j), nI j)) (D 5 0) (fun j hj => ?_) ?_ FU (FU_gt (by omega))
    · have e9 : ¬ D 5 0 ≤ j := by omega
      have p1 := mq_home h hj
      unfold gM_winsOf_h4
      dsimp only
      rw [mq_B h, Option.bind_some, if_neg (fun z => e9 ((nI_leI (by omega) (by omega)).mp z)), p1, Option.bind_some]
      have ew : wbO (homeO (D 0 0) (D 2 0) (rP D T)) (j + 1) = (match homeO (D 0 0) (D 2 0) (rP D T) j, wbO (homeO (D 0 0) (D 2 0) (rP D T)) j with
        | none, x => x
        | some _, none => some j
        | some u, some c => if (homeO (D 0 0) (D 2 0) (rP D T) c).getD 0 ≤ u then some c else some j) := rfl
      rw [ew]
      cases hj1 : homeO (D 0 0) (D 2 0) (rP D T) j with
      | none => rw [oz_none, if_pos rfl, Option.bind_some, nI_1]
      | some u =>
        have hu := homeO_le hj1
        rw [oz_some, if_neg (m1_n (by omega))]
        cases hw1 : wbO (homeO (D 0 0) (D 2 0) (rP D T)) j with
        | none => rw [oz_none, if_pos rfl, Option.bind_some, nI_1]; rfl
        | some c =>
          obtain ⟨g1, v, g2⟩ := wbO_lt hw1
          have hv := homeO_le g2
          rw [oz_some, if_neg (m1_n (by omega)), Option.bind_some, mq_home h (by omega), Option.bind_some, g2, oz_some]
          by_cases hh : v ≤ u
          · rw [if_pos ((nI_leI (by omega) (by omega)).mpr hh), Option.bind_some, nI_1]
            dsimp only
            rw [g2, if_pos (show (some v).getD 0 ≤ u from hh)]
            rfl
          · rw [if_neg (fun y => hh ((nI_leI (by omega) (by omega)).mp y)), Option.bind_some, nI_1]
            dsimp only
            rw [g2, if_neg (show ¬ (some v).getD 0 ≤ u from hh)]
            rfl
    · unfold gM_winsOf_h4
      dsimp only
      rw [mq_B h, Option.bind_some, if_pos (nI_le (Nat.le_refl _) (by omega))]
  unfold gM_winsOf
  rw [e]
  rfl
theorem or_bit {p : Nat → Bool} {k : Nat} {x : Int32} (hk : k < 31) (hx : x = if p k = true then (1 : Int32) <<< (nI k &&& 31) else 0) : nI (bmN p k) ||| x = nI (bmN p (k + 1)) := by
  subst hx
  rw [bm_s]
  by_cases h : p k = true
  · rw [if_pos h, if_pos h, or_new hk]
  · rw [if_neg h, if_neg h, ← nI_0, nI_or, Nat.or_zero, Nat.add_zero]
theorem mq_calm (h : MQq D T s) (hb : b < D 5 0) : gM_calmOf (nI b) s = some (nI (bmN (calmB (D 2 0) (rP D T) (rE D T) T.2.2.1 b) (D 0 0))) := by
  obtain ⟨b1, b2, b3, b4⟩ := mq_b h
  obtain ⟨d1, d2, d3⟩ := h.2.2.2.2 b hb
  have e : wh FU (gM_calmOf_h4 (nI b) s) ((0 : Int32), (0 : Int32)) = some (nI (bmN (calmB (D 2 0) (rP D T) (rE D T) T.2.2.1 b) (D 0 0))) := by
    refine wh_for (fun j => (nI (bmN (calmB (D 2 0) (rP D T) (rE D T) T.2.2.1 b) j), nI j)) (D 0 0) (fun j hj => ?_) ?_ FU (FU_gt (by omega))
    · have e9 : ¬ D 0 0 ≤ j := by omega
      have p2 := mq_P h (n := j) (b := b)
      have p3 := rE_le (T := T) h.1 j b
      have hE := h.2.2.1.2.2.1 j b hj hb
      unfold gM_calmOf_h4
      dsimp only
      rw [mq_N h, Option.bind_some, if_neg (fun z => e9 ((nI_leI (by omega) (by omega)).mp z)), show (5 : Int32) = nI 5 from rfl, pk_mul, nI_add, rd_n (by omega) (by omega), hE, Option.bind_some, rd_n (by omega) (by omega), d1, Option.bind_some, mq_pl h (by omega) hb, Option.bind_some, mq_G h, Option.bind_some]
      by_cases h1 : T.2.2.1 b ≤ rE D T j b
      · rw [if_pos ((nI_leI (by omega) (by omega)).mpr h1), Option.bind_some, or_bit (by omega) (x := 0) (p := calmB (D 2 0) (rP D T) (rE D T) T.2.2.1 b) (by unfold calmB; rw [decide_eq_false (show ¬ rE D T j b < T.2.2.1 b by omega), Bool.and_false]; rfl), nI_1]
      · rw [if_neg (fun z => h1 ((nI_leI (by omega) (by omega)).mp z))]
        by_cases h3 : D 2 0 ≤ rP D T j b
        · rw [if_pos ((nI_leI (by omega) (by omega)).mpr h3), Option.bind_some, or_bit (by omega) (x := 0) (p := calmB (D 2 0) (rP D T) (rE D T) T.2.2.1 b) (by unfold calmB; rw [decide_eq_false (show ¬ rP D T j b < D 2 0 by omega), Bool.false_and]; rfl), nI_1]
        · rw [if_neg (fun z => h3 ((nI_leI (by omega) (by omega)).mp z)), Option.bind_some, or_bit (by omega) (p := calmB (D 2 0) (rP D T) (rE D T) T.2.2.1 b) (by unfold calmB; rw [decide_eq_true (show rP D T j b < D 2 0 by omega), decide_eq_true (show rE D T j b < T.2.2.1 b by omega)]; rfl), nI_1]
    · unfold gM_calmOf_h4
      dsimp only
      rw [mq_N h, Option.bind_some, if_pos (nI_le (Nat.le_refl _) (by omega))]
  unfold gM_calmOf
  rw [e]
  rfl
theorem mq_lookers (h : MQq D T s) (hn : n ≤ D 0 0) (hb : b < D 5 0) : gM_lookersOf (nI b) (nI n) s = some (nI (bmN (fun w => decide (rK D T n w = b)) (D 6 0))) := by
  obtain ⟨b1, b2, b3, b4⟩ := mq_b h
  have e : wh FU (gM_lookersOf_h5 (nI b) (nI n) s) ((0 : Int32), (0 : Int32)) = some (nI (bmN (fun w => decide (rK D T n w = b)) (D 6 0))) := by
    refine wh_for (fun j => (nI (bmN (fun w => decide (rK D T n w = b)) j), nI j)) (D 6 0) (fun j hj => ?_) ?_ FU (FU_gt (by omega))
    · have e9 : ¬ D 6 0 ≤ j := by omega
      have hk := h.2.2.2.1 n j hn hj
      unfold gM_lookersOf_h5
      dsimp only
      rw [mq_W h, Option.bind_some, if_neg (fun z => e9 ((nI_leI (by omega) (by omega)).mp z)), mq_on h hn hj, Option.bind_some]
      by_cases h1 : rK D T n j = b
      · rw [if_pos (congrArg nI h1), Option.bind_some, or_bit (by omega) (p := fun w => decide (rK D T n w = b)) (by rw [if_pos (decide_eq_true h1)]), nI_1]
      · rw [if_neg (fun z => h1 ((nI_eq (by omega) (by omega)).mp z)), Option.bind_some, or_bit (by omega) (x := 0) (p := fun w => decide (rK D T n w = b)) (by rw [if_neg (fun z => h1 (of_decide_eq_true z))]), nI_1]
    · unfold gM_lookersOf_h5
      dsimp only
      rw [mq_W h, Option.bind_some, if_pos (nI_le (Nat.le_refl _) (by omega))]
  unfold gM_lookersOf
  rw [e]
  rfl
end MQS
/-! both: the class's course and the model's rows, out of one setup -/
section BOTH
variable {c M lw m : Nat} {s : mT} {D : RD} {T : SU} {st nd fo lu : Nat → Nat} {sl : Nat → Nat → Bool}
theorem tX_K (hV : VD D) (hf : ∀ w, w < D 6 0 → fo w < D 5 0) : ∀ n w, n ≤ D 0 0 → w < D 6 0 → rK D (tX D lw st nd fo sl) n w < D 5 0 := fun n w hn hw => rK_lt (T := tX D lw st nd fo sl) hV hf (fun n w _ _ b hb => alK_lt hV (D 8 0) (Nat.le_refl _) n w b hb) n hn w hw
theorem MQq.mk' (hV : VD D) (hM : MA (s.1 295) D) (hP : MPB D lw st nd fo lu m s) (hW : MW D (tX D lw st nd fo sl) s) : MQq D (tX D lw st nd fo sl) s := ⟨hV, hM, hW, tX_K hV (fun w hw => (hP.2.2.1 w hw).2), fun b hb => (hP.2.1 b hb).2⟩
theorem CV.mk' (hV : VD D) (hR : RR 16 D s) (hP : PR c D T s) (hW : RW c D T M s) (hM : M ≤ D 0 0) (hK : ∀ n w, n ≤ D 0 0 → w < D 6 0 → rK D T n w < D 5 0) : CV c s M (D 0 0) (D 5 0) (D 6 0) (D 2 0) (rP D T) (rK D T) (rE D T) T.2.2.1 := by
  have v := hV.1
  obtain ⟨v1, v2, v3, v4, v5, v6, v7, v8, v9⟩ := v
  refine ⟨⟨hM, v1, v6, v7, v3⟩, ⟨hR.1.1, hR.1.2.2.1, hR.1.2.2.2.2.2.1, hR.1.2.2.2.2.2.2.1⟩, fun n b hn hb => ⟨hW.1 n b hn hb, Nat.le_trans (rP_le n b) v3⟩, fun n w hn hw => ⟨hW.2.1 n w hn hw, by have := hK n w (by omega) hw; omega⟩, fun n b hn hb => ⟨hW.2.2 n b hn hb, rE_le hV n b⟩, fun b hb => (hP.2.1 b hb).2⟩
end BOTH
