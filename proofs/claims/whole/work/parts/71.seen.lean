/-! SEEN: rows of places told -/
def okT (D : RD) (R : Nat → Int64) (j : Nat) : Bool := decide (0 ≤ (R (3 * j)).toInt ∧ (R (3 * j)).toInt < (D 5 0 : Int)) && (decide (0 ≤ (R (3 * j + 1)).toInt ∧ (R (3 * j + 1)).toInt < (D 0 0 : Int) + 1) && decide (0 ≤ (R (3 * j + 2)).toInt ∧ (R (3 * j + 2)).toInt ≤ 60))
def TPB (D : RD) (n : Nat) (R : Nat → Int64) : Bool := decide (n % 3 = 0) && (ffN (fun j => !okT D R j) (n / 3) 0).isNone
def SLD (l n : Nat) (s : mT) : Prop := s.1 (286 + 2 * l) 1 = 1 ∧ s.1 (286 + 2 * l) 3 = nI n ∧ s.1 313 l = nI n ∧ n ≤ 60 ∧ ∀ i, i < n → s.2 (287 + 2 * l) i = s.2 315 (60 * l + i)
def eqT (D : RD) (R : Nat → Int64) (T : SU) (t : Nat) : Bool := decide ((rP D T (R (3 * t + 1)).toInt.toNat (R (3 * t)).toInt.toNat : Int) = (R (3 * t + 2)).toInt)
theorem ftB_is {D : RD} {n : Nat} {R : Nat → Int64} {T : SU} : ftB D n R T = allN (eqT D R T) (n / 3) := rfl
theorem all_s (p : Nat → Bool) (m : Nat) : allN p (m + 1) = (allN p m && p m) := rfl
theorem all_ff (p : Nat → Bool) : ∀ m, allN p m = (ffN (fun j => !p j) m 0).isNone := by
  intro m
  induction m with
  | zero => rfl
  | succ m ih =>
    rw [all_s, ih, ff_s]
    cases ffN (fun j => !p j) m 0 with
    | some i => rfl
    | none =>
      dsimp only
      cases p m <;> rfl
theorem all_iff {p : Nat → Bool} : ∀ {m : Nat}, allN p m = true ↔ ∀ j, j < m → p j = true := by
  intro m
  induction m with
  | zero => exact ⟨fun _ j hj => absurd hj (Nat.not_lt_zero _), fun _ => rfl⟩
  | succ m ih =>
    rw [all_s, Bool.and_eq_true, ih]
    refine ⟨fun h j hj => ?_, fun h => ⟨fun j hj => h j (by omega), h m (by omega)⟩⟩
    by_cases e : j = m
    · subst e; exact h.2
    · exact h.1 j (by omega)
section SEEN
variable {n w o b a k m l wd i j W c lw M : Nat} {s s' s'' t : mT} {D D' : RD} {xs : Nat → Int32} {R : Nat → Int64} {T : SU}
theorem TP_ok (h : TPB D n R = true) : n % 3 = 0 ∧ ∀ j, j < n / 3 → okT D R j = true := by
  unfold TPB at h
  rw [Bool.and_eq_true, ← all_ff, decide_eq_true_eq] at h
  exact ⟨h.1, all_iff.mp h.2⟩
theorem ok_T (h : okT D R j = true) : (0 ≤ (R (3 * j)).toInt ∧ (R (3 * j)).toInt < (D 5 0 : Int)) ∧ (0 ≤ (R (3 * j + 1)).toInt ∧ (R (3 * j + 1)).toInt < (D 0 0 : Int) + 1) ∧ (0 ≤ (R (3 * j + 2)).toInt ∧ (R (3 * j + 2)).toInt ≤ 60) := by
  unfold okT at h
  rw [Bool.and_eq_true, Bool.and_eq_true, decide_eq_true_eq, decide_eq_true_eq, decide_eq_true_eq] at h
  exact h
theorem l_n {x : Int64} (h0 : 0 ≤ x.toInt) (h1 : x.toInt < 2 ^ 31) : x.toInt32 = nI x.toInt.toNat := by
  apply Int32.toInt_inj.mp
  rw [Int64.toInt_toInt32, nI_toInt (by omega), Int.bmod_def]
  split <;> omega
theorem n3_1 : nI (3 * j) + (2 : Int32) = nI (3 * j + 2) := nI_add _ 2
theorem n3_2 : nI (3 * j) + (3 : Int32) = nI (3 * (j + 1)) := (nI_add _ 3).trans (congrArg nI (by omega))
theorem n_rem (hn : n ≤ 60) : (nI n - nI n / (3 : Int32) * (3 : Int32) = 0) ↔ n % 3 = 0 := (by decide +kernel : ∀ n, n < 61 → ((nI n - nI n / (3 : Int32) * (3 : Int32) = 0) ↔ n % 3 = 0)) n (by omega)
theorem c_le60 {v : Int64} : (lg_cmp v (60 : Int64) ≤ 0) ↔ v.toInt ≤ 60 := by
  rw [lg_cmp_le, Int64.le_iff_toInt_le]
  rfl
theorem c_tells (hV : VD D) (hR : RR 16 D s) (h4 : 0 < D 4 0) (h3 : s.1 (286 + 2 * l) 3 = nI n) (hn : n ≤ 60) : gW_tellsPlaces (286 + 2 * l) 16 s = some (bz (TPB D n (s.2 (287 + 2 * l)))) := by
  have hd := hV.1
  unfold gW_tellsPlaces TPB
  rw [if_neg (by decide), h3]
  by_cases e : n % 3 = 0
  · rw [if_pos ((n_rem hn).mpr e), decide_eq_true e, Bool.true_and]
    obtain ⟨R, hRR⟩ : ∃ R, R = s.2 (287 + 2 * l) := ⟨_, rfl⟩
    have hr1 : s.2 (286 + 2 * l + 1) = R := by rw [hRR]; exact congrArg s.2 (by omega)
    rw [← hRR]
    have hb := fun v : Int64 => g_hasBoat (s := s) (r := 16) (v := v) hR.1.2.2.2.2.2.1 hd.2.2.2.2.2.1
    have hst := fun v : Int64 => g_hasStep (s := s) (r := 16) (v := v) hR.1.2.2.2.2.1 (by omega) hR.1.1 hd.1
    have := wh_ff (f := gW_tellsPlaces_h13 (286 + 2 * l) 16 s) (fun j => !okT D R j) (fun j => nI (3 * j)) (fun r => bz r.isNone) (n / 3) 0 (fun j _ hj hp => by
      have ok := ok_T (D := D) (R := R) (j := j) (by simpa using hp)
      unfold gW_tellsPlaces_h13
      rw [h3, n3_1, if_neg (nle (by omega) (by omega) (by omega)), rdL_n (by omega) (by omega), Option.bind_some, hr1, hb, Option.bind_some, bz_if, if_pos ok.1, nI_1, rdL_n (by omega) (by omega), Option.bind_some, hst, Option.bind_some, bz_if, if_pos ⟨h4, ok.2.1⟩, rdL_n (by omega) (by omega), Option.bind_some, if_neg (fun z => by have := c_lt0.mp z; omega), Option.bind_some, if_pos (c_le60.mpr ok.2.2.2), n3_2]) (fun j _ hj hp => by
      have ok : okT D R j = false := by simpa using hp
      unfold gW_tellsPlaces_h13
      rw [h3, n3_1, if_neg (nle (by omega) (by omega) (by omega)), rdL_n (by omega) (by omega), Option.bind_some, hr1, hb, Option.bind_some, bz_if]
      unfold okT at ok
      by_cases o1 : 0 ≤ (R (3 * j)).toInt ∧ (R (3 * j)).toInt < (D 5 0 : Int)
      · rw [if_pos o1, nI_1, rdL_n (by omega) (by omega), Option.bind_some, hst, Option.bind_some, bz_if]
        rw [decide_eq_true o1, Bool.true_and] at ok
        by_cases o2 : 0 ≤ (R (3 * j + 1)).toInt ∧ (R (3 * j + 1)).toInt < (D 0 0 : Int) + 1
        · rw [if_pos ⟨h4, o2⟩, rdL_n (by omega) (by omega), Option.bind_some]
          rw [decide_eq_true o2, Bool.true_and] at ok
          have o3 := of_decide_eq_false ok
          by_cases o4 : lg_cmp (R (3 * j + 2)) (0 : Int64) < 0
          · rw [if_pos o4]; rfl
          · rw [if_neg o4, Option.bind_some, if_neg (fun z => o3 ⟨by
              rw [c_lt0] at o4
              omega, c_le60.mp z⟩)]
            rfl
        · rw [if_neg (fun z => o2 z.2)]; rfl
      · rw [if_neg o1]; rfl) (by
      unfold gW_tellsPlaces_h13
      rw [h3, n3_1, if_pos (nI_le (by omega) (by omega))]
      rfl) FU (FU_gt (by omega))
    exact this
  · rw [if_neg (fun z => e ((n_rem hn).mp z)), decide_eq_false e, Bool.false_and]
    rfl
theorem m_tells (h : IV xs D s) (h4 : 0 < D 4 0) (hl : l < 4) (hs : SLD l n s) : (TPB D n (s.2 (287 + 2 * l)) = true → ∃ s', gM_askSeen (nI l) s = some (0, s') ∧ KP s s' ∧ IV xs D s' ∧ MPB D (D 1 0) (D 9) (D 10) (D 14) (l0 D) 0 s') ∧ (TPB D n (s.2 (287 + 2 * l)) = false → gM_askSeen (nI l) s = some (-2, s)) := by
  have hV := h.V
  have hd := hV.1
  obtain ⟨z1, z2, z3, z4, z5⟩ := hs
  have g1 : 0 ≤ (nI l).toInt ∧ (nI l).toInt < (4 : Nat) := by rw [nI_toInt (by omega)]; omega
  obtain ⟨s1, f1, f2, f3, f4⟩ := h.asIs
  obtain ⟨R, hRR⟩ : ∃ R, R = s.2 (287 + 2 * l) := ⟨_, rfl⟩
  rw [← hRR] at z5 ⊢
  have nat : ∀ i, i < n → gM_numberAt (nI l) (nI i) s = some (R i) := fun i hi => by
    unfold gM_numberAt
    rw [show (60 : Int32) = nI 60 from rfl, pk_mul, nI_add, rdL_n (by omega) (by omega), Option.bind_some, z5 i hi]
  have x13 : rdI (s.1 313) 4 (nI l) = some (nI n) := (rd_n (by omega) (by omega)).trans (congrArg some z3)
  have hb := fun v : Int64 => m_isBoat (s := s) (v := v) h.M.1.2.2.2.2.1 hd.2.2.2.2.2.1
  have hst := fun v : Int64 => m_isStep (s := s) (v := v) h.M.1.2.2.2.2.2.2.2.2 h.l31 h.M.1.1 hd.1
  have hin : ∀ v : Int64, gM_in v (0 : Int64) (60 : Int64) s = some (bz (decide (0 ≤ v.toInt ∧ v.toInt ≤ 60))) := fun v => m_in
  have loop : n % 3 = 0 → wh FU (gM_askSeen_h46 (nI l) s) (0 : Int32) = some (match ffN (fun j => !okT D R j) (n / 3) 0 with
    | none => (0, s1)
    | some _ => (-2, s)) := fun e => by
    have := wh_ff (f := gM_askSeen_h46 (nI l) s) (fun j => !okT D R j) (fun j => nI (3 * j)) (fun r => match r with
      | none => ((0 : Int32), s1)
      | some _ => ((-2 : Int32), s)) (n / 3) 0 (fun j _ hj hp => by
      have ok := ok_T (D := D) (R := R) (j := j) (by simpa using hp)
      unfold gM_askSeen_h46
      rw [x13, Option.bind_some, if_neg (nle (by omega) (by omega) (by omega)), nat _ (by omega), Option.bind_some, hb, Option.bind_some, bz_if, if_pos ok.1, nI_1, nat _ (by omega), Option.bind_some, hst, Option.bind_some, bz_if, if_pos ⟨h4, ok.2.1⟩, n3_1, nat _ (by omega), Option.bind_some, hin, Option.bind_some, bz_if, if_pos ok.2.2, n3_2]) (fun j _ hj hp => by
      have ok : okT D R j = false := by simpa using hp
      unfold gM_askSeen_h46
      rw [x13, Option.bind_some, if_neg (nle (by omega) (by omega) (by omega)), nat _ (by omega), Option.bind_some, hb, Option.bind_some, bz_if]
      unfold okT at ok
      by_cases o1 : 0 ≤ (R (3 * j)).toInt ∧ (R (3 * j)).toInt < (D 5 0 : Int)
      · rw [if_pos o1, nI_1, nat _ (by omega), Option.bind_some, hst, Option.bind_some, bz_if]
        rw [decide_eq_true o1, Bool.true_and] at ok
        by_cases o2 : 0 ≤ (R (3 * j + 1)).toInt ∧ (R (3 * j + 1)).toInt < (D 0 0 : Int) + 1
        · rw [if_pos ⟨h4, o2⟩, n3_1, nat _ (by omega), Option.bind_some, hin, Option.bind_some, bz_if]
          rw [decide_eq_true o2, Bool.true_and] at ok
          rw [if_neg (of_decide_eq_false ok)]
        · rw [if_neg (fun z => o2 z.2)]
      · rw [if_neg o1]) (by
      unfold gM_askSeen_h46
      rw [x13, Option.bind_some, if_pos (nI_le (by omega) (by omega)), f1, Option.bind_some]) FU (FU_gt (by omega))
    exact this
  have head : gM_askSeen (nI l) s = if n % 3 = 0 then wh FU (gM_askSeen_h46 (nI l) s) (0 : Int32) else some (-2, s) := by
    unfold gM_askSeen
    rw [m_slot, Option.bind_some, bz_if, if_pos g1, h.mR, Option.bind_some, bz_if, if_pos h4, x13, Option.bind_some, if_neg (m1_n (by omega)), Option.bind_some, if_neg (by decide), ite_iff (n_rem z4)]
  unfold TPB
  refine ⟨fun ht => ⟨s1, ?_, f2, f3, f4⟩, fun ht => ?_⟩
  · rw [Bool.and_eq_true, decide_eq_true_eq] at ht
    rw [head, if_pos ht.1, loop ht.1]
    cases hf : ffN (fun j => !okT D R j) (n / 3) 0 with
    | none => rfl
    | some x => rw [hf] at ht; exact absurd ht.2 (fun z => by cases z)
  · by_cases e : n % 3 = 0
    · rw [decide_eq_true e, Bool.true_and] at ht
      rw [head, if_pos e, loop e]
      cases hf : ffN (fun j => !okT D R j) (n / 3) 0 with
      | none => rw [hf] at ht; cases ht
      | some x => rfl
    · rw [head, if_neg e]
/-- what is asked of a slot: both say no alike, or there is a row of places -/
theorem seen_is (h : IV xs D s) (v : Int32) : (∃ r : Int32, ¬ r = 0 ∧ ¬ 0 ≤ r ∧ gL_wrongSeen v s = some r ∧ gM_askSeen v s = some (r, s)) ∨ ∃ l n, l < 4 ∧ v = nI l ∧ 0 < D 4 0 ∧ SLD l n s ∧ TPB D n (s.2 (287 + 2 * l)) = true ∧ gL_wrongSeen v s = some 0 := by
  by_cases g1 : 0 ≤ v.toInt ∧ v.toInt < (4 : Nat)
  · obtain ⟨l, hl, rfl⟩ := of_in g1
    by_cases g2 : 0 < D 4 0
    · rcases h.2.2.2.2.2.1 l hl with ⟨z1, z2⟩ | ⟨z1, wd, n, z2, z3, z4, z5, z6, z7, z8⟩
      · refine Or.inl ⟨-6, by decide, by decide, ?_, ?_⟩
        · unfold gL_wrongSeen
          rw [c_slot, Option.bind_some, bz_if, if_pos g1, h.ex, Option.bind_some, bz_if, if_pos g2, ix_ite (by omega) (by omega), nI_clamp (by omega), z1, if_pos rfl]
        · unfold gM_askSeen
          rw [m_slot, Option.bind_some, bz_if, if_pos g1, h.mR, Option.bind_some, bz_if, if_pos g2, rd_n (by omega) (by omega), Option.bind_some, z2, if_pos rfl]
      · have sd : SLD l n s := ⟨z1, z6, z7, z3, z8⟩
        have hc : gL_wrongSeen (nI l) s = some (if TPB D n (s.2 (287 + 2 * l)) = true then 0 else -2) := by
          unfold gL_wrongSeen
          rw [c_slot, Option.bind_some, bz_if, if_pos g1, h.ex, Option.bind_some, bz_if, if_pos g2, ix_ite (by omega) (by omega), nI_clamp (by omega), z1, if_neg (by decide), ix_ite2 (by omega) (by omega), c_tells h.V h.R g2 z6 z3, Option.bind_some]
          cases TPB D n (s.2 (287 + 2 * l)) <;> rfl
        cases ht : TPB D n (s.2 (287 + 2 * l)) with
        | true => exact Or.inr ⟨l, n, hl, rfl, g2, sd, ht, by rw [hc, ht, if_pos rfl]⟩
        | false => exact Or.inl ⟨-2, by decide, by decide, by rw [hc, ht, if_neg (by decide)], (m_tells h g2 hl sd).2 ht⟩
    · refine Or.inl ⟨-2, by decide, by decide, ?_, ?_⟩
      · unfold gL_wrongSeen
        rw [c_slot, Option.bind_some, bz_if, if_pos g1, h.ex, Option.bind_some, bz_if, if_neg g2]
      · unfold gM_askSeen
        rw [m_slot, Option.bind_some, bz_if, if_pos g1, h.mR, Option.bind_some, bz_if, if_neg g2]
  · refine Or.inl ⟨-2, by decide, by decide, ?_, ?_⟩
    · unfold gL_wrongSeen
      rw [c_slot, Option.bind_some, bz_if, if_neg g1]
    · unfold gM_askSeen
      rw [m_slot, Option.bind_some, bz_if, if_neg g1]
end SEEN
