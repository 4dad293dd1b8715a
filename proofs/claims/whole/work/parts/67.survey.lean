/-! SURVEY: the class's -/
theorem ff_s (p : Nat → Bool) (k : Nat) : ffN p (k + 1) 0 = match ffN p k 0 with
    | some i => some i
    | none => if p k = true then some k else none := by
  cases h : ffN p k 0 with
  | some i =>
    obtain ⟨h1, h2, h3, h4⟩ := ffN_some h
    exact ffN_is h1 (by omega) h3 h4
  | none =>
    dsimp only
    by_cases hp : p k = true
    · rw [if_pos hp]
      exact ffN_is (Nat.zero_le _) (by omega) hp (fun j h1 h2 => ffN_none h j h1 (by omega))
    · rw [if_neg hp]
      refine ffN_isN (fun j h1 h2 => ?_)
      by_cases e : j = k
      · subst e; exact Bool.eq_false_iff.mpr hp
      · exact ffN_none h j h1 (by omega)
theorem cnt_0 {p : Nat → Bool} : ∀ {k : Nat}, cntB p k = 0 ↔ ffN p k 0 = none := by
  intro k
  induction k with
  | zero => exact ⟨fun _ => rfl, fun _ => rfl⟩
  | succ k ih =>
    rw [cnt_s, ff_s]
    cases h : ffN p k 0 with
    | some i =>
      have : ¬ cntB p k = 0 := fun z => by rw [ih.mp z] at h; cases h
      exact ⟨fun z => absurd z (by omega), fun z => by cases z⟩
    | none =>
      have := ih.mpr h
      dsimp only
      by_cases hp : p k = true
      · rw [if_pos hp, if_pos hp]
        exact ⟨fun z => by omega, fun z => by cases z⟩
      · rw [if_neg hp, if_neg hp]
        exact ⟨fun z => rfl, fun z => by omega⟩
theorem mn_s (p : Nat → Bool) (f : Nat → Nat) (k : Nat) : mnO p f (k + 1) = if p k = true then some (match mnO p f k with
    | none => f k
    | some v => min v (f k)) else mnO p f k := rfl
theorem mnO_le {p : Nat → Bool} {f : Nat → Nat} {c : Nat} (h : ∀ i, p i = true → f i ≤ c) : ∀ {j v : Nat}, mnO p f j = some v → v ≤ c := by
  intro j
  induction j with
  | zero => intro v hv; cases hv
  | succ j ih =>
    intro v hv
    rw [mn_s] at hv
    by_cases hp : p j = true
    · rw [if_pos hp] at hv
      have := h j hp
      cases hm : mnO p f j with
      | none => rw [hm] at hv; cases hv; exact this
      | some u =>
        rw [hm] at hv
        cases hv
        show min u (f j) ≤ c
        omega
    · rw [if_neg hp] at hv
      exact ih hv
section SURV
variable {n w o b a k m l wd i j W c lw : Nat} {s s' s'' t : mT} {D D' : RD} {xs : Nat → Int32} {f g h : Nat → Nat} {st nd fo lu : Nat → Nat} {sl : Nat → Nat → Bool}
theorem wy_s : wyN D b (k + 1) = wyN D b k + (if wnI D k = some b then 1 else 0) := by
  unfold wyN
  rw [cnt_s]
  by_cases e : wnI D k = some b
  · rw [if_pos e, if_pos (decide_eq_true e)]
  · rw [if_neg e, if_neg (fun z => e (of_decide_eq_true z))]
theorem wy_le : wyN D b k ≤ k := cntB_le _ _
theorem fw_s : fwO D b (k + 1) = if wnI D k = some b then some (match fwO D b k with
    | none => otN D (lkN D k)
    | some v => min v (otN D (lkN D k))) else fwO D b k := by
  unfold fwO
  rw [mn_s]
  by_cases e : wnI D k = some b
  · rw [if_pos e, if_pos (decide_eq_true e)]
  · rw [if_neg e, if_neg (fun z => e (of_decide_eq_true z))]
theorem sn_s : snO D b (k + 1) = match hmI D b k with
    | none => snO D b k
    | some x => some (match snO D b k with
      | none => x
      | some v => min v x) := by
  unfold snO
  rw [mn_s]
  cases hmI D b k with
  | none => rfl
  | some x => rfl
theorem pl_s : plN D b w (k + 1) = if wnI D k = some b then (if wyN D b k = 0 then some (lkN D k w) else plN D b w k) else plN D b w k := by
  unfold plN wyN
  rw [ff_s]
  by_cases e : wnI D k = some b
  · rw [if_pos e]
    by_cases e0 : cntB (fun i => decide (wnI D i = some b)) k = 0
    · rw [if_pos e0, cnt_0.mp e0]
      dsimp only
      rw [if_pos (decide_eq_true e)]
      rfl
    · rw [if_neg e0]
      cases hf : ffN (fun i => decide (wnI D i = some b)) k 0 with
      | none => exact absurd (cnt_0.mpr hf) e0
      | some i => rfl
  · rw [if_neg e]
    cases hf : ffN (fun i => decide (wnI D i = some b)) k 0 with
    | none =>
      dsimp only
      rw [if_neg (fun z => e (of_decide_eq_true z))]
    | some i => rfl
theorem ot_le (hV : VD D) : otN D f ≤ 5 := Nat.le_trans (cntB_le _ _) hV.1.2.2.2.2.2.2.1
theorem fw_le (hV : VD D) {v : Nat} (h : fwO D b k = some v) : v ≤ 5 := mnO_le (fun i _ => ot_le hV) h
theorem hm_le (hV : VD D) {v : Nat} (h : hmI D b k = some v) : v ≤ 20 := Nat.le_trans (homeO_le h) hV.1.1
theorem sn_le (hV : VD D) {v : Nat} (h : snO D b k = some v) : v ≤ 20 := mnO_le (fun i hi => by
  cases hx : hmI D b i with
  | none => exact Nat.zero_le _
  | some y => exact hm_le hV hx) h
theorem fr_s : frN D b (k + 1) = max (frN D b k) (rP D (TL D (lkN D k)) (D 0 0) b) := rfl
theorem fr_le (hV : VD D) : frN D b k ≤ 60 := by
  induction k with
  | zero => exact Nat.zero_le _
  | succ k ih =>
    have h1 := rP_le (D := D) (T := TL D (lkN D k)) (D 0 0) b
    have h2 := hV.1.2.2.1
    rw [fr_s]
    omega
def SW (D : RD) (j : Nat) (s : mT) : Prop := ∀ b, b < D 5 0 → s.1 215 b = nI (wyN D b j) ∧ s.1 216 b = oz (fwO D b j) ∧ ∀ w, w < D 6 0 → s.1 (220 + b) w = oz (plN D b w j)
def SH (D : RD) (j : Nat) (s : mT) : Prop := ∀ b, b < D 5 0 → s.1 217 b = oz (snO D b j) ∧ s.1 218 b = nI (frN D b j)
theorem SW.cg (h : SW D j s) (hB : D 5 0 ≤ 5) (hf : ∀ a, (a = 215 ∨ a = 216 ∨ (220 ≤ a ∧ a ≤ 224)) → s'.1 a = s.1 a) : SW D j s' := fun b hb => by
  rw [hf 215 (by omega), hf 216 (by omega), hf (220 + b) (by omega)]
  exact h b hb
theorem SH.cg (h : SH D j s) (hf : ∀ a, (a = 217 ∨ a = 218) → s'.1 a = s.1 a) : SH D j s' := fun b hb => by
  rw [hf 217 (by omega), hf 218 (by omega)]
  exact h b hb
theorem c_forget : ∃ s', gV_forget s = some s' ∧ Fp (fun a _ => 215 ≤ a ∧ a ≤ 224) s s' ∧ ∀ b, b < 5 → s'.1 215 b = 0 ∧ s'.1 216 b = -1 ∧ s'.1 217 b = -1 ∧ s'.1 218 b = 0 ∧ ∀ w, w < 5 → s'.1 (220 + b) w = -1 := by
  obtain ⟨s', f1, f2, f3⟩ := wh_cnt (f := gV_forget_h2) (fun j t => Fp (fun a _ => 215 ≤ a ∧ a ≤ 224) s t ∧ ∀ b, b < j → t.1 215 b = 0 ∧ t.1 216 b = -1 ∧ t.1 217 b = -1 ∧ t.1 218 b = 0 ∧ ∀ w, w < 5 → t.1 (220 + b) w = -1) (fun t => Fp (fun a _ => 215 ≤ a ∧ a ≤ 224) s t ∧ ∀ b, b < 5 → t.1 215 b = 0 ∧ t.1 216 b = -1 ∧ t.1 217 b = -1 ∧ t.1 218 b = 0 ∧ ∀ w, w < 5 → t.1 (220 + b) w = -1) 0 5 (by omega) (fun j _ hj t hI => by
    obtain ⟨i1, i2⟩ := hI
    obtain ⟨t0, ht0⟩ : ∃ t0, t0 = stI (stI (stI (stI t 215 j (0 : Int32)) 216 j (-1 : Int32)) 217 j (-1 : Int32)) 218 j (0 : Int32) := ⟨_, rfl⟩
    have q0 : Fp (fun a _ => 215 ≤ a ∧ a ≤ 224) t t0 := by
      rw [ht0]
      exact ((Fp.st (P := fun a _ => 215 ≤ a ∧ a ≤ 224) ⟨by omega, by omega⟩).tr (Fp.st ⟨by omega, by omega⟩)).tr ((Fp.st ⟨by omega, by omega⟩).tr (Fp.st ⟨by omega, by omega⟩))
    obtain ⟨t1, y1, y2, y3⟩ := wh_cnt (f := gV_forget_h37 (nI j)) (fun x u => Fp (fun a _ => a = 220 + j) t0 u ∧ ∀ w, w < x → u.1 (220 + j) w = -1) (fun u => Fp (fun a _ => a = 220 + j) t0 u ∧ ∀ w, w < 5 → u.1 (220 + j) w = -1) 0 5 (by omega) (fun x _ hx u hu => by
      obtain ⟨u1, u2⟩ := hu
      refine ⟨stI u (220 + j) x (-1 : Int32), ?_, u1.tr (Fp.st rfl), fun w hw => ?_⟩
      · unfold gV_forget_h37
        dsimp only
        rw [show (5 : Int32) = nI 5 from rfl, if_neg (nle (by omega) (by omega) (by omega)), ix_ite (by omega) (by omega), nI_clamp (by omega), wr_n (by omega) (by omega), Option.bind_some, nI_1]
      · by_cases e : w = x
        · subst e; exact stI_eq
        · rw [stI_nk e]; exact u2 w (by omega)) (fun u hu => ⟨u, rfl, hu⟩) (s := t0) ⟨Fp.rfl', fun w hw => absurd hw (Nat.not_lt_zero _)⟩ (i := (0 : Int32)) rfl FU (FU_gt (by omega))
    refine ⟨t1, ?_, i1.tr (q0.tr (y2.wid (fun a k z => by omega))), fun b hb => ?_⟩
    · unfold gV_forget_h2
      dsimp only
      rw [show (5 : Int32) = nI 5 from rfl, if_neg (nle (by omega) (by omega) (by omega)), wr_n (by omega) (by omega), Option.bind_some, wr_n (by omega) (by omega), Option.bind_some, wr_n (by omega) (by omega), Option.bind_some, wr_n (by omega) (by omega), Option.bind_some, ← ht0, y1, Option.bind_some, nI_1]
    · rw [y2.fn (a := 215) (fun k => by omega), y2.fn (a := 216) (fun k => by omega), y2.fn (a := 217) (fun k => by omega), y2.fn (a := 218) (fun k => by omega)]
      by_cases e : b = j
      · subst e
        refine ⟨?_, ?_, ?_, ?_, y3⟩
        · rw [ht0, stI_ne (by omega), stI_ne (by omega), stI_ne (by omega), stI_eq]
        · rw [ht0, stI_ne (by omega), stI_ne (by omega), stI_eq]
        · rw [ht0, stI_ne (by omega), stI_eq]
        · rw [ht0, stI_eq]
      · obtain ⟨z1, z2, z3, z4, z5⟩ := i2 b (by omega)
        refine ⟨?_, ?_, ?_, ?_, fun w hw => ?_⟩
        · rw [ht0, stI_ne (by omega), stI_ne (by omega), stI_ne (by omega), stI_nk e]; exact z1
        · rw [ht0, stI_ne (by omega), stI_ne (by omega), stI_nk e, stI_ne (by omega)]; exact z2
        · rw [ht0, stI_ne (by omega), stI_nk e, stI_ne (by omega), stI_ne (by omega)]; exact z3
        · rw [ht0, stI_nk e, stI_ne (by omega), stI_ne (by omega), stI_ne (by omega)]; exact z4
        · rw [y2.fn (a := 220 + b) (fun k => by omega), ht0, stI_ne (by omega), stI_ne (by omega), stI_ne (by omega), stI_ne (by omega)]
          exact z5 w hw) (fun t hI => ⟨t, rfl, hI⟩) (s := s) ⟨Fp.rfl', fun b hb => absurd hb (Nat.not_lt_zero _)⟩ (i := (0 : Int32)) rfl FU (FU_gt (by omega))
  exact ⟨s', by unfold gV_forget; rw [f1]; rfl, f2, f3⟩
theorem c_others (hV : VD D) (hR : RR 16 D s) (hf : ∀ w, w < D 6 0 → s.1 124 w = nI (f w) ∧ f w ≤ 4) : gV_othersThanTold s = some (nI (otN D f)) := by
  have hd := hV.1
  have e : wh FU (gV_othersThanTold_h4 s) ((0 : Int32), (0 : Int32)) = some (nI (otN D f)) := by
    refine wh_for (fun k => (nI (cntB (fun w => decide (f w ≠ D 14 w)) k), nI k)) (D 6 0) (fun k hk => ?_) ?_ FU (FU_gt (by omega))
    · have h1 := hf k hk
      have h2 := hR.2.2.1 k hk
      have h3 := hV.2.2.1 k hk
      unfold gV_othersThanTold_h4
      dsimp only
      rw [hR.1.2.2.2.2.2.2.1, if_neg (nle (by omega) (by omega) (by omega)), rd_n (by omega) (by omega), Option.bind_some, rd_n (by omega) (by omega), Option.bind_some, h1.1, h2.2.2.2, ite_iff (nI_eq (a := f k) (b := D 14 k) (by omega) (by omega)), cnt_s]
      by_cases e : f k = D 14 k
      · rw [if_pos e, if_neg (fun z => (of_decide_eq_true z) e), Option.bind_some, nI_1]
        rfl
      · rw [if_neg e, if_pos (decide_eq_true e), Option.bind_some, nI_1, nI_1]
    · unfold gV_othersThanTold_h4
      dsimp only
      rw [hR.1.2.2.2.2.2.2.1, if_pos (nI_le (Nat.le_refl _) (by omega))]
      rfl
  unfold gV_othersThanTold
  rw [e]
  rfl
end SURV
