/-! SURVEY: all looks, one after the other -/
section ODO
variable {n w o b a k m l wd i j W c lw : Nat} {s s' s'' t : mT} {D D' : RD} {xs : Nat → Int32} {f g h : Nat → Nat} {st nd fo lu : Nat → Nat} {sl : Nat → Nat → Bool}
def okL (D : RD) (W : Nat) (f : Nat → Nat) : Prop := ∀ j, j < W → D 12 j ≤ f j ∧ f j ≤ D 13 j
theorem vl_cg : ∀ W, (∀ j, j < W → f j = g j) → vlN D W f = vlN D W g := by
  intro W
  induction W with
  | zero => intro _; rfl
  | succ W ih =>
    intro h
    show vlN D W f * (D 13 W - D 12 W + 1) + (f W - D 12 W) = vlN D W g * (D 13 W - D 12 W + 1) + (g W - D 12 W)
    rw [ih (fun j hj => h j (by omega)), h W (by omega)]
theorem nxK_0 : nxK D 0 f = none := rfl
theorem nxK_s : nxK D (W + 1) f = if f W < D 13 W then some (va_up f W (f W + 1)) else nxK D W (va_up f W (D 12 W)) := rfl
theorem vl_s : vlN D (W + 1) f = vlN D W f * (D 13 W - D 12 W + 1) + (f W - D 12 W) := rfl
theorem qN_s : qN D (W + 1) = qN D W * (D 13 W - D 12 W + 1) := rfl
theorem va_eq {x : Nat} : va_up f k x k = x := va_up_at
theorem va_ne {x : Nat} (h : i ≠ k) : va_up f k x i = f i := by
  unfold va_up
  exact if_neg h
theorem nx_is : ∀ W f, okL D W f → (nxK D W f = none ∧ vlN D W f + 1 = qN D W) ∨ ∃ g, nxK D W f = some g ∧ vlN D W g = vlN D W f + 1 ∧ okL D W g ∧ ∀ j, W ≤ j → g j = f j := by
  intro W
  induction W with
  | zero => intro f _; exact Or.inl ⟨rfl, rfl⟩
  | succ W ih =>
    intro f hf
    have h0 := hf W (by omega)
    rw [nxK_s]
    by_cases h1 : f W < D 13 W
    · rw [if_pos h1]
      refine Or.inr ⟨_, rfl, ?_, fun j hj => ?_, fun j hj => va_ne (by omega)⟩
      · rw [vl_s, vl_s, va_eq, vl_cg (g := f) W (fun j hj => va_ne (by omega))]
        omega
      · by_cases e : j = W
        · subst e; rw [va_eq]; omega
        · rw [va_ne e]; exact hf j hj
    · rw [if_neg h1]
      have e1 : f W = D 13 W := by omega
      have hf0 : okL D W (va_up f W (D 12 W)) := fun j hj => by
        rw [va_ne (by omega)]
        exact hf j (by omega)
      have e2 : vlN D W (va_up f W (D 12 W)) = vlN D W f := vl_cg W (fun j hj => va_ne (by omega))
      rcases ih _ hf0 with ⟨g1, g2⟩ | ⟨g, g1, g2, g3, g4⟩
      · refine Or.inl ⟨g1, ?_⟩
        rw [vl_s, qN_s, ← g2, e2, e1, Nat.succ_mul]
        omega
      · have e3 : g W = D 12 W := by rw [g4 W (Nat.le_refl _), va_eq]
        refine Or.inr ⟨g, g1, ?_, fun j hj => ?_, fun j hj => ?_⟩
        · rw [vl_s, vl_s, g2, e2, e3, e1, Nat.succ_mul]
          omega
        · by_cases e : j = W
          · subst e; rw [e3]; omega
          · exact g3 j (by omega)
        · rw [g4 j (by omega), va_ne (by omega)]
theorem ok_12 (hV : VD D) : okL D (D 6 0) (D 12) := fun j hj => by
  have := hV.2.2.1 j hj
  omega
theorem vl_12 : ∀ W, vlN D W (D 12) = 0 := by
  intro W
  induction W with
  | zero => rfl
  | succ W ih => rw [vl_s, ih, Nat.sub_self, Nat.zero_mul]
theorem lk_ok (hV : VD D) : ∀ i, i < QN D → okL D (D 6 0) (lkN D i) ∧ vlN D (D 6 0) (lkN D i) = i := by
  intro i
  induction i with
  | zero => intro _; exact ⟨ok_12 hV, vl_12 _⟩
  | succ i ih =>
    intro hi
    obtain ⟨h1, h2⟩ := ih (by omega)
    have hQ : QN D = qN D (D 6 0) := rfl
    rcases nx_is (D 6 0) (lkN D i) h1 with ⟨g1, g2⟩ | ⟨g, g1, g2, g3, g4⟩
    · omega
    · have : lkN D (i + 1) = g := by
        show (nxK D (D 6 0) (lkN D i)).getD (D 12) = g
        rw [g1]
        rfl
      rw [this]
      exact ⟨g3, by omega⟩
theorem lk_nx (hV : VD D) (hi : i < QN D) : (nxK D (D 6 0) (lkN D i)).isSome = decide (i + 1 < QN D) ∧ ∀ g, nxK D (D 6 0) (lkN D i) = some g → g = lkN D (i + 1) := by
  obtain ⟨h1, h2⟩ := lk_ok hV i hi
  have hQ : QN D = qN D (D 6 0) := rfl
  refine ⟨?_, fun g hg => ?_⟩
  · rcases nx_is (D 6 0) (lkN D i) h1 with ⟨g1, g2⟩ | ⟨g, g1, g2, g3, g4⟩
    · rw [g1, decide_eq_false (by omega)]; rfl
    · rw [g1]
      by_cases e : i + 1 < QN D
      · rw [decide_eq_true e]; rfl
      · exfalso
        have hlt : ∀ W f, okL D W f → vlN D W f < qN D W := fun W => by
          induction W with
          | zero => intro f _; exact Nat.one_pos
          | succ W ih =>
            intro f hf
            have a1 := ih f (fun j hj => hf j (by omega))
            have a2 := hf W (by omega)
            rw [vl_s, qN_s]
            have a3 : (vlN D W f + 1) * (D 13 W - D 12 W + 1) ≤ qN D W * (D 13 W - D 12 W + 1) := Nat.mul_le_mul_right _ a1
            rw [Nat.succ_mul] at a3
            omega
        have := hlt _ _ g3
        omega
  · show g = (nxK D (D 6 0) (lkN D i)).getD (D 12)
    rw [hg]
    rfl
theorem qN_le (hV : VD D) : ∀ W, W ≤ D 6 0 → qN D W ≤ 5 ^ W ∧ 0 < qN D W := by
  intro W
  induction W with
  | zero => intro _; exact ⟨Nat.le_refl _, Nat.one_pos⟩
  | succ W ih =>
    intro hW
    obtain ⟨i1, i2⟩ := ih (by omega)
    have h1 := hV.2.2.1 W (by omega)
    have h2 := hV.1.2.2.2.2.2.1
    rw [qN_s, Nat.pow_succ]
    exact ⟨Nat.mul_le_mul i1 (by omega), Nat.mul_pos i2 (by omega)⟩
theorem QN_le (hV : VD D) : QN D ≤ 3125 ∧ 0 < QN D := by
  have h := qN_le hV (D 6 0) (Nat.le_refl _)
  have h2 : 5 ^ D 6 0 ≤ 5 ^ 5 := Nat.pow_le_pow_right (by omega) hV.1.2.2.2.2.2.2.1
  have hQ : QN D = qN D (D 6 0) := rfl
  omega
theorem lk_fo (hV : VD D) (hi : i < QN D) : ∀ w, w < D 6 0 → lkN D i w < D 5 0 ∧ lkN D i w ≤ 4 := fun w hw => by
  have := (lk_ok hV i hi).1 w hw
  have h1 := hV.2.2.1 w hw
  have h2 := hV.1.2.2.2.2.2.1
  omega
/-! the class's looks and the model's -/
theorem wh_s {S R : Type} {f : S → Option (S ⊕ R)} {n : Nat} {q q' : S} (h : f q = some (.inl q')) : wh (n + 1) f q = wh n f q' := by
  show ((f q).bind _) = _
  rw [h]
  rfl
theorem wh_e {S R : Type} {f : S → Option (S ⊕ R)} {n : Nat} {q : S} {r : R} (h : f q = some (.inr r)) : wh (n + 1) f q = some r := by
  show ((f q).bind _) = _
  rw [h]
  rfl
theorem nI_m1 : nI (j + 1) - 1 = nI j := pk_sub (b := 1) (by omega)
theorem nI_p1 : nI j + (-1 : Int32) = nI j - 1 := (Int32.sub_eq_add_neg (nI j) 1).symm
theorem c_next1 (hV : VD D) : ∀ j, j ≤ D 6 0 → ∀ fuel, j < fuel → ∀ f s, RR 16 D s → okL D j f → (∀ w, w < D 6 0 → s.1 124 w = nI (f w)) → ∃ s', wh fuel (gC_nextLooks_h10 121) (nI j - 1, s) = some (bz (nxK D j f).isSome, s') ∧ Fr 124 125 s s' ∧ ∀ g, nxK D j f = some g → ∀ w, w < D 6 0 → s'.1 124 w = nI (g w) := by
  intro j
  induction j with
  | zero =>
    intro _ fuel hf f s hR hok hs
    obtain ⟨m, rfl⟩ : ∃ m, fuel = m + 1 := ⟨fuel - 1, by omega⟩
    refine ⟨s, wh_e ?_, Fr.rfl', fun g hg => by cases hg⟩
    unfold gC_nextLooks_h10
    dsimp only
    rw [if_pos (by decide)]
    rfl
  | succ j ih =>
    intro hj fuel hf f s hR hok hs
    obtain ⟨m, rfl⟩ : ∃ m, fuel = m + 1 := ⟨fuel - 1, by omega⟩
    have hd := hV.1
    have h0 := hok j (by omega)
    have h1 := hV.2.2.1 j (by omega)
    have r1 := hR.2.2.1 j (by omega)
    rw [nxK_s, nI_m1]
    by_cases e : f j < D 13 j
    · rw [if_pos e]
      refine ⟨stI s 124 j (nI (f j + 1)), wh_e ?_, Fr.st (by omega) (by omega), fun g hg w hw => ?_⟩
      · unfold gC_nextLooks_h10
        dsimp only
        rw [if_neg (nI_pos (by omega)), rd_n (by omega) (by omega), Option.bind_some, rd_n (by omega) (by omega), Option.bind_some, hs j (by omega), r1.2.2.1, if_neg (nle (by omega) (by omega) (by omega)), Option.bind_some, wr_n (by omega) (by omega), Option.bind_some, nI_1]
        rfl
      · cases hg
        by_cases ew : w = j
        · subst ew; rw [stI_eq, va_eq]
        · rw [stI_nk ew, va_ne ew]; exact hs w hw
    · rw [if_neg e]
      have hok' : okL D j (va_up f j (D 12 j)) := fun i hi => by
        rw [va_ne (by omega)]
        exact hok i (by omega)
      obtain ⟨s', f1, f2, f3⟩ := ih (by omega) m (by omega) (va_up f j (D 12 j)) (stI s 124 j (nI (D 12 j))) (hR.cg (fun a _ _ => stI_fn (by omega))) hok' (fun w hw => by
        by_cases ew : w = j
        · subst ew; rw [stI_eq, va_eq]
        · rw [stI_nk ew, va_ne ew]; exact hs w hw)
      refine ⟨s', ?_, (Fr.st (by omega) (by omega)).tr f2, f3⟩
      rw [← f1]
      refine wh_s ?_
      unfold gC_nextLooks_h10
      dsimp only
      rw [if_neg (nI_pos (by omega)), rd_n (by omega) (by omega), Option.bind_some, rd_n (by omega) (by omega), Option.bind_some, hs j (by omega), r1.2.2.1, if_pos (nI_le (by omega) (by omega)), rd_n (by omega) (by omega), Option.bind_some, r1.2.1, wr_n (by omega) (by omega), Option.bind_some, nI_p1]
theorem m_next1 (hV : VD D) : ∀ j, j ≤ D 6 0 → ∀ fuel, j < fuel → ∀ f s, MA (s.1 295) D → okL D j f → (∀ w, w < D 6 0 → s.1 303 w = nI (f w)) → ∃ s', wh fuel gM_nextLooks_h9 (nI j - 1, s) = some (bz (nxK D j f).isSome, s') ∧ Fp (fun a _ => a = 303) s s' ∧ ∀ g, nxK D j f = some g → ∀ w, w < D 6 0 → s'.1 303 w = nI (g w) := by
  intro j
  induction j with
  | zero =>
    intro _ fuel hf f s hR hok hs
    obtain ⟨m, rfl⟩ : ∃ m, fuel = m + 1 := ⟨fuel - 1, by omega⟩
    refine ⟨s, wh_e ?_, Fp.rfl', fun g hg => by cases hg⟩
    unfold gM_nextLooks_h9
    dsimp only
    rw [if_pos (by decide)]
    rfl
  | succ j ih =>
    intro hj fuel hf f s hR hok hs
    obtain ⟨m, rfl⟩ : ∃ m, fuel = m + 1 := ⟨fuel - 1, by omega⟩
    have hd := hV.1
    have h0 := hok j (by omega)
    have h1 := hV.2.2.1 j (by omega)
    rw [nxK_s, nI_m1]
    by_cases e : f j < D 13 j
    · rw [if_pos e]
      refine ⟨stI s 303 j (nI (f j + 1)), wh_e ?_, Fp.st rfl, fun g hg w hw => ?_⟩
      · unfold gM_nextLooks_h9
        dsimp only
        rw [if_neg (nI_pos (by omega)), rd_n (by omega) (by omega), Option.bind_some, of_2 hV hR (by omega), Option.bind_some, hs j (by omega), if_neg (nle (by omega) (by omega) (by omega)), Option.bind_some, wr_n (by omega) (by omega), Option.bind_some, nI_1]
        rfl
      · cases hg
        by_cases ew : w = j
        · subst ew; rw [stI_eq, va_eq]
        · rw [stI_nk ew, va_ne ew]; exact hs w hw
    · rw [if_neg e]
      have hok' : okL D j (va_up f j (D 12 j)) := fun i hi => by
        rw [va_ne (by omega)]
        exact hok i (by omega)
      obtain ⟨s', f1, f2, f3⟩ := ih (by omega) m (by omega) (va_up f j (D 12 j)) (stI s 303 j (nI (D 12 j))) (by rw [stI_fn (by omega)]; exact hR) hok' (fun w hw => by
        by_cases ew : w = j
        · subst ew; rw [stI_eq, va_eq]
        · rw [stI_nk ew, va_ne ew]; exact hs w hw)
      refine ⟨s', ?_, (Fp.st (P := fun a _ => a = 303) rfl).tr f2, f3⟩
      rw [← f1]
      refine wh_s ?_
      unfold gM_nextLooks_h9
      dsimp only
      rw [if_neg (nI_pos (by omega)), rd_n (by omega) (by omega), Option.bind_some, of_2 hV hR (by omega), Option.bind_some, hs j (by omega), if_pos (nI_le (by omega) (by omega)), of_1 hV hR (by omega), Option.bind_some, wr_n (by omega) (by omega), Option.bind_some, nI_p1]
theorem c_next (hV : VD D) (hR : RR 16 D s) (hi : i < QN D) (hs : ∀ w, w < D 6 0 → s.1 124 w = nI (lkN D i w)) : ∃ s', gC_nextLooks 121 s = some (bz (decide (i + 1 < QN D)), s') ∧ Fr 124 125 s s' ∧ (i + 1 < QN D → ∀ w, w < D 6 0 → s'.1 124 w = nI (lkN D (i + 1) w)) := by
  have hd := hV.1
  obtain ⟨s', f1, f2, f3⟩ := c_next1 hV (D 6 0) (Nat.le_refl _) FU (FU_gt (by omega)) (lkN D i) s hR (lk_ok hV i hi).1 hs
  obtain ⟨l1, l2⟩ := lk_nx hV hi
  refine ⟨s', ?_, f2, fun h2 w hw => ?_⟩
  · unfold gC_nextLooks
    rw [hR.1.2.2.2.2.2.2.1, f1, l1]
  · rw [decide_eq_true h2] at l1
    cases hx : nxK D (D 6 0) (lkN D i) with
    | none => rw [hx] at l1; cases l1
    | some g => rw [f3 g hx w hw, l2 g hx]
theorem m_next (hV : VD D) (hM : MA (s.1 295) D) (hi : i < QN D) (hs : ∀ w, w < D 6 0 → s.1 303 w = nI (lkN D i w)) : ∃ s', gM_nextLooks s = some (bz (decide (i + 1 < QN D)), s') ∧ Fp (fun a _ => a = 303) s s' ∧ (i + 1 < QN D → ∀ w, w < D 6 0 → s'.1 303 w = nI (lkN D (i + 1) w)) := by
  have hd := hV.1
  obtain ⟨s', f1, f2, f3⟩ := m_next1 hV (D 6 0) (Nat.le_refl _) FU (FU_gt (by omega)) (lkN D i) s hM (lk_ok hV i hi).1 hs
  obtain ⟨l1, l2⟩ := lk_nx hV hi
  refine ⟨s', ?_, f2, fun h2 w hw => ?_⟩
  · unfold gM_nextLooks
    rw [show rdI (s.1 295) 79 (5 : Int32) = some (nI (D 6 0)) from (rd_n (k := 5) (by omega) (by omega)).trans (congrArg some hM.1.2.2.2.2.2.1), Option.bind_some, f1, l1]
  · rw [decide_eq_true h2] at l1
    cases hx : nxK D (D 6 0) (lkN D i) with
    | none => rw [hx] at l1; cases l1
    | some g => rw [f3 g hx w hw, l2 g hx]
theorem PR.wfos (h : PR c D (tX D lw st nd fo sl) s) (hV : VD D) (hf : ∀ a, c ≤ a → a < c + 27 → a ≠ c + 3 → s'.1 a = s.1 a) (hg : ∀ w, w < D 6 0 → s'.1 (c + 3) w = nI (g w) ∧ g w < D 5 0) : PR c D (tX D lw st nd g sl) s' := by
  obtain ⟨h1, h2, h3, h4, h5⟩ := h
  have hN := hV.1.1
  refine ⟨by rw [hf c (by omega) (by omega) (by omega)]; exact h1, fun b hb => by rw [hf (c + 1) (by omega) (by omega) (by omega), hf (c + 2) (by omega) (by omega) (by omega)]; exact h2 b hb, hg, fun n w hn hw => ?_, fun n hn => by rw [hf (c + 26) (by omega) (by omega) (by omega)]; exact h5 n hn⟩
  rw [hf (c + 5 + n) (by omega) (by omega) (by omega)]
  exact h4 n w hn hw
theorem MPB.wfos (h : MPB D lw st nd fo lu m s) (hf : ∀ a k, pA a k → a ≠ 303 → s'.1 a k = s.1 a k) (hg : ∀ w, w < D 6 0 → s'.1 303 w = nI (g w) ∧ g w < D 5 0) : MPB D lw st nd g lu m s' := by
  obtain ⟨q1, q2, q3, q4, q5⟩ := h
  exact ⟨by rw [hf 294 19 (by unfold pA; omega) (by omega)]; exact q1, fun b hb => by rw [hf 301 b (by unfold pA; omega) (by omega), hf 302 b (by unfold pA; omega) (by omega)]; exact q2 b hb, hg, fun n hn => by rw [hf 304 n (by unfold pA; omega) (by omega)]; exact q4 n hn, by rw [hf 294 20 (by unfold pA; omega) (by omega)]; exact q5⟩
end ODO
