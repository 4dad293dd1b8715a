/-! ACTS: rate, look, sneeze -/
abbrev dRt (D : RD) (b v : Nat) : RD := fun k => if k = 10 then upN (D 10) b v else D k
abbrev dAd (D : RD) (w b n : Nat) : RD := fun k => if k = 8 then fun _ => D 8 0 + 1 else if k = 17 then upN (D 17) (D 8 0) w else if k = 18 then upN (D 18) (D 8 0) b else if k = 19 then upN (D 19) (D 8 0) n else D k
section ACTS
variable {n w o b a k m v : Nat} {s s' s'' : mT} {D D' : RD} {xs : Nat → Int32} {T T' : SU}
theorem VDr (hV : VD D) (h1 : 1 ≤ v) (h9 : v ≤ 9) : VD (dRt D b v) := by
  obtain ⟨v1, vB, vW, vS, vA, v0⟩ := hV
  refine ⟨v1, fun i hi => ⟨(vB i hi).1, ?_⟩, vW, vS, vA, v0⟩
  show 1 ≤ upN (D 10) b v i ∧ upN (D 10) b v i ≤ 9
  by_cases e : i = b
  · subst e; rw [upN_eq]; exact ⟨h1, h9⟩
  · rw [upN_ne e]; exact (vB i hi).2
theorem RRr (hR : RR 16 D s) : RR 16 (dRt D b v) (stI s 18 b (nI v)) := by
  obtain ⟨h1, hB, hW, hS, hA⟩ := hR
  have e : ∀ a, a ≠ 18 → (stI s 18 b (nI v)).1 a = s.1 a := fun a ha => stI_fn ha
  refine ⟨by rw [e 16 (by omega)]; exact h1, fun i hi => ⟨by rw [e (16 + 1) (by omega)]; exact (hB i hi).1, ?_⟩, fun w hw => by rw [e (16 + 3) (by omega), e (16 + 4) (by omega), e (16 + 5) (by omega), e (16 + 6) (by omega)]; exact hW w hw, fun k hk => by rw [e (16 + 7) (by omega), e (16 + 8) (by omega)]; exact hS k hk, fun i hi => by rw [e (16 + 9) (by omega), e (16 + 10) (by omega), e (16 + 11) (by omega)]; exact hA i hi⟩
  show (stI s 18 b (nI v)).1 18 i = nI (upN (D 10) b v i)
  by_cases e : i = b
  · subst e; rw [stI_eq, upN_eq]
  · rw [stI_nk e, upN_ne e]; exact (hB i hi).2
theorem MAr (hM : MA (s.1 295) D) (hV : VD D) (hb : b < D 5 0) : MA ((stI s 295 (9 + 2 * b + 1) (nI v)).1 295) (dRt D b v) := by
  obtain ⟨⟨h1, h2, h3, h4, h5, h6, h7, h8, h9⟩, hB, hW, hS, hA⟩ := hM
  have hd := hV.1
  refine ⟨⟨?_, ?_, ?_, ?_, ?_, ?_, ?_, ?_, ?_⟩, fun i hi => ⟨?_, ?_⟩, fun w hw => ?_, fun k hk => ?_, fun i hi => ?_⟩
  · rw [stI_nk (by omega)]; exact h1
  · rw [stI_nk (by omega)]; exact h2
  · rw [stI_nk (by omega)]; exact h3
  · rw [stI_nk (by omega)]; exact h4
  · rw [stI_nk (by omega)]; exact h5
  · rw [stI_nk (by omega)]; exact h6
  · rw [stI_nk (by omega)]; exact h7
  · rw [stI_nk (by omega)]; exact h8
  · rw [stI_nk (by omega)]; exact h9
  · rw [stI_nk (by omega)]; exact (hB i hi).1
  · show _ = nI (upN (D 10) b v i)
    by_cases e : i = b
    · subst e; rw [stI_eq, upN_eq]
    · rw [stI_nk (by omega), upN_ne e]; exact (hB i hi).2
  · rw [stI_nk (by omega), stI_nk (by omega), stI_nk (by omega), stI_nk (by omega)]; exact hW w hw
  · rw [stI_nk (by omega), stI_nk (by omega)]; exact hS k hk
  · rw [stI_nk (by omega)]; exact hA i hi
theorem a_rate (v1 v2 : Int32) : AS (gL_rate v1 v2) (gM_rate v1 v2) := fun xs D s h => by
  have hd := h.V.1
  have c1 : (¬ v2 < (1 : Int32) ∧ v2 ≤ (9 : Int32)) ↔ (1 ≤ v2.toInt ∧ v2.toInt < (10 : Nat)) := by
    rw [Int32.lt_iff_toInt_lt, Int32.le_iff_toInt_le, show (1 : Int32).toInt = 1 from rfl, show (9 : Int32).toInt = 9 from rfl]
    omega
  have hin : ∀ t, gM_in v2.toInt64 (1 : Int64) (9 : Int64) t = some (bz (decide (((1 : Nat) : Int) ≤ v2.toInt ∧ v2.toInt < ((9 + 1 : Nat) : Int)))) := fun t => m_in_n (lo := 1) (hi := 9) (by omega) (by omega)
  by_cases g1 : 0 ≤ v1.toInt ∧ v1.toInt < (D 5 0 : Int)
  · by_cases g2 : 1 ≤ v2.toInt ∧ v2.toInt < (10 : Nat)
    · have g2' := c1.mpr g2
      obtain ⟨b, hb, rfl⟩ := of_in g1
      by_cases g0 : D 8 0 = 0
      · obtain ⟨v, hv, rfl⟩ := of_in (v := v2) (n := 10) (by omega)
        have hv1 : 1 ≤ v := by
          have := g2.1
          rw [nI_toInt (by omega)] at this
          omega
        refine AS_chg (D' := dRt D b v) (r := nI (D 10 b)) (t := stI s 18 b (nI v)) h (VDr h.V hv1 (by omega)) (KZ.st (by unfold pZq; omega)) (stI_fn (by omega)) (RRr h.R) (fun s1 f1 f2 => ?_) (fun s1 hs => ?_)
        · unfold gL_rate
          rw [h.hasB, Option.bind_some, bz_if, if_pos g1, if_neg g2'.1, if_pos g2'.2, h.R.1.2.2.2.2.2.2.2.2, g0, if_pos (show nI 0 ≤ (0 : Int32) by decide), rd_n (by omega) (by omega), Option.bind_some, (h.R.2.1 b hb).2, wr_n (by omega) (by omega), Option.bind_some, f1, Option.bind_some]
        · have m1 : MA (s1.1 295) D := by rw [hs 295 (by omega), stI_fn (by omega)]; exact h.M
          have ix : ((9 : Int32) + ((2 : Int32) * nI b)) + (1 : Int32) = nI (9 + 2 * b + 1) := by
            rw [show (9 : Int32) = nI 9 from rfl, show (2 : Int32) = nI 2 from rfl, pk_mul, nI_add, nI_1]
          refine ⟨stI s1 295 (9 + 2 * b + 1) (nI v), ?_, Fp.st (Or.inl rfl), MAr m1 h.V hb⟩
          unfold gM_rate
          have hmb := m_isBoat (s := s1) (v := (nI b).toInt64) m1.1.2.2.2.2.1 h.V.1.2.2.2.2.2.1
          rw [Int32.toInt_toInt64] at hmb
          rw [hmb, Option.bind_some, bz_if, if_pos g1, hin, Option.bind_some, bz_if, if_pos (by exact g2), mA1 m1, Option.bind_some, g0, if_pos (show nI 0 ≤ (0 : Int32) by decide), ix, rd_n (by omega) (by omega), Option.bind_some, (m1.2.1 b hb).2, wr_n (by omega) (by omega), Option.bind_some]
      · have e0 : ¬ nI (D 8 0) ≤ (0 : Int32) := nle (b := 0) (by omega) (by omega) (by omega)
        refine AS_err (r := -5) h ?_ ?_
        · unfold gL_rate
          rw [h.hasB, Option.bind_some, bz_if, if_pos g1, if_neg g2'.1, if_pos g2'.2, h.R.1.2.2.2.2.2.2.2.2, if_neg e0]
        · unfold gM_rate
          rw [h.mB, Option.bind_some, bz_if, if_pos g1, hin, Option.bind_some, bz_if, if_pos (by exact g2), mA1 h.M, Option.bind_some, if_neg e0]
    · refine AS_err (r := -2) h ?_ ?_
      · unfold gL_rate
        rw [h.hasB, Option.bind_some, bz_if, if_pos g1]
        by_cases h1 : v2 < (1 : Int32)
        · rw [if_pos h1]
        · rw [if_neg h1, if_neg (fun z => g2 (c1.mp ⟨h1, z⟩))]
      · unfold gM_rate
        rw [h.mB, Option.bind_some, bz_if, if_pos g1, hin, Option.bind_some, bz_if, if_neg (by exact g2)]
  · refine AS_err (r := -2) h ?_ ?_
    · unfold gL_rate
      rw [h.hasB, Option.bind_some, bz_if, if_neg g1]
    · unfold gM_rate
      rw [h.mB, Option.bind_some, bz_if, if_neg g1]
theorem VDa (hV : VD D) (hw : w < D 6 0) (hb : b ≤ D 5 0) (hn : n ≤ D 0 0) (h30 : D 8 0 < 30) : VD (dAd D w b n) := by
  obtain ⟨⟨v1, v2, v3, v4, v5, v6, v7, v8, v9⟩, vB, vW, vS, vA, v0⟩ := hV
  refine ⟨⟨v1, v2, v3, v4, v5, v6, v7, v8, h30⟩, vB, vW, vS, fun i hi => ?_, fun z => ?_⟩
  · have hi : i < D 8 0 + 1 := hi
    show upN (D 17) (D 8 0) w i < D 6 0 ∧ upN (D 18) (D 8 0) b i ≤ D 5 0 ∧ upN (D 19) (D 8 0) n i ≤ D 0 0
    by_cases e : i = D 8 0
    · subst e; rw [upN_eq, upN_eq, upN_eq]; exact ⟨hw, hb, hn⟩
    · rw [upN_ne e, upN_ne e, upN_ne e]; exact vA i (by omega)
  · have := v0 z
    omega
theorem RRa (hR : RR 16 D s) : RR 16 (dAd D w b n) (stI (stI (stI (stI s 25 (D 8 0) (nI w)) 26 (D 8 0) (nI b - 1)) 27 (D 8 0) (nI n)) 16 8 (nI (D 8 0 + 1))) := by
  obtain ⟨⟨h1, h2, h3, h4, h5, h6, h7, h8, h9⟩, hB, hW, hS, hA⟩ := hR
  obtain ⟨t, ht⟩ : ∃ t, t = stI (stI (stI (stI s 25 (D 8 0) (nI w)) 26 (D 8 0) (nI b - 1)) 27 (D 8 0) (nI n)) 16 8 (nI (D 8 0 + 1)) := ⟨_, rfl⟩
  rw [← ht]
  have e : ∀ a, a ≠ 16 → a ≠ 25 → a ≠ 26 → a ≠ 27 → t.1 a = s.1 a := fun a ha hb hc hd => by
    rw [ht, stI_fn ha, stI_fn hd, stI_fn hc, stI_fn hb]
  have e16 : ∀ i, i ≠ 8 → t.1 16 i = s.1 16 i := fun i hi => by
    rw [ht, stI_nk hi, stI_ne (by omega), stI_ne (by omega), stI_ne (by omega)]
  refine ⟨⟨by rw [e16 0 (by omega)]; exact h1, by rw [e16 1 (by omega)]; exact h2, by rw [e16 2 (by omega)]; exact h3, by rw [e16 3 (by omega)]; exact h4, by rw [e16 4 (by omega)]; exact h5, by rw [e16 5 (by omega)]; exact h6, by rw [e16 6 (by omega)]; exact h7, by rw [e16 7 (by omega)]; exact h8, by rw [ht]; exact stI_eq⟩, fun i hi => by rw [e (16 + 1) (by omega) (by omega) (by omega) (by omega), e (16 + 2) (by omega) (by omega) (by omega) (by omega)]; exact hB i hi, fun w hw => by rw [e (16 + 3) (by omega) (by omega) (by omega) (by omega), e (16 + 4) (by omega) (by omega) (by omega) (by omega), e (16 + 5) (by omega) (by omega) (by omega) (by omega), e (16 + 6) (by omega) (by omega) (by omega) (by omega)]; exact hW w hw, fun k hk => by rw [e (16 + 7) (by omega) (by omega) (by omega) (by omega), e (16 + 8) (by omega) (by omega) (by omega) (by omega)]; exact hS k hk, fun i hi => ?_⟩
  have hi : i < D 8 0 + 1 := hi
  show t.1 25 i = nI (upN (D 17) (D 8 0) w i) ∧ t.1 26 i = nI (upN (D 18) (D 8 0) b i) - 1 ∧ t.1 27 i = nI (upN (D 19) (D 8 0) n i)
  rw [ht, stI_ne (a := 16) (by omega), stI_ne (a := 16) (by omega), stI_ne (a := 16) (by omega), stI_ne (a := 27) (by omega), stI_ne (a := 26) (by omega), stI_ne (a := 27) (i := 26) (by omega)]
  by_cases e : i = D 8 0
  · subst e
    rw [upN_eq, upN_eq, upN_eq, stI_eq, stI_eq, stI_eq]
    exact ⟨rfl, rfl, rfl⟩
  · rw [upN_ne e, upN_ne e, upN_ne e, stI_nk e, stI_nk e, stI_nk e, stI_nk e, stI_nk e, stI_nk e]
    exact hA i (by omega)
theorem MAa (hM : MA (s.1 295) D) (hV : VD D) (h30 : D 8 0 < 30) : MA ((stI (stI s 295 (49 + D 8 0) (nI (acN (dAd D w b n) (D 8 0)))) 295 7 (nI (D 8 0 + 1))).1 295) (dAd D w b n) := by
  obtain ⟨⟨h1, h2, h3, h4, h5, h6, h7, h8, h9⟩, hB, hW, hS, hA⟩ := hM
  have hd := hV.1
  obtain ⟨t, ht⟩ : ∃ t, t = stI (stI s 295 (49 + D 8 0) (nI (acN (dAd D w b n) (D 8 0)))) 295 7 (nI (D 8 0 + 1)) := ⟨_, rfl⟩
  have e : ∀ i, i < 49 → i ≠ 7 → t.1 295 i = s.1 295 i := fun i h1 h2 => by rw [ht, stI_nk h2, stI_nk (by omega)]
  rw [← ht]
  refine ⟨⟨by rw [e 0 (by omega) (by omega)]; exact h1, by rw [e 1 (by omega) (by omega)]; exact h2, by rw [e 2 (by omega) (by omega)]; exact h3, by rw [e 3 (by omega) (by omega)]; exact h4, by rw [e 4 (by omega) (by omega)]; exact h5, by rw [e 5 (by omega) (by omega)]; exact h6, by rw [e 6 (by omega) (by omega)]; exact h7, by rw [ht]; exact stI_eq, by rw [e 8 (by omega) (by omega)]; exact h9⟩, fun i hi => ?_, fun w hw => ?_, fun k hk => ?_, fun i hi => ?_⟩
  · have hi : i < D 5 0 := hi
    rw [e (9 + 2 * i) (by omega) (by omega), e (9 + 2 * i + 1) (by omega) (by omega)]; exact hB i hi
  · have hw' : w < D 6 0 := hw
    rw [e (19 + 4 * w) (by omega) (by omega), e (19 + 4 * w + 1) (by omega) (by omega), e (19 + 4 * w + 2) (by omega) (by omega), e (19 + 4 * w + 3) (by omega) (by omega)]; exact hW w hw
  · have hk' : k < D 7 0 := hk
    rw [e (39 + 2 * k) (by omega) (by omega), e (39 + 2 * k + 1) (by omega) (by omega)]; exact hS k hk
  · have hi : i < D 8 0 + 1 := hi
    rw [ht, stI_nk (by omega)]
    by_cases e : i = D 8 0
    · subst e; exact stI_eq
    · rw [stI_nk (by omega), hA i (by omega)]
      show nI (acN D i) = nI (if upN (D 18) (D 8 0) b i = 0 then 100000 + 100 * upN (D 17) (D 8 0) w i + upN (D 19) (D 8 0) n i else 1000 * upN (D 17) (D 8 0) w i + 100 * (upN (D 18) (D 8 0) b i - 1) + upN (D 19) (D 8 0) n i)
      rw [upN_ne e, upN_ne e, upN_ne e]
      rfl
/-- two races that are told alike as far as step n go alike as far as that -/
theorem rS_cg (h2 : D' 2 0 = D 2 0) (h6 : D' 6 0 = D 6 0) (h11 : D' 11 = D 11) (h12 : D' 12 = D 12) (h13 : D' 13 = D 13) (t1 : T'.1 = T.1) (t2 : T'.2.1 = T.2.1) (t3 : T'.2.2.1 = T.2.2.1) (t4 : T'.2.2.2.1 = T.2.2.2.1) : ∀ n, (∀ m w, m < n → T'.2.2.2.2.1 m w = T.2.2.2.2.1 m w ∧ T'.2.2.2.2.2 m w = T.2.2.2.2.2 m w) → (∀ m, m ≤ n → ∀ b, rP D' T' m b = rP D T m b) ∧ (∀ m, m < n → ∀ w, rK D' T' m w = rK D T m w) := by
  have tu : ∀ p p' : Nat → Nat, p' = p → ∀ w v, turnN D' T'.1 p' w v = turnN D T.1 p w v := fun p p' e w v => by
    unfold turnN
    rw [e, h12, h13, t1]
  intro n
  induction n with
  | zero =>
    intro _
    refine ⟨fun m hm b => ?_, fun m hm => absurd hm (Nat.not_lt_zero _)⟩
    have : m = 0 := by omega
    subst this
    rw [rP_0, rP_0, t2, h2]
  | succ n ih =>
    intro hx
    obtain ⟨i1, i2⟩ := ih (fun m w hm => hx m w (by omega))
    have kn : ∀ w, rK D' T' n w = rK D T n w := fun w => by
      cases n with
      | zero => rw [rK_0, rK_0, (hx 0 w (by omega)).1, t4]
      | succ j =>
        rw [rK_s, rK_s, (hx (j + 1) w (by omega)).1, tu _ _ (funext (fun b => i1 (j + 1) (Nat.le_refl _) b)), i2 j (by omega) w]
    refine ⟨fun m hm b => ?_, fun m hm w => ?_⟩
    · by_cases e : m ≤ n
      · exact i1 m e b
      · have : m = n + 1 := by omega
        subst this
        rw [rP_s, rP_s, i1 n (Nat.le_refl _) b, h2, t3]
        have : rE D' T' n b = rE D T n b := by
          unfold rE eyN
          rw [h6, h11]
          refine sumN_congr (fun w hw => ?_)
          rw [kn w, (hx n w (by omega)).2]
        rw [this]
    · by_cases e : m < n
      · exact i2 m e w
      · have : m = n := by omega
        subst this
        exact kn w
theorem bs_cg (h2 : D' 2 0 = D 2 0) (h6 : D' 6 0 = D 6 0) (h11 : D' 11 = D 11) (h12 : D' 12 = D 12) (h13 : D' 13 = D 13) (t1 : T'.1 = T.1) (t2 : T'.2.1 = T.2.1) (t3 : T'.2.2.1 = T.2.2.1) (t4 : T'.2.2.2.1 = T.2.2.2.1) (hx : ∀ m w, m < n → T'.2.2.2.2.1 m w = T.2.2.2.2.1 m w ∧ T'.2.2.2.2.2 m w = T.2.2.2.2.2 m w) : bsT D' T' n w = bsT D T n w := by
  obtain ⟨i1, i2⟩ := rS_cg h2 h6 h11 h12 h13 t1 t2 t3 t4 n hx
  unfold bsT
  by_cases e : n = 0
  · rw [if_pos e, if_pos e, t4]
  · rw [if_neg e, if_neg e, i2 (n - 1) (by omega) w, show rP D' T' n = rP D T n from funext (fun b => i1 n (Nat.le_refl _) b)]
    unfold turnN
    rw [h12, h13, t1]
theorem rK_bs : rK D T n w = (T.2.2.2.2.1 n w).getD (bsT D T n w) := by
  cases n with
  | zero => exact rK_0 D T w
  | succ n => exact rK_s D T n w
theorem shK_ad {ex : Nat → Bool} {x y z : Nat} : ∀ m n w, shK (dAd D x y z) ex m n w = shK D ex m n w := by
  intro m
  induction m with
  | zero => intro n w; rfl
  | succ m ih =>
    intro n w
    show (shK (dAd D x y z) ex m n w || (!ex m && decide (D 16 m = n) && decide (D 11 w ≤ D 15 m))) = _
    rw [ih]
    rfl
theorem alK_ad {x y z : Nat} : ∀ m, m ≤ D 8 0 → ∀ n w, alK (dAd D x y z) m n w = alK D m n w := by
  intro m
  induction m with
  | zero => intro _ n w; rfl
  | succ m ih =>
    intro hm n w
    rw [alK_s, alK_s, ih (by omega)]
    show (if upN (D 17) (D 8 0) x m = w ∧ upN (D 19) (D 8 0) z m = n ∧ upN (D 18) (D 8 0) y m ≠ 0 then some (upN (D 18) (D 8 0) y m - 1) else _) = _
    rw [upN_ne (by omega), upN_ne (by omega), upN_ne (by omega)]
theorem snK_ad {x y z : Nat} : ∀ m, m ≤ D 8 0 → ∀ n w, snK (dAd D x y z) m n w = snK D m n w := by
  intro m
  induction m with
  | zero => intro _ n w; rfl
  | succ m ih =>
    intro hm n w
    rw [snK_s, snK_s, ih (by omega)]
    show (_ || (decide (upN (D 17) (D 8 0) x m = w) && decide (upN (D 19) (D 8 0) z m = n) && decide (upN (D 18) (D 8 0) y m = 0))) = _
    rw [upN_ne (by omega), upN_ne (by omega), upN_ne (by omega)]
/-- what the model keeps of the last act is what was before it -/
theorem ow_look (hV : VD D) (hV' : VD (dAd D w b n)) (hw : w < D 6 0) (h : OWN (dAd D w b n) (T0 (dAd D w b n)) (l0 (dAd D w b n)) 0 s) : s.1 294 25 = nI (rK D (T0 D) n w) ∧ s.1 294 26 = bz ((T0 D).2.2.2.2.2 n w) := by
  have o := h (show 0 < D 8 0 + 1 by omega)
  obtain ⟨o1, o2⟩ := o
  have e17 : dAd D w b n 17 (dAd D w b n 8 0 - 1) = w := by
    show upN (D 17) (D 8 0) w (D 8 0 + 1 - 1) = w
    rw [Nat.add_sub_cancel, upN_eq]
  have e19 : dAd D w b n 19 (dAd D w b n 8 0 - 1) = n := by
    show upN (D 19) (D 8 0) n (D 8 0 + 1 - 1) = n
    rw [Nat.add_sub_cancel, upN_eq]
  have e8 : dAd D w b n 8 0 - 1 = D 8 0 := by
    show D 8 0 + 1 - 1 = D 8 0
    omega
  rw [e17, e19] at o1 o2
  rw [e8] at o1 o2
  rw [alK_ad _ (Nat.le_refl _)] at o1
  rw [snK_ad _ (Nat.le_refl _)] at o2
  have cg : bsT (dAd D w b n) (T0 (dAd D w b n)) n w = bsT D (T0 D) n w := by
    refine bs_cg rfl rfl rfl rfl rfl rfl rfl rfl rfl (fun m w' hm => ⟨?_, ?_⟩)
    · show alK (dAd D w b n) (D 8 0 + 1) m w' = alK D (D 8 0) m w'
      rw [alK_s, alK_ad _ (Nat.le_refl _)]
      show (if upN (D 17) (D 8 0) w (D 8 0) = w' ∧ upN (D 19) (D 8 0) n (D 8 0) = m ∧ upN (D 18) (D 8 0) b (D 8 0) ≠ 0 then some (upN (D 18) (D 8 0) b (D 8 0) - 1) else _) = _
      rw [upN_eq, upN_eq, upN_eq, if_neg (fun z => by omega)]
    · show (!sh0 (dAd D w b n) m w' && !snK (dAd D w b n) (D 8 0 + 1) m w') = (!sh0 D m w' && !snK D (D 8 0) m w')
      rw [snK_s, snK_ad _ (Nat.le_refl _)]
      show (!shK (dAd D w b n) _ (D 7 0) m w' && !(_ || (decide (upN (D 17) (D 8 0) w (D 8 0) = w') && decide (upN (D 19) (D 8 0) n (D 8 0) = m) && decide (upN (D 18) (D 8 0) b (D 8 0) = 0)))) = _
      rw [upN_eq, upN_eq, upN_eq, shK_ad, decide_eq_false (show ¬ n = m by omega), Bool.and_false, Bool.false_and, Bool.or_false]
  rw [cg] at o1
  refine ⟨by rw [o1, rK_bs]; rfl, ?_⟩
  rw [o2, ← shs0 (ex := fun _ => false) hV' (by exact hw)]
  show bz (!(shK (dAd D w b n) _ (D 7 0) n w || snK D (D 8 0) n w)) = bz (!sh0 D n w && !snK D (D 8 0) n w)
  rw [shK_ad, Bool.not_or]
end ACTS
