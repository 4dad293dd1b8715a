/-! WRITE, PASTE -/
section PASTE
variable {n w o b a k m l wd i j : Nat} {s s' s'' : mT} {D D' : RD} {xs : Nat → Int32} {v : Int64}
theorem n_pred {n : Nat} (h : n ≤ 60) : (nI n - (1 : Int32)).toInt = (n : Int) - 1 := (by decide +kernel : ∀ n, n < 61 → (nI n - (1 : Int32)).toInt = (n : Int) - 1) n (by omega)
theorem a_write (v1 v2 : Int32) (v3 : Int64) : AS (gL_write v1 v2 v3) (gM_write v1 v2 v3) := fun xs D s h => by
  have eXB : XB = 1000000 := rfl
  by_cases g1 : 0 ≤ v1.toInt ∧ v1.toInt < (4 : Nat)
  · obtain ⟨l, hl, rfl⟩ := of_in g1
    rcases h.2.2.2.2.2.1 l hl with ⟨z1, z2⟩ | ⟨z1, wd, n, z2, z3, z4, z5, z6, z7, z8⟩
    · refine AS_err (r := -6) h ?_ ?_
      · unfold gL_write
        rw [c_slot, Option.bind_some, bz_if, if_pos g1, ix_ite (by omega) (by omega), nI_clamp (by omega), z1, if_pos rfl]
      · unfold gM_write
        rw [m_slot, Option.bind_some, bz_if, if_pos g1, rd_n (by omega) (by omega), Option.bind_some, z2, if_pos rfl]
    · have hin : ∀ t, gM_in v2.toInt64 (0 : Int64) ((nI n - (1 : Int32)).toInt64) t = some (bz (decide (0 ≤ v2.toInt ∧ v2.toInt < (n : Int)))) := fun t => by
        rw [m_in, Int32.toInt_toInt64, Int32.toInt_toInt64, n_pred z3, show (0 : Int64).toInt = 0 from rfl]
        congr 2
        exact decide_eq_decide.mpr ⟨fun z => by omega, fun z => by omega⟩
      have n1 : ¬ nI n = (-1 : Int32) := m1_n (by omega)
      by_cases g2 : 0 ≤ v2.toInt ∧ v2.toInt < (n : Int)
      · obtain ⟨i, hi, rfl⟩ := of_in g2
        obtain ⟨t2, ht2⟩ : ∃ t2, t2 = stI (stL s (287 + 2 * l) i (cuN v3 wd)) 225 2 (-1 : Int32) := ⟨_, rfl⟩
        obtain ⟨t4, ht4⟩ : ∃ t4, t4 = stL t2 315 (60 * l + i) (cuN v3 wd) := ⟨_, rfl⟩
        have e1 : ∀ a, a ≠ 225 → t2.1 a = s.1 a := fun a h2 => by rw [ht2, stI_fn h2, stL_1]
        have e2 : t4.1 = t2.1 := by rw [ht4]; rfl
        have e3 : ∀ a j, ¬ (a = 287 + 2 * l ∧ j = i) → t2.2 a j = s.2 a j := fun a j h1 => by
          rw [ht2]
          show (stL s (287 + 2 * l) i (cuN v3 wd)).2 a j = _
          rw [stL_at, if_neg h1]
        have e4 : ∀ a j, ¬ (a = 315 ∧ j = 60 * l + i) → t4.2 a j = t2.2 a j := fun a j h1 => by rw [ht4, stL_at, if_neg h1]
        have q13 : t2.1 313 l = nI n := by rw [e1 313 (by omega)]; exact z7
        have q14 : t2.1 314 l = nI wd := by rw [e1 314 (by omega)]; exact z5
        refine ⟨0, t2, t4, D, ?_, fun a ha => e1 a (by omega), ?_, h.slo (fun a h1 h2 h3 h4 => by rw [e2, e1 a h2]) ?_ (fun j hj => ?_)⟩
        · unfold gL_write
          rw [c_slot, Option.bind_some, bz_if, if_pos g1, ix_ite (by omega) (by omega), nI_clamp (by omega), z1, if_neg (by decide), if_neg (nI_pos (by omega)), ix_ite2 (by omega) (by omega), z6, if_pos (nI_lt (by omega) (by omega)), ix_ite2 (by omega) (by omega), c_put z4 z2 (by omega), Option.bind_some, ht2]
          rw [show 286 + 2 * l + 1 = 287 + 2 * l by omega]
        · unfold gM_write gM_cut
          rw [m_slot, Option.bind_some, bz_if, if_pos g1, rd_n (by omega) (by omega), Option.bind_some, q13, if_neg n1, Option.bind_some, hin, Option.bind_some, bz_if, if_pos g2, rd_n (by omega) (by omega), Option.bind_some, q14, Option.bind_some, show (60 : Int32) = nI 60 from rfl, pk_mul, nI_add, wrL_n (by omega) (by omega), Option.bind_some, ht4]
          rfl
        · rw [e2, ht2]
          exact stI_eq
        · by_cases e : j = l
          · subst e
            refine Or.inr ⟨by rw [e2, e1 _ (by omega)]; exact z1, wd, n, z2, z3, by rw [e2, e1 _ (by omega)]; exact z4, by rw [e2, e1 _ (by omega)]; exact z5, by rw [e2, e1 _ (by omega)]; exact z6, by rw [e2, e1 _ (by omega)]; exact z7, fun x hx => ?_⟩
            by_cases ex : x = i
            · subst ex
              rw [e4 _ _ (by omega), ht4, stL_eq, ht2]
              exact stL_eq
            · rw [e4 _ _ (by omega), e3 _ _ (by omega), e4 _ _ (by omega), e3 _ _ (by omega)]
              exact z8 x hx
          · refine (h.2.2.2.2.2.1 j hj).cg (by rw [e2, e1 _ (by omega)]) (by rw [e2, e1 _ (by omega)]) (by rw [e2, e1 _ (by omega)]) (fun x hx => ⟨?_, ?_⟩)
            · rw [e4 _ _ (by omega), e3 _ _ (by omega)]
            · rw [e4 _ _ (by omega), e3 _ _ (by omega)]
      · refine AS_err (r := -7) h ?_ ?_
        · unfold gL_write
          rw [c_slot, Option.bind_some, bz_if, if_pos g1, ix_ite (by omega) (by omega), nI_clamp (by omega), z1, if_neg (by decide)]
          by_cases h1 : v2 < 0
          · rw [if_pos h1]
          · rw [if_neg h1, ix_ite2 (by omega) (by omega), z6, if_neg (fun z => g2 (by
              rw [i_lt0] at h1
              rw [Int32.lt_iff_toInt_lt, nI_toInt (by omega)] at z
              omega))]
        · unfold gM_write
          rw [m_slot, Option.bind_some, bz_if, if_pos g1, rd_n (by omega) (by omega), Option.bind_some, z7, if_neg n1, Option.bind_some, hin, Option.bind_some, bz_if, if_neg g2]
  · refine AS_err (r := -2) h ?_ ?_
    · unfold gL_write
      rw [c_slot, Option.bind_some, bz_if, if_neg g1]
    · unfold gM_write
      rw [m_slot, Option.bind_some, bz_if, if_neg g1]
theorem c_span (hn : n ≤ 60) (h3 : s.1 a 3 = nI n) {x y : Int32} : gW_hasSpan a x y s = some (bz (decide (0 ≤ x.toInt ∧ 0 ≤ y.toInt ∧ x.toInt + y.toInt ≤ (n : Int)))) := by
  unfold gW_hasSpan
  rw [h3]
  by_cases h1 : x < 0
  · rw [if_pos h1, Option.bind_some, if_pos (Or.inl rfl)]
    rw [i_lt0] at h1
    rw [decide_eq_false (by omega)]; rfl
  · rw [if_neg h1]
    rw [i_lt0] at h1
    by_cases h2 : y < 0
    · rw [if_pos h2, Option.bind_some, if_pos (Or.inl rfl)]
      rw [i_lt0] at h2
      rw [decide_eq_false (by omega)]; rfl
    · rw [if_neg h2]
      rw [i_lt0] at h2
      by_cases h4 : nI n < x
      · rw [if_pos h4, Option.bind_some, if_pos (Or.inl rfl)]
        rw [Int32.lt_iff_toInt_lt, nI_toInt (by omega)] at h4
        rw [decide_eq_false (by omega)]; rfl
      · rw [if_neg h4]
        rw [Int32.lt_iff_toInt_lt, nI_toInt (by omega)] at h4
        obtain ⟨k, hk, rfl⟩ := of_inS (v := x) (n := n) (by omega)
        rw [pk_sub hk]
        rw [nI_toInt (by omega)] at h1 h4 ⊢
        by_cases h5 : nI (n - k) < y
        · rw [if_pos h5, Option.bind_some, if_pos (Or.inl rfl)]
          rw [Int32.lt_iff_toInt_lt, nI_toInt (by omega)] at h5
          rw [decide_eq_false (by omega)]; rfl
        · rw [if_neg h5, Option.bind_some, if_pos (Or.inr rfl)]
          rw [Int32.lt_iff_toInt_lt, nI_toInt (by omega)] at h5
          rw [decide_eq_true (by omega)]; rfl
theorem l_sumR (x y : Int32) : (x.toInt64 + y.toInt64).toInt = x.toInt + y.toInt := by
  have h1 := x.toInt_lt
  have h2 := x.le_toInt
  have h3 := y.toInt_lt
  have h4 := y.le_toInt
  rw [Int64.toInt_add, Int32.toInt_toInt64, Int32.toInt_toInt64, Int.bmod_def]
  split <;> omega
theorem c_cpL (h1 : i + m ≤ 60) (h2 : j + m ≤ 60) : ∃ s', cpL s a 60 (nI i) b 60 (nI j) (nI m) = some s' ∧ s'.1 = s.1 ∧ (∀ q, q ≠ b → s'.2 q = s.2 q) ∧ ∀ k, s'.2 b k = if j ≤ k ∧ k < j + m then s.2 a (i + (k - j)) else s.2 b k := by
  have hc : ¬ nI i < 0 ∧ ¬ nI j < 0 ∧ ¬ nI m < 0 ∧ (nI i).toNatClampNeg + (nI m).toNatClampNeg ≤ 60 ∧ (nI j).toNatClampNeg + (nI m).toNatClampNeg ≤ 60 := by
    rw [nI_clamp (by omega), nI_clamp (by omega), nI_clamp (by omega)]
    exact ⟨nI_pos (by omega), nI_pos (by omega), nI_pos (by omega), h1, h2⟩
  unfold cpL
  rw [if_pos hc]
  refine ⟨_, rfl, rfl, fun q hq => ?_, fun k => ?_⟩
  · show va_up s.2 b _ q = s.2 q
    unfold va_up
    exact if_neg hq
  · show va_up s.2 b _ b k = _
    unfold va_up va_cpy
    (try dsimp only)
    rw [if_pos rfl, nI_clamp (by omega), nI_clamp (by omega), nI_clamp (by omega)]
theorem m_move1 (h1 : i + m ≤ 60) (hl : l < 4) {x y : Int32} : ∃ s', wh FU (gM_paste_h113 (nI l) (nI i) x y (nI m)) ((0 : Int32), s) = some s' ∧ FL (fun a _ => a = 316) s s' ∧ ∀ q, q < m → s'.2 316 q = s.2 315 (60 * l + i + q) := by
  have := wh_cnt (f := gM_paste_h113 (nI l) (nI i) x y (nI m)) (fun j t => FL (fun a _ => a = 316) s t ∧ ∀ q, q < j → t.2 316 q = s.2 315 (60 * l + i + q)) (fun t => FL (fun a _ => a = 316) s t ∧ ∀ q, q < m → t.2 316 q = s.2 315 (60 * l + i + q)) 0 m (by omega) (fun j _ hj t hI => by
    obtain ⟨i1, i2⟩ := hI
    refine ⟨stL t 316 j (s.2 315 (60 * l + i + j)), ?_, i1.st rfl, fun q hq => ?_⟩
    · unfold gM_paste_h113
      dsimp only
      rw [if_neg (nle (by omega) (by omega) (by omega)), show (60 : Int32) = nI 60 from rfl, pk_mul, nI_add, nI_add, rdL_n (by omega) (by omega), Option.bind_some, wrL_n (by omega) (by omega), Option.bind_some, nI_1, i1.2 315 _ (show ¬ (315 : Nat) = 316 by omega)]
    · by_cases e : q = j
      · subst e; exact stL_eq
      · rw [stL_nk (by omega)]; exact i2 q (by omega)) (fun t hI => by
    refine ⟨t, ?_, hI⟩
    unfold gM_paste_h113
    dsimp only
    rw [if_pos (nI_le (Nat.le_refl _) (by omega))]) (s := s) ⟨FL.rfl', fun q hq => absurd hq (Nat.not_lt_zero _)⟩ (i := (0 : Int32)) rfl FU (FU_gt (by omega))
  exact this
theorem m_move2 (h1 : i + m ≤ 60) (hl : l < 4) : ∃ s', wh FU (gM_paste_h150 (nI l) (nI i) (nI m)) ((0 : Int32), s) = some s' ∧ FL (fun a j => a = 315 ∧ 60 * l + i ≤ j ∧ j < 60 * l + i + m) s s' ∧ ∀ q, q < m → s'.2 315 (60 * l + i + q) = s.2 316 q := by
  have := wh_cnt (f := gM_paste_h150 (nI l) (nI i) (nI m)) (fun j t => FL (fun a j => a = 315 ∧ 60 * l + i ≤ j ∧ j < 60 * l + i + m) s t ∧ ∀ q, q < j → t.2 315 (60 * l + i + q) = s.2 316 q) (fun t => FL (fun a j => a = 315 ∧ 60 * l + i ≤ j ∧ j < 60 * l + i + m) s t ∧ ∀ q, q < m → t.2 315 (60 * l + i + q) = s.2 316 q) 0 m (by omega) (fun j _ hj t hI => by
    obtain ⟨i1, i2⟩ := hI
    refine ⟨stL t 315 (60 * l + i + j) (s.2 316 j), ?_, i1.st ⟨rfl, by omega, by omega⟩, fun q hq => ?_⟩
    · unfold gM_paste_h150
      dsimp only
      rw [if_neg (nle (by omega) (by omega) (by omega)), show (60 : Int32) = nI 60 from rfl, pk_mul, nI_add, nI_add, rdL_n (by omega) (by omega), Option.bind_some, wrL_n (by omega) (by omega), Option.bind_some, nI_1, i1.2 316 _ (fun z => absurd z.1 (by omega))]
    · by_cases e : q = j
      · subst e; exact stL_eq
      · rw [stL_nk (by omega)]; exact i2 q (by omega)) (fun t hI => by
    refine ⟨t, ?_, hI⟩
    unfold gM_paste_h150
    dsimp only
    rw [if_pos (nI_le (Nat.le_refl _) (by omega))]) (s := s) ⟨FL.rfl', fun q hq => absurd hq (Nat.not_lt_zero _)⟩ (i := (0 : Int32)) rfl FU (FU_gt (by omega))
  exact this
theorem cmp_gt {x y : Int32} (hn : n ≤ 60) : (0 < lg_cmp (x.toInt64 + y.toInt64) (nI n).toInt64) ↔ (n : Int) < x.toInt + y.toInt := by
  rw [lg_cmp_gt, Int64.lt_iff_toInt_lt, l_sumR, Int32.toInt_toInt64, nI_toInt (by omega)]
theorem cmp_le {x y : Int32} (hn : n ≤ 60) : (lg_cmp (x.toInt64 + y.toInt64) (nI n).toInt64 ≤ 0) ↔ x.toInt + y.toInt ≤ (n : Int) := by
  rw [lg_cmp_le, Int64.le_iff_toInt_le, l_sumR, Int32.toInt_toInt64, nI_toInt (by omega)]
theorem a_paste (v1 v2 v3 v4 v5 : Int32) : AS (gL_paste v1 v2 v3 v4 v5) (gM_paste v1 v2 v3 v4 v5) := fun xs D s h => by
  have eXB : XB = 1000000 := rfl
  by_cases g : (0 ≤ v1.toInt ∧ v1.toInt < (4 : Nat)) ∧ (0 ≤ v3.toInt ∧ v3.toInt < (4 : Nat))
  · obtain ⟨g1, g2⟩ := g
    obtain ⟨a, ha, rfl⟩ := of_in g1
    obtain ⟨b, hb, rfl⟩ := of_in g2
    rcases h.2.2.2.2.2.1 a ha with ⟨z1, z2⟩ | ⟨z1, wd, n, z2, z3, z4, z5, z6, z7, z8⟩
    · refine AS_err (r := -6) h ?_ ?_
      · unfold gL_paste
        rw [c_slot, Option.bind_some, bz_if, if_pos g1, c_slot, Option.bind_some, bz_if, if_pos g2, ix_ite (by omega) (by omega), ix_ite (by omega) (by omega), nI_clamp (by omega), z1, if_pos rfl]
      · unfold gM_paste
        rw [m_slot, Option.bind_some, bz_if, if_pos g1, m_slot, Option.bind_some, bz_if, if_pos g2, rd_n (by omega) (by omega), Option.bind_some, z2, if_pos rfl]
    · have n1 : ¬ nI n = (-1 : Int32) := m1_n (by omega)
      rcases h.2.2.2.2.2.1 b hb with ⟨y1, y2⟩ | ⟨y1, wd2, n2, y2, y3, y4, y5, y6, y7, y8⟩
      · refine AS_err (r := -6) h ?_ ?_
        · unfold gL_paste
          rw [c_slot, Option.bind_some, bz_if, if_pos g1, c_slot, Option.bind_some, bz_if, if_pos g2, ix_ite (by omega) (by omega), ix_ite (by omega) (by omega), nI_clamp (by omega), nI_clamp (by omega), z1, if_neg (by decide), y1, if_pos rfl]
        · unfold gM_paste
          rw [m_slot, Option.bind_some, bz_if, if_pos g1, m_slot, Option.bind_some, bz_if, if_pos g2, rd_n (by omega) (by omega), Option.bind_some, z7, if_neg n1, rd_n (by omega) (by omega), Option.bind_some, y2, if_pos rfl]
      · have n2' : ¬ nI n2 = (-1 : Int32) := m1_n (by omega)
        by_cases gw : nI wd = nI wd2
        · by_cases gs : (0 ≤ v2.toInt ∧ 0 ≤ v5.toInt ∧ v2.toInt + v5.toInt ≤ (n : Int)) ∧ (0 ≤ v4.toInt ∧ 0 ≤ v5.toInt ∧ v4.toInt + v5.toInt ≤ (n2 : Int))
          · obtain ⟨gs1, gs2⟩ := gs
            obtain ⟨i, hi, rfl⟩ := of_inS (v := v2) (n := n) (by omega)
            obtain ⟨m, hm, rfl⟩ := of_inS (v := v5) (n := n) (by omega)
            obtain ⟨j, hj, rfl⟩ := of_inS (v := v4) (n := n2) (by omega)
            have gi : i + m ≤ n := by
              have := gs1.2.2
              rw [nI_toInt (by omega), nI_toInt (by omega)] at this
              omega
            have gj : j + m ≤ n2 := by
              have := gs2.2.2
              rw [nI_toInt (by omega), nI_toInt (by omega)] at this
              omega
            obtain ⟨t1, x1, x2, x3, x4⟩ := c_cpL (s := s) (a := 287 + 2 * a) (b := 287 + 2 * b) (i := i) (j := j) (m := m) (by omega) (by omega)
            obtain ⟨t2, ht2⟩ : ∃ t2, t2 = stI t1 225 2 (-1 : Int32) := ⟨_, rfl⟩
            obtain ⟨t3, w1, w2, w3⟩ := m_move1 (s := t2) (l := a) (i := i) (m := m) (x := nI b) (y := nI j) (by omega) ha
            obtain ⟨t4, u1, u2, u3⟩ := m_move2 (s := t3) (l := b) (i := j) (m := m) (by omega) hb
            have e1 : ∀ a, a ≠ 225 → t2.1 a = s.1 a := fun a h2 => by rw [ht2, stI_fn h2, x2]
            have e2 : t4.1 = t2.1 := u2.1.trans w2.1
            have q2 : t2.2 = t1.2 := by rw [ht2]; rfl
            have e3 : ∀ q x, q ≠ 287 + 2 * b → q ≠ 315 → q ≠ 316 → t4.2 q x = s.2 q x := fun q x h1 h2 h3 => by
              rw [u2.2 q x (fun z => h2 z.1), w2.2 q x h3, q2, x3 q h1]
            have e5 : ∀ x, ¬ (60 * b + j ≤ x ∧ x < 60 * b + j + m) → t4.2 315 x = s.2 315 x := fun x hx => by
              rw [u2.2 315 x (fun z => hx z.2), w2.2 315 x (show ¬ (315 : Nat) = 316 by omega), q2, x3 315 (by omega)]
            have e6 : ∀ q, q < m → t4.2 315 (60 * b + j + q) = s.2 315 (60 * a + i + q) := fun q hq => by
              rw [u3 q hq, w3 q hq, q2, x3 315 (by omega)]
            have e7 : ∀ x, t4.2 (287 + 2 * b) x = if j ≤ x ∧ x < j + m then s.2 (287 + 2 * a) (i + (x - j)) else s.2 (287 + 2 * b) x := fun x => by
              rw [u2.2 _ x (fun z => by omega), w2.2 _ x (by omega), q2, x4 x]
            have q13 : ∀ x, t2.1 313 x = s.1 313 x := fun x => by rw [e1 313 (by omega)]
            have q14 : ∀ x, t2.1 314 x = s.1 314 x := fun x => by rw [e1 314 (by omega)]
            refine ⟨0, t2, t4, D, ?_, fun a ha => e1 a (by omega), ?_, h.slo (fun a h1 h2 h3 h4 => by rw [e2, e1 a h2]) ?_ (fun c hc => ?_)⟩
            · unfold gL_paste
              rw [c_slot, Option.bind_some, bz_if, if_pos g1, c_slot, Option.bind_some, bz_if, if_pos g2, ix_ite (by omega) (by omega), ix_ite (by omega) (by omega), nI_clamp (by omega), nI_clamp (by omega), z1, if_neg (by decide), y1, if_neg (by decide), z4, y4, if_pos gw, c_span z3 z6, Option.bind_some, bz_if, if_pos gs1, c_span y3 y6, Option.bind_some, bz_if, if_pos gs2]
              rw [show 286 + 2 * a + 1 = 287 + 2 * a by omega, show 286 + 2 * b + 1 = 287 + 2 * b by omega, x1, Option.bind_some, ht2]
            · unfold gM_paste
              rw [m_slot, Option.bind_some, bz_if, if_pos g1, m_slot, Option.bind_some, bz_if, if_pos g2, rd_n (by omega) (by omega), Option.bind_some, q13, z7, if_neg n1, rd_n (by omega) (by omega), Option.bind_some, q13, y7, if_neg n2', rd_n (by omega) (by omega), Option.bind_some, rd_n (by omega) (by omega), Option.bind_some, q14, q14, z5, y5, if_pos gw, if_neg (nI_pos (by omega)), if_neg (nI_pos (by omega)), if_neg (nI_pos (by omega)), Option.bind_some, if_neg (fun z => absurd ((cmp_gt z3).mp z) (by omega)), Option.bind_some, if_pos ((cmp_le y3).mpr gs2.2.2), w1, Option.bind_some, u1, Option.bind_some]
            · rw [e2, ht2]
              exact stI_eq
            · by_cases e : c = b
              · subst e
                refine Or.inr ⟨by rw [e2, e1 _ (by omega)]; exact y1, wd2, n2, y2, y3, by rw [e2, e1 _ (by omega)]; exact y4, by rw [e2, e1 _ (by omega)]; exact y5, by rw [e2, e1 _ (by omega)]; exact y6, by rw [e2, e1 _ (by omega)]; exact y7, fun x hx => ?_⟩
                rw [e7 x]
                by_cases ex : j ≤ x ∧ x < j + m
                · have := e6 (x - j) (by omega)
                  rw [show 60 * c + j + (x - j) = 60 * c + x by omega] at this
                  rw [if_pos ex, this, z8 _ (by omega)]
                  rw [show 60 * a + (i + (x - j)) = 60 * a + i + (x - j) by omega]
                · rw [if_neg ex, e5 _ (by omega)]
                  exact y8 x hx
              · refine (h.2.2.2.2.2.1 c hc).cg (by rw [e2, e1 _ (by omega)]) (by rw [e2, e1 _ (by omega)]) (by rw [e2, e1 _ (by omega)]) (fun x hx => ⟨?_, ?_⟩)
                · rw [e3 _ _ (by omega) (by omega) (by omega)]
                · rw [e5 _ (by omega)]
          · refine AS_err (r := -7) h ?_ ?_
            · unfold gL_paste
              rw [c_slot, Option.bind_some, bz_if, if_pos g1, c_slot, Option.bind_some, bz_if, if_pos g2, ix_ite (by omega) (by omega), ix_ite (by omega) (by omega), nI_clamp (by omega), nI_clamp (by omega), z1, if_neg (by decide), y1, if_neg (by decide), z4, y4, if_pos gw, c_span z3 z6, Option.bind_some, bz_if, c_span y3 y6, Option.bind_some, bz_if]
              by_cases gs1 : 0 ≤ v2.toInt ∧ 0 ≤ v5.toInt ∧ v2.toInt + v5.toInt ≤ (n : Int)
              · rw [if_pos gs1, if_neg (fun z => gs ⟨gs1, z⟩)]
              · rw [if_neg gs1]
            · unfold gM_paste
              rw [m_slot, Option.bind_some, bz_if, if_pos g1, m_slot, Option.bind_some, bz_if, if_pos g2, rd_n (by omega) (by omega), Option.bind_some, z7, if_neg n1, rd_n (by omega) (by omega), Option.bind_some, y7, if_neg n2', rd_n (by omega) (by omega), Option.bind_some, rd_n (by omega) (by omega), Option.bind_some, z5, y5, if_pos gw]
              by_cases h1 : v2 < 0
              · rw [if_pos h1]
              · rw [if_neg h1]
                by_cases h2 : v4 < 0
                · rw [if_pos h2]
                · rw [if_neg h2]
                  by_cases h5 : v5 < 0
                  · rw [if_pos h5]
                  · rw [if_neg h5, Option.bind_some]
                    rw [i_lt0] at h1 h2 h5
                    by_cases h6 : (n : Int) < v2.toInt + v5.toInt
                    · rw [if_pos ((cmp_gt z3).mpr h6)]
                    · rw [if_neg (fun z => h6 ((cmp_gt z3).mp z)), Option.bind_some, if_neg (fun z => gs ⟨⟨by omega, by omega, by omega⟩, by omega, by omega, (cmp_le y3).mp z⟩)]
        · refine AS_err (r := -8) h ?_ ?_
          · unfold gL_paste
            rw [c_slot, Option.bind_some, bz_if, if_pos g1, c_slot, Option.bind_some, bz_if, if_pos g2, ix_ite (by omega) (by omega), ix_ite (by omega) (by omega), nI_clamp (by omega), nI_clamp (by omega), z1, if_neg (by decide), y1, if_neg (by decide), z4, y4, if_neg gw]
          · unfold gM_paste
            rw [m_slot, Option.bind_some, bz_if, if_pos g1, m_slot, Option.bind_some, bz_if, if_pos g2, rd_n (by omega) (by omega), Option.bind_some, z7, if_neg n1, rd_n (by omega) (by omega), Option.bind_some, y7, if_neg n2', rd_n (by omega) (by omega), Option.bind_some, rd_n (by omega) (by omega), Option.bind_some, z5, y5, if_neg gw]
  · refine AS_err (r := -2) h ?_ ?_
    · unfold gL_paste
      rw [c_slot, Option.bind_some, bz_if, c_slot, Option.bind_some, bz_if]
      by_cases g1 : 0 ≤ v1.toInt ∧ v1.toInt < (4 : Nat)
      · rw [if_pos g1, if_neg (fun z => g ⟨g1, z⟩)]
      · rw [if_neg g1]
    · unfold gM_paste
      rw [m_slot, Option.bind_some, bz_if, m_slot, Option.bind_some, bz_if]
      by_cases g1 : 0 ≤ v1.toInt ∧ v1.toInt < (4 : Nat)
      · rw [if_pos g1, if_neg (fun z => g ⟨g1, z⟩)]
      · rw [if_neg g1]
end PASTE
