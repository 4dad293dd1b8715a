/-! ROWS OF NUMBERS: row, write, paste -/
theorem cut_g (v c : Int64) (n : Nat) (hc : (c.toBitVec.smod 64).toNat = n) : ((v <<< c) >>> c).toInt = ((v.toBitVec.toNat <<< n : Nat) : Int).bmod (2^64) >>> n := by
  show ((v <<< c) >>> c).toBitVec.toInt = _
  rw [Int64.toBitVec_shiftRight, Int64.toBitVec_shiftLeft, BitVec.toInt_sshiftRight', BitVec.shiftLeft_eq', BitVec.toInt_shiftLeft, hc]
theorem v_nat (v : Int64) : v.toInt = ((v.toBitVec.toNat : Int)).bmod (2 ^ 64) := BitVec.toInt_eq_toNat_bmod v.toBitVec
theorem cut_0 (v : Int64) : v.toInt32.toInt8.toInt32.toInt64 = (v <<< 56) >>> 56 := by
  apply Int64.toInt_inj.mp
  rw [Int32.toInt_toInt64, Int8.toInt_toInt32, Int32.toInt_toInt8, Int64.toInt_toInt32, cut_g v 56 56 (by decide), v_nat, Nat.shiftLeft_eq, Int.shiftRight_eq_div_pow]
  have h := v.toBitVec.isLt
  generalize v.toBitVec.toNat = x at *
  simp only [Int.bmod_def]
  omega
theorem cut_1 (v : Int64) : v.toInt32.toInt16.toInt32.toInt64 = (v <<< 48) >>> 48 := by
  apply Int64.toInt_inj.mp
  rw [Int32.toInt_toInt64, Int16.toInt_toInt32, Int32.toInt_toInt16, Int64.toInt_toInt32, cut_g v 48 48 (by decide), v_nat, Nat.shiftLeft_eq, Int.shiftRight_eq_div_pow]
  have h := v.toBitVec.isLt
  generalize v.toBitVec.toNat = x at *
  simp only [Int.bmod_def]
  omega
theorem cut_2 (v : Int64) : v.toInt32.toInt64 = (v <<< 32) >>> 32 := by
  apply Int64.toInt_inj.mp
  rw [Int32.toInt_toInt64, Int64.toInt_toInt32, cut_g v 32 32 (by decide), v_nat, Nat.shiftLeft_eq, Int.shiftRight_eq_div_pow]
  have h := v.toBitVec.isLt
  generalize v.toBitVec.toNat = x at *
  simp only [Int.bmod_def]
  omega
theorem cut_3 (v : Int64) : v = (v <<< 0) >>> 0 := by
  apply Int64.toInt_inj.mp
  rw [cut_g v 0 0 (by decide), v_nat, Nat.shiftLeft_eq, Int.shiftRight_eq_div_pow]
  have h := v.toBitVec.isLt
  generalize v.toBitVec.toNat = x at *
  simp only [Int.bmod_def]
  omega
def cuN (v : Int64) (wd : Nat) : Int64 := (v <<< (((64 : Int32) - ((8 : Int32) <<< (nI wd &&& 31))).toInt64 &&& 63)) >>> (((64 : Int32) - ((8 : Int32) <<< (nI wd &&& 31))).toInt64 &&& 63)
section ROWS
variable {n w o b a k m l wd i : Nat} {s s' s'' : mT} {D D' : RD} {xs : Nat → Int32} {v : Int64}
theorem c_put (h2 : s.1 a 2 = nI wd) (hw : wd ≤ 3) (hi : i < 60) : gW_put a (nI i) v s = some (stL s (a + 1) i (cuN v wd)) := by
  unfold gW_put
  rw [h2]
  match wd, hw with
  | 0, _ =>
    rw [if_pos (show nI 0 = (0 : Int32) from rfl), wrL_n hi (by omega), Option.bind_some, Option.bind_some, cut_0]
    rfl
  | 1, _ =>
    rw [if_neg (by decide), if_pos (show nI 1 = (1 : Int32) from rfl), wrL_n hi (by omega), Option.bind_some, Option.bind_some, cut_1]
    rfl
  | 2, _ =>
    rw [if_neg (by decide), if_neg (by decide), if_pos (show nI 2 = (2 : Int32) from rfl), wrL_n hi (by omega), Option.bind_some, Option.bind_some, cut_2]
    rfl
  | 3, _ =>
    rw [if_neg (by decide), if_neg (by decide), if_neg (by decide), wrL_n hi (by omega), Option.bind_some, Option.bind_some, show cuN v 3 = (v <<< 0) >>> 0 from rfl, ← cut_3]
theorem SLI.cg (h : SLI l s) (h1 : s'.1 (286 + 2 * l) = s.1 (286 + 2 * l)) (h2 : s'.1 313 l = s.1 313 l) (h3 : s'.1 314 l = s.1 314 l) (h4 : ∀ i, i < 60 → s'.2 (287 + 2 * l) i = s.2 (287 + 2 * l) i ∧ s'.2 315 (60 * l + i) = s.2 315 (60 * l + i)) : SLI l s' := by
  unfold SLI at h ⊢
  rw [h1, h2, h3]
  rcases h with h | ⟨z1, wd, n, z2, z3, z4, z5, z6, z7, z8⟩
  · exact Or.inl h
  · refine Or.inr ⟨z1, wd, n, z2, z3, z4, z5, z6, z7, fun i hi => ?_⟩
    rw [(h4 i (by omega)).1, (h4 i (by omega)).2]
    exact z8 i hi
theorem IV.slo (h : IV xs D s) (hf : ∀ a, (a < 286 ∨ 294 ≤ a) → a ≠ 225 → a ≠ 313 → a ≠ 314 → s'.1 a = s.1 a) (h2 : s'.1 225 2 = -1) (hs : ∀ l, l < 4 → SLI l s') : IV xs D s' := by
  obtain ⟨⟨i1, i2, i3⟩, ⟨i4, i5⟩, i6, i7, i8, i9, i10, i11, i12⟩ := h
  have eXB : XB = 1000000 := rfl
  refine ⟨⟨i1, i2.cg (fun a h1 h2 => hf a (by omega) (by omega) (by omega) (by omega)), ?_⟩, ⟨i4.cg i1 (fun a h1 h2 => hf a (by omega) (by omega) (by omega) (by omega)), i5.cg i1.1.1 (fun a h1 h2 => hf a (by omega) (by omega) (by omega) (by omega))⟩, ?_, ?_, fun k hk => ?_, hs, ?_, Or.inl h2, fun a ha => ?_⟩
  · rw [hf 295 (by omega) (by omega) (by omega) (by omega)]; exact i3
  · unfold TPI
    rw [hf 294 (by omega) (by omega) (by omega) (by omega), hf 1 (by omega) (by omega) (by omega) (by omega), hf 2 (by omega) (by omega) (by omega) (by omega), hf 298 (by omega) (by omega) (by omega) (by omega)]
    exact i6
  · rw [hf 294 (by omega) (by omega) (by omega) (by omega), hf 3 (by omega) (by omega) (by omega) (by omega)]; exact i7
  · rcases i8 k hk with h | ⟨h1, h2, D', h3, h4, h5⟩
    · left
      rw [hf 248 (by omega) (by omega) (by omega) (by omega), hf 297 (by omega) (by omega) (by omega) (by omega)]; exact h
    · right
      rw [hf 248 (by omega) (by omega) (by omega) (by omega), hf 297 (by omega) (by omega) (by omega) (by omega), hf 296 (by omega) (by omega) (by omega) (by omega)]
      exact ⟨h1, h2, D', h3, h4.cg (fun a z1 z2 => hf a (by omega) (by omega) (by omega) (by omega)), h5⟩
  · unfold SVI at i10 ⊢
    rw [hf 214 (by omega) (by omega) (by omega) (by omega), hf 215 (by omega) (by omega) (by omega) (by omega), hf 216 (by omega) (by omega) (by omega) (by omega), hf 217 (by omega) (by omega) (by omega) (by omega), hf 218 (by omega) (by omega) (by omega) (by omega)]
    rcases i10 with h | ⟨h1, h2⟩
    · exact Or.inl h
    · refine Or.inr ⟨h1, fun b hb => ?_⟩
      have hB := i1.1.2.2.2.2.2.1
      rw [hf (220 + b) (by omega) (by omega) (by omega) (by omega)]
      exact h2 b hb
  · rw [hf a (by omega) (by omega) (by omega) (by omega)]; exact i12 a ha
theorem c_slot {v1 : Int32} : gL_isSlot v1 s = some (bz (decide (0 ≤ v1.toInt ∧ v1.toInt < (4 : Nat)))) := by
  unfold gL_isSlot
  by_cases h1 : v1 < 0
  · rw [if_pos h1, Option.bind_some, if_pos (Or.inl rfl)]
    rw [i_lt0] at h1
    rw [decide_eq_false (by omega)]; rfl
  · rw [if_neg h1]
    rw [i_lt0] at h1
    by_cases h2 : (4 : Int32) ≤ v1
    · rw [if_pos h2, Option.bind_some, if_pos (Or.inl rfl)]
      rw [Int32.le_iff_toInt_le, show (4 : Int32).toInt = 4 from rfl] at h2
      rw [decide_eq_false (by omega)]; rfl
    · rw [if_neg h2, Option.bind_some, if_pos (Or.inr rfl)]
      rw [Int32.le_iff_toInt_le, show (4 : Int32).toInt = 4 from rfl] at h2
      rw [decide_eq_true (by omega)]; rfl
theorem m_slot {v1 : Int32} : gM_isSlot v1 s = some (bz (decide (0 ≤ v1.toInt ∧ v1.toInt < (4 : Nat)))) := by
  unfold gM_isSlot
  rw [m_in03, Option.bind_some, bz_ite]
def FL (P : Nat → Nat → Prop) (s s' : mT) : Prop := s'.1 = s.1 ∧ ∀ a k, ¬ P a k → s'.2 a k = s.2 a k
theorem FL.rfl' {P : Nat → Nat → Prop} : FL P s s := ⟨rfl, fun _ _ _ => rfl⟩
theorem FL.st {P : Nat → Nat → Prop} {x : Int64} (h : FL P s s') (hp : P a k) : FL P s (stL s' a k x) := ⟨h.1, fun b j hb => by
  rw [stL_at, if_neg (fun z => hb (by rw [z.1, z.2]; exact hp))]
  exact h.2 b j hb⟩
theorem stL_eq {x : Int64} : (stL s a k x).2 a k = x := by rw [stL_at, if_pos ⟨rfl, rfl⟩]
theorem stL_nk {x : Int64} {j : Nat} (h : j ≠ k) : (stL s a k x).2 a j = s.2 a j := by rw [stL_at, if_neg (fun z => h z.2)]
theorem stL_ne {x : Int64} {i j : Nat} (h : i ≠ a) : (stL s a k x).2 i j = s.2 i j := by rw [stL_at, if_neg (fun z => h z.1)]
theorem c_lay (hn : n ≤ 60) (h3 : s.1 a 3 = nI n) : ∃ s', wh FU (gW_lay_h17 a) ((0 : Int32), s) = some s' ∧ FL (fun b _ => b = a + 1) s s' ∧ ∀ i, i < n → s'.2 (a + 1) i = 0 := by
  have := wh_cnt (f := gW_lay_h17 a) (fun j t => FL (fun b _ => b = a + 1) s t ∧ ∀ i, i < j → t.2 (a + 1) i = 0) (fun t => FL (fun b _ => b = a + 1) s t ∧ ∀ i, i < n → t.2 (a + 1) i = 0) 0 n (by omega) (fun j _ hj t hI => by
    obtain ⟨i1, i2⟩ := hI
    refine ⟨stL t (a + 1) j (0 : Int64), ?_, i1.st rfl, fun i hi => ?_⟩
    · unfold gW_lay_h17
      dsimp only
      rw [i1.1, h3, if_neg (nle (by omega) (by omega) (by omega)), wrL_n (by omega) (by omega), Option.bind_some, nI_1]
    · by_cases e : i = j
      · subst e; exact stL_eq
      · rw [stL_nk e]; exact i2 i (by omega)) (fun t hI => by
    refine ⟨t, ?_, hI⟩
    unfold gW_lay_h17
    dsimp only
    rw [hI.1.1, h3, if_pos (nI_le (by omega) (by omega))]) (s := s) ⟨FL.rfl', fun i hi => absurd hi (Nat.not_lt_zero _)⟩ (i := (0 : Int32)) rfl FU (FU_gt (by omega))
  exact this
theorem m_layR (hl : l < 4) : ∃ s', wh FU (gM_row_h52 (nI l)) ((0 : Int32), s) = some s' ∧ FL (fun b j => b = 315 ∧ 60 * l ≤ j ∧ j < 60 * l + 60) s s' ∧ ∀ i, i < 60 → s'.2 315 (60 * l + i) = 0 := by
  have := wh_cnt (f := gM_row_h52 (nI l)) (fun j t => FL (fun b j => b = 315 ∧ 60 * l ≤ j ∧ j < 60 * l + 60) s t ∧ ∀ i, i < j → t.2 315 (60 * l + i) = 0) (fun t => FL (fun b j => b = 315 ∧ 60 * l ≤ j ∧ j < 60 * l + 60) s t ∧ ∀ i, i < 60 → t.2 315 (60 * l + i) = 0) 0 60 (by omega) (fun j _ hj t hI => by
    obtain ⟨i1, i2⟩ := hI
    refine ⟨stL t 315 (60 * l + j) (0 : Int64), ?_, i1.st ⟨rfl, by omega, by omega⟩, fun i hi => ?_⟩
    · unfold gM_row_h52
      dsimp only
      rw [show (60 : Int32) = nI 60 from rfl, if_neg (nle (by omega) (by omega) (by omega)), pk_mul, nI_add, wrL_n (by omega) (by omega), Option.bind_some, nI_1]
    · by_cases e : i = j
      · subst e; exact stL_eq
      · rw [stL_nk (by omega)]; exact i2 i (by omega)) (fun t hI => ⟨t, rfl, hI⟩) (s := s) ⟨FL.rfl', fun i hi => absurd hi (Nat.not_lt_zero _)⟩ (i := (0 : Int32)) rfl FU (FU_gt (by omega))
  exact this
theorem i_lt4 (v1 : Int32) : (¬ v1 < 0 ∧ ¬ (4 : Int32) ≤ v1) ↔ (0 ≤ v1.toInt ∧ v1.toInt < (4 : Nat)) := by
  rw [i_lt0, Int32.le_iff_toInt_le, show (4 : Int32).toInt = 4 from rfl]
  omega
theorem a_row (v1 v2 v3 : Int32) : AS (gL_row v1 v2 v3) (gM_row v1 v2 v3) := fun xs D s h => by
  have eXB : XB = 1000000 := rfl
  by_cases g1 : 0 ≤ v1.toInt ∧ v1.toInt < (4 : Nat)
  · by_cases g2 : 0 ≤ v2.toInt ∧ v2.toInt < (4 : Nat)
    · have g2' := (i_lt4 v2).mpr g2
      by_cases g3 : v3 ≤ (60 : Int32)
      · by_cases g4 : 0 ≤ v3
        · have g34 : 0 ≤ v3.toInt ∧ v3.toInt < (61 : Nat) := by
            rw [Int32.le_iff_toInt_le] at g3 g4
            rw [show (60 : Int32).toInt = 60 from rfl] at g3
            rw [show (0 : Int32).toInt = 0 from rfl] at g4
            omega
          obtain ⟨l, hl, rfl⟩ := of_in g1
          obtain ⟨wd, hwd, rfl⟩ := of_in g2
          obtain ⟨n, hn, rfl⟩ := of_in g34
          obtain ⟨t0, ht0⟩ : ∃ t0, t0 = stI (stI (stI s (286 + 2 * l) 1 (1 : Int32)) (286 + 2 * l) 2 (nI wd)) (286 + 2 * l) 3 (nI n) := ⟨_, rfl⟩
          obtain ⟨t1, y1, y2, y3⟩ := c_lay (s := t0) (a := 286 + 2 * l) (n := n) (by omega) (by rw [ht0]; exact stI_eq)
          obtain ⟨t2, ht2⟩ : ∃ t2, t2 = stI t1 225 2 (-1 : Int32) := ⟨_, rfl⟩
          obtain ⟨t3, ht3⟩ : ∃ t3, t3 = stI (stI t2 313 l (nI n)) 314 l (nI wd) := ⟨_, rfl⟩
          obtain ⟨t4, z1, z2, z3⟩ := m_layR (s := t3) hl
          have e1 : ∀ a, a ≠ 286 + 2 * l → a ≠ 225 → t2.1 a = s.1 a := fun a h1 h2 => by
            rw [ht2, stI_fn h2, y2.1, ht0, stI_fn h1, stI_fn h1, stI_fn h1]
          have e2 : ∀ a, a ≠ 313 → a ≠ 314 → t4.1 a = t2.1 a := fun a h1 h2 => by
            rw [z2.1, ht3, stI_fn h2, stI_fn h1]
          have e3 : ∀ a i, a ≠ 287 + 2 * l → t2.2 a i = s.2 a i := fun a i h1 => by
            rw [ht2]
            show t1.2 a i = _
            rw [y2.2 a i (fun z => h1 (by omega)), ht0]
            rfl
          have e4 : ∀ a i, ¬ (a = 315 ∧ 60 * l ≤ i ∧ i < 60 * l + 60) → t4.2 a i = t2.2 a i := fun a i h1 => by
            rw [z2.2 a i h1, ht3]
            rfl
          refine ⟨0, t2, t4, D, ?_, fun a ha => e1 a (by omega) (by omega), ?_, h.slo (fun a h1 h2 h3 h4 => by rw [e2 a h3 h4, e1 a (by omega) h2]) ?_ (fun j hj => ?_)⟩
          · unfold gL_row gW_lay
            rw [c_slot, Option.bind_some, bz_if, if_pos g1, if_neg g2'.1, if_neg g2'.2, if_pos g3, if_pos g4, ix_ite (by omega) (by omega), nI_clamp (by omega), Option.bind_some, ← ht0, y1, Option.bind_some, Option.bind_some, ht2]
          · unfold gM_row
            rw [m_slot, Option.bind_some, bz_if, if_pos g1, m_in03, Option.bind_some, bz_if, if_pos g2, if_pos g3, if_pos g4, wr_n (by omega) (by omega), Option.bind_some, wr_n (by omega) (by omega), Option.bind_some, ← ht3, z1, Option.bind_some]
          · rw [e2 225 (by omega) (by omega), ht2]
            exact stI_eq
          · by_cases e : j = l
            · subst e
              have q : t4.1 (286 + 2 * j) = t0.1 (286 + 2 * j) := by rw [e2 _ (by omega) (by omega), ht2, stI_fn (by omega), y2.1]
              refine Or.inr ⟨?_, wd, n, by omega, by omega, ?_, ?_, ?_, ?_, fun i hi => ?_⟩
              · rw [q, ht0, stI_nk (by omega), stI_nk (by omega), stI_eq]
              · rw [q, ht0, stI_nk (by omega), stI_eq]
              · rw [z2.1, ht3, stI_eq]
              · rw [q, ht0, stI_eq]
              · rw [z2.1, ht3, stI_ne (by omega), stI_eq]
              · rw [e4 (287 + 2 * j) i (by omega), z3 i (by omega), ht2]
                exact (show t1.2 (287 + 2 * j) i = 0 from (by rw [show 287 + 2 * j = 286 + 2 * j + 1 by omega]; exact y3 i hi))
            · refine (h.2.2.2.2.2.1 j hj).cg ?_ ?_ ?_ (fun i hi => ⟨?_, ?_⟩)
              · rw [e2 _ (by omega) (by omega), e1 _ (by omega) (by omega)]
              · rw [z2.1, ht3, stI_ne (by omega), stI_nk e, e1 313 (by omega) (by omega)]
              · rw [z2.1, ht3, stI_nk e, stI_ne (by omega), e1 314 (by omega) (by omega)]
              · rw [e4 _ _ (by omega), e3 _ _ (by omega)]
              · rw [e4 _ _ (by omega), e3 _ _ (by omega)]
        · refine AS_err (r := -3) h ?_ ?_
          · unfold gL_row
            rw [c_slot, Option.bind_some, bz_if, if_pos g1, if_neg g2'.1, if_neg g2'.2, if_pos g3, if_neg g4]
          · unfold gM_row
            rw [m_slot, Option.bind_some, bz_if, if_pos g1, m_in03, Option.bind_some, bz_if, if_pos g2, if_pos g3, if_neg g4]
      · refine AS_err (r := -2) h ?_ ?_
        · unfold gL_row
          rw [c_slot, Option.bind_some, bz_if, if_pos g1, if_neg g2'.1, if_neg g2'.2, if_neg g3]
        · unfold gM_row
          rw [m_slot, Option.bind_some, bz_if, if_pos g1, m_in03, Option.bind_some, bz_if, if_pos g2, if_neg g3]
    · refine AS_err (r := -2) h ?_ ?_
      · unfold gL_row
        rw [c_slot, Option.bind_some, bz_if, if_pos g1]
        by_cases h1 : v2 < 0
        · rw [if_pos h1]
        · rw [if_neg h1, if_pos (Classical.byContradiction (fun z => g2 ((i_lt4 v2).mp ⟨h1, z⟩)))]
      · unfold gM_row
        rw [m_slot, Option.bind_some, bz_if, if_pos g1, m_in03, Option.bind_some, bz_if, if_neg g2]
  · refine AS_err (r := -2) h ?_ ?_
    · unfold gL_row
      rw [c_slot, Option.bind_some, bz_if, if_neg g1]
    · unfold gM_row
      rw [m_slot, Option.bind_some, bz_if, if_neg g1]
end ROWS
