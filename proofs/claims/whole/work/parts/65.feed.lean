/-! THE TAPE: feed, end -/
def shT (r : Nat) : Int32 := if r = 0 then 24 else if r = 1 then 16 else if r = 2 then 8 else if r = 3 then 0 else -8
def byt (x : Int32) (r : Nat) : Nat := (x >>> (shT r &&& 31)).toBitVec.toNat % 256
def wdF (v1 v2 v3 v4 v5 : Int32) (i : Nat) : Int32 := if i = 0 then v1 else if i = 1 then v2 else if i = 2 then v3 else if i = 3 then v4 else v5
theorem and255 (y : Int32) : y &&& (255 : Int32) = nI (y.toBitVec.toNat % 256) := by
  apply Int32.toBitVec.inj
  apply BitVec.eq_of_toNat_eq
  show (y.toBitVec &&& (255 : Int32).toBitVec).toNat = (BitVec.ofNat 32 (y.toBitVec.toNat % 256)).toNat
  rw [BitVec.toNat_and, BitVec.toNat_ofNat, show ((255 : Int32).toBitVec).toNat = 2 ^ 8 - 1 from rfl, Nat.and_two_pow_sub_one_eq_mod]
  have := Nat.mod_lt y.toBitVec.toNat (show 0 < 256 by decide)
  rw [Nat.mod_eq_of_lt (show y.toBitVec.toNat % 256 < 2 ^ 32 by omega)]
theorem byt_8 (y : Int32) : (nI (y.toBitVec.toNat % 256)).toInt8 = y.toInt8 := by
  apply Int8.toInt_inj.mp
  have h := Nat.mod_lt y.toBitVec.toNat (show 0 < 256 by decide)
  rw [Int32.toInt_toInt8, Int32.toInt_toInt8, nI_toInt (by omega), show y.toInt = y.toBitVec.toInt from rfl, BitVec.toInt_eq_toNat_bmod]
  have h2 := y.toBitVec.isLt
  generalize y.toBitVec.toNat = x at *
  simp only [Int.bmod_def]
  omega
section TAPE
variable {n w o b a k m l wd i j : Nat} {s s' s'' : mT} {D D' : RD} {xs : Nat → Int32} {x : Int32}
theorem c_putT (h : s.1 1 1 = nI l) (hl : l + 4 ≤ 600) : ∃ s', gT_put x s = some s' ∧ s'.1 1 1 = nI (l + 4) ∧ Fp (fun a k => (a = 1 ∧ k = 1) ∨ (a = 2 ∧ l ≤ k ∧ k < l + 4)) s s' ∧ ∀ r, r < 4 → s'.1 2 (l + r) = nI (byt x r) := by
  have := wh_inv (f := gT_put_h3 x) (fun j q => q.1 = shT j ∧ q.2.1 1 1 = nI (l + j) ∧ Fp (fun a k => (a = 1 ∧ k = 1) ∨ (a = 2 ∧ l ≤ k ∧ k < l + 4)) s q.2 ∧ ∀ r, r < j → q.2.1 2 (l + r) = nI (byt x r)) (fun s' => s'.1 1 1 = nI (l + 4) ∧ Fp (fun a k => (a = 1 ∧ k = 1) ∨ (a = 2 ∧ l ≤ k ∧ k < l + 4)) s s' ∧ ∀ r, r < 4 → s'.1 2 (l + r) = nI (byt x r)) 4 (fun j hj q hq => by
    obtain ⟨i, t⟩ := q
    obtain ⟨h1, h2, h3, h4⟩ := hq
    dsimp only at h1 h2 h3 h4
    subst h1
    have hs : ¬ shT j < 0 ∧ shT j + (-8 : Int32) = shT (j + 1) := (by decide : ∀ j, j < 4 → ¬ shT j < 0 ∧ shT j + (-8 : Int32) = shT (j + 1)) j hj
    refine ⟨(shT (j + 1), stI (stI t 2 (l + j) (nI (byt x j))) 1 1 (nI (l + (j + 1)))), ?_, rfl, stI_eq, (h3.tr (Fp.st (Or.inr ⟨rfl, by omega, by omega⟩))).tr (Fp.st (Or.inl ⟨rfl, rfl⟩)), fun r hr => ?_⟩
    · unfold gT_put_h3
      dsimp only
      rw [if_neg hs.1, h2, show (600 : Int32) = nI 600 from rfl, if_neg (nle (by omega) (by omega) (by omega)), and255, wr_n (by omega) (by omega), Option.bind_some, stI_ne (by omega), h2, nI_1, hs.2]
      rfl
    · show (stI (stI t 2 (l + j) (nI (byt x j))) 1 1 (nI (l + (j + 1)))).1 2 (l + r) = _
      rw [stI_ne (by omega)]
      by_cases e : r = j
      · subst e; exact stI_eq
      · rw [stI_nk (by omega)]; exact h4 r (by omega)) (fun q hq => by
    obtain ⟨i, t⟩ := q
    obtain ⟨h1, h2, h3, h4⟩ := hq
    dsimp only at h1 h2 h3 h4
    subst h1
    refine ⟨t, ?_, h2, h3, h4⟩
    unfold gT_put_h3
    dsimp only
    rw [if_pos (by decide)]) (q := ((24 : Int32), s)) ⟨rfl, h, Fp.rfl', fun r hr => absurd hr (Nat.not_lt_zero _)⟩ FU (FU_gt (by omega))
  obtain ⟨s', f1, f2⟩ := this
  exact ⟨s', by unfold gT_put; rw [f1]; rfl, f2⟩
def pT1 (a k : Nat) : Prop := a = 1 ∨ a = 2 ∨ a = 298 ∨ a = 299 ∨ (a = 294 ∧ k = 5)
theorem IV.tap (h : IV xs D s) (hf : ∀ a k, ¬ pT1 a k → s'.1 a k = s.1 a k) (h2 : s'.2 = s.2) (ht : TPI s') : IV xs D s' := by
  obtain ⟨⟨i1, i2, i3⟩, ⟨i4, i5⟩, i6, i7, i8, i9, i10, i11, i12⟩ := h
  have eXB : XB = 1000000 := rfl
  have e : ∀ a, a ≠ 1 → a ≠ 2 → a ≠ 298 → a ≠ 299 → a ≠ 294 → s'.1 a = s.1 a := fun a h1 h2 h3 h4 h5 => funext (fun k => hf a k (by unfold pT1; omega))
  refine ⟨⟨i1, i2.cg (fun a h1 h2 => e a (by omega) (by omega) (by omega) (by omega) (by omega)), ?_⟩, ⟨i4.cg i1 (fun a h1 h2 => e a (by omega) (by omega) (by omega) (by omega) (by omega)), i5.cg i1.1.1 (fun a h1 h2 => e a (by omega) (by omega) (by omega) (by omega) (by omega))⟩, ht, ?_, fun k hk => ?_, fun l hl => ?_, ?_, ?_, fun a ha => ?_⟩
  · rw [e 295 (by omega) (by omega) (by omega) (by omega) (by omega)]; exact i3
  · rw [hf 294 12 (by unfold pT1; omega), hf 294 13 (by unfold pT1; omega), e 3 (by omega) (by omega) (by omega) (by omega) (by omega)]; exact i7
  · rcases i8 k hk with h | ⟨h1, h2, D', h3, h4, h5⟩
    · left
      rw [e 248 (by omega) (by omega) (by omega) (by omega) (by omega), e 297 (by omega) (by omega) (by omega) (by omega) (by omega)]; exact h
    · right
      rw [e 248 (by omega) (by omega) (by omega) (by omega) (by omega), e 297 (by omega) (by omega) (by omega) (by omega) (by omega), e 296 (by omega) (by omega) (by omega) (by omega) (by omega)]
      exact ⟨h1, h2, D', h3, h4.cg (fun a z1 z2 => e a (by omega) (by omega) (by omega) (by omega) (by omega)), h5⟩
  · exact (i9 l hl).cg (e _ (by omega) (by omega) (by omega) (by omega) (by omega)) (by rw [e 313 (by omega) (by omega) (by omega) (by omega) (by omega)]) (by rw [e 314 (by omega) (by omega) (by omega) (by omega) (by omega)]) (fun i hi => by rw [h2]; exact ⟨rfl, rfl⟩)
  · unfold SVI at i10 ⊢
    rw [e 214 (by omega) (by omega) (by omega) (by omega) (by omega), e 215 (by omega) (by omega) (by omega) (by omega) (by omega), e 216 (by omega) (by omega) (by omega) (by omega) (by omega), e 217 (by omega) (by omega) (by omega) (by omega) (by omega), e 218 (by omega) (by omega) (by omega) (by omega) (by omega)]
    rcases i10 with h | ⟨h1, h2⟩
    · exact Or.inl h
    · refine Or.inr ⟨h1, fun b hb => ?_⟩
      have hB := i1.1.2.2.2.2.2.1
      rw [e (220 + b) (by omega) (by omega) (by omega) (by omega) (by omega)]
      exact h2 b hb
  · unfold SNI at i11 ⊢
    rw [e 225 (by omega) (by omega) (by omega) (by omega) (by omega), h2]
    rcases i11 with h | ⟨l, n, hl, h1, h2, h3, h4, h5⟩
    · exact Or.inl h
    · refine Or.inr ⟨l, n, hl, h1, h2, ?_⟩
      have hW := i1.1.2.2.2.2.2.2.1
      rw [e (286 + 2 * l) (by omega) (by omega) (by omega) (by omega) (by omega)]
      refine ⟨h3, h4, fun w b hw hb => ?_⟩
      rw [e (227 + w) (by omega) (by omega) (by omega) (by omega) (by omega)]
      exact h5 w b hw hb
  · rw [e a (by omega) (by omega) (by omega) (by omega) (by omega)]; exact i12 a ha
theorem m_feed (h : s.1 294 5 = nI l) (hl : l + 20 ≤ 600) {W : Nat → Int32} (hw : ∀ i, i < 5 → s.1 299 i = W i) : ∃ s', wh FU gM_feed_h55 ((0 : Int32), s) = some s' ∧ Fp (fun a k => a = 298 ∧ l ≤ k ∧ k < l + 20) s s' ∧ ∀ i, i < 20 → s'.1 298 (l + i) = (nI (byt (W (i / 4)) (i % 4))).toInt8.toInt32 := by
  have := wh_cnt (f := gM_feed_h55) (fun j t => Fp (fun a k => a = 298 ∧ l ≤ k ∧ k < l + 20) s t ∧ ∀ i, i < j → t.1 298 (l + i) = (nI (byt (W (i / 4)) (i % 4))).toInt8.toInt32) (fun t => Fp (fun a k => a = 298 ∧ l ≤ k ∧ k < l + 20) s t ∧ ∀ i, i < 20 → t.1 298 (l + i) = (nI (byt (W (i / 4)) (i % 4))).toInt8.toInt32) 0 20 (by omega) (fun j _ hj t hI => by
    obtain ⟨i1, i2⟩ := hI
    have hsh : (((24 : Int32) - ((8 : Int32) * (nI j - nI j / (4 : Int32) * (4 : Int32)))) &&& 31) = (shT (j % 4) &&& 31) ∧ nI j / (4 : Int32) = nI (j / 4) := (by decide +kernel : ∀ j, j < 20 → (((24 : Int32) - ((8 : Int32) * (nI j - nI j / (4 : Int32) * (4 : Int32)))) &&& 31) = (shT (j % 4) &&& 31) ∧ nI j / (4 : Int32) = nI (j / 4)) j hj
    refine ⟨stI t 298 (l + j) ((nI (byt (W (j / 4)) (j % 4))).toInt8.toInt32), ?_, i1.tr (Fp.st ⟨rfl, by omega, by omega⟩), fun i hi => ?_⟩
    · unfold gM_feed_h55
      dsimp only
      rw [show (20 : Int32) = nI 20 from rfl, if_neg (nle (by omega) (by omega) (by omega)), if_neg (by decide), hsh.1, hsh.2, rd_n (by omega) (by omega), Option.bind_some, i1.1 294 5 (fun z => absurd z.1 (by omega)), h, nI_add, wr_n (by omega) (by omega), Option.bind_some, i1.1 299 _ (fun z => absurd z.1 (by omega)), hw _ (by omega), nI_1, if_neg (by decide)]
      unfold byt
      rw [byt_8]
      have ei : ∀ y : Int32, vp_nar .byte y.toInt8.toInt32 = y.toInt8.toInt32 := fun y => by
        show (y.toInt8.toInt32).toInt8.toInt32 = _
        rw [Int8.toInt8_toInt32]
      rw [ei]
    · by_cases e : i = j
      · subst e; exact stI_eq
      · rw [stI_nk (by omega)]; exact i2 i (by omega)) (fun t hI => ⟨t, rfl, hI⟩) (s := s) ⟨Fp.rfl', fun q hq => absurd hq (Nat.not_lt_zero _)⟩ (i := (0 : Int32)) rfl FU (FU_gt (by omega))
  exact this
theorem a_feed (v1 v2 v3 v4 v5 : Int32) : AS (gL_feed v1 v2 v3 v4 v5) (gM_feed v1 v2 v3 v4 v5) := fun xs D s h => by
  have eXB : XB = 1000000 := rfl
  obtain ⟨l, t, hl, h1, h2, h3⟩ := h.2.2.1
  by_cases g : l + 20 ≤ 600
  · have g' : nI l + (20 : Int32) ≤ (600 : Int32) := by
      rw [show (20 : Int32) = nI 20 from rfl, nI_add]
      exact nI_le (b := 600) g (by omega)
    obtain ⟨s1, f1, f2, f3, f4⟩ := c_putT (s := s) (x := v1) h1 (by omega)
    obtain ⟨s2, g1, g2, g3, g4⟩ := c_putT (s := s1) (x := v2) f2 (by omega)
    obtain ⟨s3, p1, p2, p3, p4⟩ := c_putT (s := s2) (x := v3) g2 (by omega)
    obtain ⟨s4, q1, q2, q3, q4⟩ := c_putT (s := s3) (x := v4) p2 (by omega)
    obtain ⟨s5, r1, r2, r3, r4⟩ := c_putT (s := s4) (x := v5) q2 (by omega)
    have cf : Fp (fun a k => (a = 1 ∧ k = 1) ∨ (a = 2 ∧ l ≤ k ∧ k < l + 20)) s s5 := (f3.wid (fun a k z => by omega)).tr ((g3.wid (fun a k z => by omega)).tr ((p3.wid (fun a k z => by omega)).tr ((q3.wid (fun a k z => by omega)).tr (r3.wid (fun a k z => by omega)))))
    have cv : ∀ i, i < 20 → s5.1 2 (l + i) = nI (byt (wdF v1 v2 v3 v4 v5 (i / 4)) (i % 4)) := fun i hi => by
      by_cases e0 : i / 4 = 0
      · rw [r3.1 2 _ (by omega), q3.1 2 _ (by omega), p3.1 2 _ (by omega), g3.1 2 _ (by omega), e0]
        have := f4 (i % 4) (by omega)
        rw [show l + i % 4 = l + i by omega] at this
        exact this
      · by_cases e1 : i / 4 = 1
        · rw [r3.1 2 _ (by omega), q3.1 2 _ (by omega), p3.1 2 _ (by omega), e1]
          have := g4 (i % 4) (by omega)
          rw [show l + 4 + i % 4 = l + i by omega] at this
          exact this
        · by_cases e2 : i / 4 = 2
          · rw [r3.1 2 _ (by omega), q3.1 2 _ (by omega), e2]
            have := p4 (i % 4) (by omega)
            rw [show l + 4 + 4 + i % 4 = l + i by omega] at this
            exact this
          · by_cases e3 : i / 4 = 3
            · rw [r3.1 2 _ (by omega), e3]
              have := q4 (i % 4) (by omega)
              rw [show l + 4 + 4 + 4 + i % 4 = l + i by omega] at this
              exact this
            · have e4 : i / 4 = 4 := by omega
              rw [e4]
              have := r4 (i % 4) (by omega)
              rw [show l + 4 + 4 + 4 + 4 + i % 4 = l + i by omega] at this
              exact this
    obtain ⟨t0, ht0⟩ : ∃ t0, t0 = stI (stI (stI (stI (stI s5 299 0 v1) 299 1 v2) 299 2 v3) 299 3 v4) 299 4 v5 := ⟨_, rfl⟩
    have tf : ∀ a, a ≠ 299 → t0.1 a = s5.1 a := fun a ha => by rw [ht0, stI_fn ha, stI_fn ha, stI_fn ha, stI_fn ha, stI_fn ha]
    have m5 : t0.1 294 5 = nI l := by rw [tf 294 (by omega), cf.1 294 5 (by omega)]; exact h2
    obtain ⟨t1, y1, y2, y3⟩ := m_feed (s := t0) m5 g (W := wdF v1 v2 v3 v4 v5) (fun i hi => by
      rw [ht0]
      match i, hi with
      | 0, _ => rw [stI_nk (by omega), stI_nk (by omega), stI_nk (by omega), stI_nk (by omega), stI_eq]; rfl
      | 1, _ => rw [stI_nk (by omega), stI_nk (by omega), stI_nk (by omega), stI_eq]; rfl
      | 2, _ => rw [stI_nk (by omega), stI_nk (by omega), stI_eq]; rfl
      | 3, _ => rw [stI_nk (by omega), stI_eq]; rfl
      | 4, _ => rw [stI_eq]; rfl)
    have m6 : t1.1 294 5 = nI l := by rw [y2.1 294 5 (fun z => absurd z.1 (by omega))]; exact m5
    obtain ⟨t2, ht2⟩ : ∃ t2, t2 = stI t1 294 5 (nI (l + 20)) := ⟨_, rfl⟩
    have t24 : ∀ a k, ¬ ((a = 294 ∧ k = 5) ∨ (a = 298 ∧ l ≤ k ∧ k < l + 20) ∨ a = 299) → t2.1 a k = s5.1 a k := fun a k hn => by
      rw [ht2, stI_at, if_neg (fun z => hn (Or.inl z)), y2.1 a k (fun z => hn (Or.inr (Or.inl z))), tf a (fun z => hn (Or.inr (Or.inr z)))]
    refine ⟨nI (l + 20), s5, t2, D, ?_, fun a ha => cf.fn (fun k => by omega), ?_, h.tap (fun a k hn => ?_) ?_ ⟨l + 20, fun i => if i < l then t i else byt (wdF v1 v2 v3 v4 v5 ((i - l) / 4)) ((i - l) % 4), g, ?_, ?_, fun i hi => ?_⟩⟩
    · unfold gL_feed
      rw [h1, if_pos g', f1, Option.bind_some, g1, Option.bind_some, p1, Option.bind_some, q1, Option.bind_some, r1, Option.bind_some, r2]
    · unfold gM_feed
      rw [cf.1 294 5 (by omega), h2, if_pos g', show (0 : Int32) = nI 0 from rfl, wr_n (by omega) (by omega), Option.bind_some, show (1 : Int32) = nI 1 from rfl, wr_n (by omega) (by omega), Option.bind_some, show (2 : Int32) = nI 2 from rfl, wr_n (by omega) (by omega), Option.bind_some, show (3 : Int32) = nI 3 from rfl, wr_n (by omega) (by omega), Option.bind_some, show (4 : Int32) = nI 4 from rfl, wr_n (by omega) (by omega), Option.bind_some, ← ht0, show nI 0 = (0 : Int32) from rfl, y1, Option.bind_some, m6, show (20 : Int32) = nI 20 from rfl, nI_add, ← ht2, ht2, stI_eq]
    · unfold pT1 at hn
      rw [t24 a k (by omega), cf.1 a k (by omega)]
    · rw [ht2]
      show t1.2 = s.2
      rw [y2.2, ht0]
      exact cf.2
    · rw [t24 1 1 (by omega)]
      exact r2
    · rw [ht2, stI_eq]
    · dsimp only
      by_cases e : i < l
      · obtain ⟨z1, z2, z3⟩ := h3 i e
        refine ⟨by rw [if_pos e]; exact z1, by rw [if_pos e, t24 2 i (by omega), cf.1 2 i (by omega)]; exact z2, by rw [if_pos e, t24 298 i (by omega), cf.1 298 i (by omega)]; exact z3⟩
      · rw [if_neg e]
        have c1 := cv (i - l) (by omega)
        have c2 := y3 (i - l) (by omega)
        rw [show l + (i - l) = i by omega] at c1 c2
        refine ⟨Nat.mod_lt _ (by decide), by rw [t24 2 i (by omega)]; exact c1, ?_⟩
        rw [ht2, stI_ne (by omega)]
        exact c2
  · have g' : ¬ nI l + (20 : Int32) ≤ (600 : Int32) := by
      rw [show (20 : Int32) = nI 20 from rfl, nI_add]
      exact nle (b := 600) (by omega) (by omega) g
    refine AS_err (r := -1) h ?_ ?_
    · unfold gL_feed
      rw [h1, if_neg g']
    · unfold gM_feed
      rw [h2, if_neg g']
theorem a_end (v1 : Int32) : AS (gL_end v1) (gM_end v1) := fun xs D s h => by
  have eXB : XB = 1000000 := rfl
  obtain ⟨l, t, hl, h1, h2, h3⟩ := h.2.2.1
  have hin : ∀ u, gM_in v1.toInt64 (0 : Int64) ((nI l).toInt64) u = some (bz (decide (0 ≤ v1.toInt ∧ v1.toInt < (l : Int) + 1))) := fun u => by
    rw [m_in, Int32.toInt_toInt64, Int32.toInt_toInt64, nI_toInt (by omega), show (0 : Int64).toInt = 0 from rfl]
    congr 2
    exact decide_eq_decide.mpr ⟨fun z => by omega, fun z => by omega⟩
  by_cases g : 0 ≤ v1.toInt ∧ v1.toInt < (l : Int) + 1
  · obtain ⟨k, hk, rfl⟩ := of_inS g
    refine ⟨nI k, stI s 1 1 (nI k), stI (stI s 1 1 (nI k)) 294 5 (nI k), D, ?_, fun a ha => stI_fn (by omega), ?_, h.tap (fun a j hn => ?_) rfl ⟨k, t, by omega, ?_, stI_eq, fun i hi => ?_⟩⟩
    · unfold gL_end
      rw [h1, if_neg (nI_pos (by omega)), if_pos (nI_le hk (by omega))]
    · unfold gM_end
      rw [stI_ne (by omega), h2, hin, Option.bind_some, bz_if, if_pos g]
    · unfold pT1 at hn
      rw [stI_at, if_neg (by omega), stI_ne (by omega)]
    · rw [stI_ne (by omega), stI_eq]
    · rw [stI_ne (by omega), stI_ne (by omega), stI_ne (by omega), stI_ne (by omega)]
      exact h3 i (by omega)
  · refine AS_err (r := -1) h ?_ ?_
    · unfold gL_end
      rw [h1]
      by_cases n1 : v1 < 0
      · rw [if_pos n1]
      · rw [if_neg n1, if_neg (fun z => g (by
          rw [i_lt0] at n1
          rw [Int32.le_iff_toInt_le, nI_toInt (by omega)] at z
          omega))]
    · unfold gM_end
      rw [h2, hin, Option.bind_some, bz_if, if_neg g]
end TAPE
