/-! IMAGES -/
section IMG
variable {n w o b a k m v v0 v1 : Nat} {s s' s'' : mT} {D D' : RD} {xs : Nat → Int32}
theorem copy_is (hV : VD D) (h : RR v1 D s) (hd : v1 + 12 ≤ v0 ∨ v0 + 12 ≤ v1) : ∃ s', gR_copyFrom v0 v1 s = some s' ∧ Fr v0 (v0 + 12) s s' ∧ RR v0 D s' := by
  obtain ⟨t, ht⟩ : ∃ t, t = stI (stI (stI (stI (stI (stI (stI (stI (stI s v0 0 (s.1 v1 0)) v0 1 (s.1 v1 1)) v0 2 (s.1 v1 2)) v0 3 (s.1 v1 3)) v0 4 (s.1 v1 4)) v0 5 (s.1 v1 5)) v0 6 (s.1 v1 6)) v0 7 (s.1 v1 7)) v0 8 (s.1 v1 8) := ⟨_, rfl⟩
  have ht2 : ∀ i, i < 9 → t.1 v0 i = s.1 v1 i := fun i hi => by
    rw [ht]
    match i, hi with
    | 0, _ => rw [stI_nk (by omega), stI_nk (by omega), stI_nk (by omega), stI_nk (by omega), stI_nk (by omega), stI_nk (by omega), stI_nk (by omega), stI_nk (by omega), stI_eq]
    | 1, _ => rw [stI_nk (by omega), stI_nk (by omega), stI_nk (by omega), stI_nk (by omega), stI_nk (by omega), stI_nk (by omega), stI_nk (by omega), stI_eq]
    | 2, _ => rw [stI_nk (by omega), stI_nk (by omega), stI_nk (by omega), stI_nk (by omega), stI_nk (by omega), stI_nk (by omega), stI_eq]
    | 3, _ => rw [stI_nk (by omega), stI_nk (by omega), stI_nk (by omega), stI_nk (by omega), stI_nk (by omega), stI_eq]
    | 4, _ => rw [stI_nk (by omega), stI_nk (by omega), stI_nk (by omega), stI_nk (by omega), stI_eq]
    | 5, _ => rw [stI_nk (by omega), stI_nk (by omega), stI_nk (by omega), stI_eq]
    | 6, _ => rw [stI_nk (by omega), stI_nk (by omega), stI_eq]
    | 7, _ => rw [stI_nk (by omega), stI_eq]
    | 8, _ => rw [stI_eq]
  have b0 : Fr v0 (v0 + 12) s t := by
    have f : ∀ {s : mT} {k : Nat} {x : Int32}, Fr v0 (v0 + 12) s (stI s v0 k x) := Fr.st (Nat.le_refl _) (by omega)
    rw [ht]
    exact f.tr (f.tr (f.tr (f.tr (f.tr (f.tr (f.tr (f.tr f)))))))
  obtain ⟨s1, c1, f1, k1⟩ := cp_n (s := t) (a := v1 + 1) (b := v0 + 1) (n := 5) (by omega)
  obtain ⟨s2, c2, f2, k2⟩ := cp_n (s := s1) (a := v1 + 2) (b := v0 + 2) (n := 5) (by omega)
  obtain ⟨s3, c3, f3, k3⟩ := cp_n (s := s2) (a := v1 + 3) (b := v0 + 3) (n := 5) (by omega)
  obtain ⟨s4, c4, f4, k4⟩ := cp_n (s := s3) (a := v1 + 4) (b := v0 + 4) (n := 5) (by omega)
  obtain ⟨s5, c5, f5, k5⟩ := cp_n (s := s4) (a := v1 + 5) (b := v0 + 5) (n := 5) (by omega)
  obtain ⟨s6, c6, f6, k6⟩ := cp_n (s := s5) (a := v1 + 6) (b := v0 + 6) (n := 5) (by omega)
  obtain ⟨s7, c7, f7, k7⟩ := cp_n (s := s6) (a := v1 + 7) (b := v0 + 7) (n := 5) (by omega)
  obtain ⟨s8, c8, f8, k8⟩ := cp_n (s := s7) (a := v1 + 8) (b := v0 + 8) (n := 5) (by omega)
  obtain ⟨s9, c9, f9, k9⟩ := cp_n (s := s8) (a := v1 + 9) (b := v0 + 9) (n := 30) (by omega)
  obtain ⟨s10, c10, f10, k10⟩ := cp_n (s := s9) (a := v1 + 10) (b := v0 + 10) (n := 30) (by omega)
  obtain ⟨s11, c11, f11, k11⟩ := cp_n (s := s10) (a := v1 + 11) (b := v0 + 11) (n := 30) (by omega)
  have b1 := b0.tr (f1.wid (lo' := v0) (hi' := v0 + 12) (by omega) (by omega))
  have b2 := b1.tr (f2.wid (lo' := v0) (hi' := v0 + 12) (by omega) (by omega))
  have b3 := b2.tr (f3.wid (lo' := v0) (hi' := v0 + 12) (by omega) (by omega))
  have b4 := b3.tr (f4.wid (lo' := v0) (hi' := v0 + 12) (by omega) (by omega))
  have b5 := b4.tr (f5.wid (lo' := v0) (hi' := v0 + 12) (by omega) (by omega))
  have b6 := b5.tr (f6.wid (lo' := v0) (hi' := v0 + 12) (by omega) (by omega))
  have b7 := b6.tr (f7.wid (lo' := v0) (hi' := v0 + 12) (by omega) (by omega))
  have b8 := b7.tr (f8.wid (lo' := v0) (hi' := v0 + 12) (by omega) (by omega))
  have b9 := b8.tr (f9.wid (lo' := v0) (hi' := v0 + 12) (by omega) (by omega))
  have b10 := b9.tr (f10.wid (lo' := v0) (hi' := v0 + 12) (by omega) (by omega))
  have b11 := b10.tr (f11.wid (lo' := v0) (hi' := v0 + 12) (by omega) (by omega))
  have a10 : Fr (v0 + 11) (v0 + 12) s10 s11 := f11
  have a9 := (f10.wid (lo' := v0 + 10) (hi' := v0 + 12) (by omega) (by omega)).tr (a10.wid (by omega) (by omega))
  have a8 := (f9.wid (lo' := v0 + 9) (hi' := v0 + 12) (by omega) (by omega)).tr (a9.wid (by omega) (by omega))
  have a7 := (f8.wid (lo' := v0 + 8) (hi' := v0 + 12) (by omega) (by omega)).tr (a8.wid (by omega) (by omega))
  have a6 := (f7.wid (lo' := v0 + 7) (hi' := v0 + 12) (by omega) (by omega)).tr (a7.wid (by omega) (by omega))
  have a5 := (f6.wid (lo' := v0 + 6) (hi' := v0 + 12) (by omega) (by omega)).tr (a6.wid (by omega) (by omega))
  have a4 := (f5.wid (lo' := v0 + 5) (hi' := v0 + 12) (by omega) (by omega)).tr (a5.wid (by omega) (by omega))
  have a3 := (f4.wid (lo' := v0 + 4) (hi' := v0 + 12) (by omega) (by omega)).tr (a4.wid (by omega) (by omega))
  have a2 := (f3.wid (lo' := v0 + 3) (hi' := v0 + 12) (by omega) (by omega)).tr (a3.wid (by omega) (by omega))
  have a1 := (f2.wid (lo' := v0 + 2) (hi' := v0 + 12) (by omega) (by omega)).tr (a2.wid (by omega) (by omega))
  have a0 := (f1.wid (lo' := v0 + 1) (hi' := v0 + 12) (by omega) (by omega)).tr (a1.wid (by omega) (by omega))
  have e1 : ∀ i, i < 5 → s11.1 (v0 + 1) i = s.1 (v1 + 1) i := fun i hi => by rw [a1.1 _ (by omega), k1 i hi, b0.1 _ (by omega)]
  have e2 : ∀ i, i < 5 → s11.1 (v0 + 2) i = s.1 (v1 + 2) i := fun i hi => by rw [a2.1 _ (by omega), k2 i hi, b1.1 _ (by omega)]
  have e3 : ∀ i, i < 5 → s11.1 (v0 + 3) i = s.1 (v1 + 3) i := fun i hi => by rw [a3.1 _ (by omega), k3 i hi, b2.1 _ (by omega)]
  have e4 : ∀ i, i < 5 → s11.1 (v0 + 4) i = s.1 (v1 + 4) i := fun i hi => by rw [a4.1 _ (by omega), k4 i hi, b3.1 _ (by omega)]
  have e5 : ∀ i, i < 5 → s11.1 (v0 + 5) i = s.1 (v1 + 5) i := fun i hi => by rw [a5.1 _ (by omega), k5 i hi, b4.1 _ (by omega)]
  have e6 : ∀ i, i < 5 → s11.1 (v0 + 6) i = s.1 (v1 + 6) i := fun i hi => by rw [a6.1 _ (by omega), k6 i hi, b5.1 _ (by omega)]
  have e7 : ∀ i, i < 5 → s11.1 (v0 + 7) i = s.1 (v1 + 7) i := fun i hi => by rw [a7.1 _ (by omega), k7 i hi, b6.1 _ (by omega)]
  have e8 : ∀ i, i < 5 → s11.1 (v0 + 8) i = s.1 (v1 + 8) i := fun i hi => by rw [a8.1 _ (by omega), k8 i hi, b7.1 _ (by omega)]
  have e9 : ∀ i, i < 30 → s11.1 (v0 + 9) i = s.1 (v1 + 9) i := fun i hi => by rw [a9.1 _ (by omega), k9 i hi, b8.1 _ (by omega)]
  have e10 : ∀ i, i < 30 → s11.1 (v0 + 10) i = s.1 (v1 + 10) i := fun i hi => by rw [a10.1 _ (by omega), k10 i hi, b9.1 _ (by omega)]
  have e11 : ∀ i, i < 30 → s11.1 (v0 + 11) i = s.1 (v1 + 11) i := fun i hi => by rw [k11 i hi, b10.1 _ (by omega)]
  have e0 : ∀ i, i < 9 → s11.1 v0 i = s.1 v1 i := fun i hi => by rw [a0.1 _ (by omega), ht2 i hi]
  obtain ⟨v1', v2', v3', v4', v5', v6', v7', v8', v9'⟩ := hV.1
  refine ⟨s11, ?_, b11, ?_⟩
  · unfold gR_copyFrom
    simp only [stI_ne (show v1 ≠ v0 by omega), Option.bind_some]
    rw [← ht, show (5 : Int32) = nI 5 from rfl, show (30 : Int32) = nI 30 from rfl, c1, Option.bind_some, c2, Option.bind_some, c3, Option.bind_some, c4, Option.bind_some, c5, Option.bind_some, c6, Option.bind_some, c7, Option.bind_some, c8, Option.bind_some, c9, Option.bind_some, c10, Option.bind_some, c11, Option.bind_some]
  · obtain ⟨⟨h1, h2, h3, h4, h5, h6, h7, h8, h9⟩, hB, hW, hS, hA⟩ := h
    refine ⟨⟨(e0 0 (by omega)).trans h1, (e0 1 (by omega)).trans h2, (e0 2 (by omega)).trans h3, (e0 3 (by omega)).trans h4, (e0 4 (by omega)).trans h5, (e0 5 (by omega)).trans h6, (e0 6 (by omega)).trans h7, (e0 7 (by omega)).trans h8, (e0 8 (by omega)).trans h9⟩, fun i hi => ?_, fun i hi => ?_, fun i hi => ?_, fun i hi => ?_⟩
    · rw [e1 i (by omega), e2 i (by omega)]; exact hB i hi
    · rw [e3 i (by omega), e4 i (by omega), e5 i (by omega), e6 i (by omega)]; exact hW i hi
    · rw [e7 i (by omega), e8 i (by omega)]; exact hS i hi
    · rw [e9 i (by omega), e10 i (by omega), e11 i (by omega)]; exact hA i hi
theorem MA.cg {f f' : Nat → Int32} (h : MA f D) (hV : VD D) (he : ∀ i, i < 79 → f' i = f i) : MA f' D := by
  obtain ⟨v1', v2', v3', v4', v5', v6', v7', v8', v9'⟩ := hV.1
  obtain ⟨⟨h1, h2, h3, h4, h5, h6, h7, h8, h9⟩, hB, hW, hS, hA⟩ := h
  refine ⟨⟨(he 0 (by omega)).trans h1, (he 1 (by omega)).trans h2, (he 2 (by omega)).trans h3, (he 3 (by omega)).trans h4, (he 4 (by omega)).trans h5, (he 5 (by omega)).trans h6, (he 6 (by omega)).trans h7, (he 7 (by omega)).trans h8, (he 8 (by omega)).trans h9⟩, fun i hi => ?_, fun i hi => ?_, fun i hi => ?_, fun i hi => ?_⟩
  · rw [he _ (by omega), he _ (by omega)]; exact hB i hi
  · rw [he _ (by omega), he _ (by omega), he _ (by omega), he _ (by omega)]; exact hW i hi
  · rw [he _ (by omega), he _ (by omega)]; exact hS i hi
  · rw [he _ (by omega)]; exact hA i hi
theorem m_image (hk : k < 3) : ∃ s', wh FU (gM_image_h17 (nI k)) ((0 : Int32), s) = some s' ∧ Fp (fun a j => a = 296 ∧ 79 * k ≤ j ∧ j < 79 * k + 79) s s' ∧ ∀ i, i < 79 → s'.1 296 (79 * k + i) = s.1 295 i := by
  have := wh_cnt (f := gM_image_h17 (nI k)) (fun j t => Fp (fun a j => a = 296 ∧ 79 * k ≤ j ∧ j < 79 * k + 79) s t ∧ ∀ i, i < j → t.1 296 (79 * k + i) = s.1 295 i) (fun t => Fp (fun a j => a = 296 ∧ 79 * k ≤ j ∧ j < 79 * k + 79) s t ∧ ∀ i, i < 79 → t.1 296 (79 * k + i) = s.1 295 i) 0 79 (by omega) (fun j _ hj t hI => by
    obtain ⟨i1, i2⟩ := hI
    refine ⟨stI t 296 (79 * k + j) (s.1 295 j), ?_, i1.tr (Fp.st ⟨rfl, by omega, by omega⟩), fun i hi => ?_⟩
    · unfold gM_image_h17
      dsimp only
      rw [show (79 : Int32) = nI 79 from rfl, if_neg (nle (by omega) (by omega) (by omega)), rd_n (by omega) (by omega), Option.bind_some, pk_mul, nI_add, wr_n (by omega) (by omega), Option.bind_some, nI_1, i1.1 295 j (fun z => absurd z.1 (by omega))]
    · by_cases e : i = j
      · subst e; exact stI_eq
      · rw [stI_nk (by omega)]; exact i2 i (by omega)) (fun t hI => ⟨t, rfl, hI⟩) (s := s) ⟨Fp.rfl', fun i hi => absurd hi (Nat.not_lt_zero _)⟩ (i := (0 : Int32)) rfl FU (FU_gt (by omega))
  exact this
theorem m_back (hk : k < 3) : ∃ s', wh FU (gM_back_h29 (nI k)) ((0 : Int32), s) = some s' ∧ Fp (fun a _ => a = 295) s s' ∧ ∀ i, i < 79 → s'.1 295 i = s.1 296 (79 * k + i) := by
  have := wh_cnt (f := gM_back_h29 (nI k)) (fun j t => Fp (fun a _ => a = 295) s t ∧ ∀ i, i < j → t.1 295 i = s.1 296 (79 * k + i)) (fun t => Fp (fun a _ => a = 295) s t ∧ ∀ i, i < 79 → t.1 295 i = s.1 296 (79 * k + i)) 0 79 (by omega) (fun j _ hj t hI => by
    obtain ⟨i1, i2⟩ := hI
    refine ⟨stI t 295 j (s.1 296 (79 * k + j)), ?_, i1.tr (Fp.st rfl), fun i hi => ?_⟩
    · unfold gM_back_h29
      dsimp only
      rw [show (79 : Int32) = nI 79 from rfl, if_neg (nle (by omega) (by omega) (by omega)), pk_mul, nI_add, rd_n (by omega) (by omega), Option.bind_some, wr_n (by omega) (by omega), Option.bind_some, nI_1, i1.1 296 _ (show ¬ (296 : Nat) = 295 by omega)]
    · by_cases e : i = j
      · subst e; exact stI_eq
      · rw [stI_nk (by omega)]; exact i2 i (by omega)) (fun t hI => ⟨t, rfl, hI⟩) (s := s) ⟨Fp.rfl', fun i hi => absurd hi (Nat.not_lt_zero _)⟩ (i := (0 : Int32)) rfl FU (FU_gt (by omega))
  exact this
theorem IV.img (h : IV xs D s) (hf : ∀ a, (a < 248 ∨ 285 ≤ a) → a ≠ 296 → a ≠ 297 → s'.1 a = s.1 a) (h2 : s'.2 = s.2) (hi : ∀ k, k < 3 → IMI k s') : IV xs D s' := by
  obtain ⟨⟨i1, i2, i3⟩, ⟨i4, i5⟩, i6, i7, i8, i9, i10, i11, i12⟩ := h
  have eXB : XB = 1000000 := rfl
  refine ⟨⟨i1, i2.cg (fun a h1 h2 => hf a (by omega) (by omega) (by omega)), ?_⟩, ⟨i4.cg i1 (fun a h1 h2 => hf a (by omega) (by omega) (by omega)), i5.cg i1.1.1 (fun a h1 h2 => hf a (by omega) (by omega) (by omega))⟩, ?_, ?_, hi, fun l hl => ?_, ?_, ?_, fun a ha => ?_⟩
  · rw [hf 295 (by omega) (by omega) (by omega)]; exact i3
  · unfold TPI
    rw [hf 294 (by omega) (by omega) (by omega), hf 1 (by omega) (by omega) (by omega), hf 2 (by omega) (by omega) (by omega), hf 298 (by omega) (by omega) (by omega)]
    exact i6
  · rw [hf 294 (by omega) (by omega) (by omega), hf 3 (by omega) (by omega) (by omega)]; exact i7
  · have := i9 l hl
    unfold SLI at this ⊢
    rw [hf (286 + 2 * l) (by omega) (by omega) (by omega), hf 313 (by omega) (by omega) (by omega), hf 314 (by omega) (by omega) (by omega), h2]
    exact this
  · unfold SVI at i10 ⊢
    rw [hf 214 (by omega) (by omega) (by omega), hf 215 (by omega) (by omega) (by omega), hf 216 (by omega) (by omega) (by omega), hf 217 (by omega) (by omega) (by omega), hf 218 (by omega) (by omega) (by omega)]
    rcases i10 with h | ⟨h1, h2⟩
    · exact Or.inl h
    · refine Or.inr ⟨h1, fun b hb => ?_⟩
      have hB := i1.1.2.2.2.2.2.1
      rw [hf (220 + b) (by omega) (by omega) (by omega)]
      exact h2 b hb
  · unfold SNI at i11 ⊢
    rw [hf 225 (by omega) (by omega) (by omega), h2]
    rcases i11 with h | ⟨l, n, hl, h1, h2, h3, h4, h5⟩
    · exact Or.inl h
    · refine Or.inr ⟨l, n, hl, h1, h2, ?_⟩
      have hW := i1.1.2.2.2.2.2.2.1
      rw [hf (286 + 2 * l) (by omega) (by omega) (by omega)]
      refine ⟨h3, h4, fun w b hw hb => ?_⟩
      rw [hf (227 + w) (by omega) (by omega) (by omega)]
      exact h5 w b hw hb
  · rw [hf a (by omega) (by omega) (by omega)]; exact i12 a ha
theorem i_lt3 (v1 : Int32) : (¬ v1 < 0 ∧ v1 < (3 : Int32)) ↔ (0 ≤ v1.toInt ∧ v1.toInt < (3 : Nat)) := by
  rw [i_lt0, Int32.lt_iff_toInt_lt, show (3 : Int32).toInt = 3 from rfl]
  omega
theorem m_in02 {v : Int32} : gM_in v.toInt64 (0 : Int64) (2 : Int64) s = some (bz (decide (0 ≤ v.toInt ∧ v.toInt < (3 : Nat)))) := m_in0 (hi := 2) (by omega)
theorem a_image (v1 : Int32) : AS (gL_image v1) (gM_image v1) := fun xs D s h => by
  by_cases g : 0 ≤ v1.toInt ∧ v1.toInt < (3 : Nat)
  · have g' := (i_lt3 v1).mpr g
    obtain ⟨k, hk, rfl⟩ := of_in g
    obtain ⟨s1, f1, f2, f3⟩ := copy_is (v0 := 249 + 12 * k) (v1 := 16) h.V h.R (by omega)
    obtain ⟨t1, ht1⟩ : ∃ t1, t1 = stI s1 248 k (1 : Int32) := ⟨_, rfl⟩
    have ft : ∀ a, a ≠ 248 → (a < 249 + 12 * k ∨ 249 + 12 * k + 12 ≤ a) → t1.1 a = s.1 a := fun a h1 h2 => by rw [ht1, stI_fn h1, f2.1 a h2]
    have ft8 : ∀ i, i ≠ k → t1.1 248 i = s.1 248 i := fun i hi => by rw [ht1, stI_nk hi, f2.1 248 (by omega)]
    have ft2 : t1.2 = s.2 := by rw [ht1]; exact f2.2
    obtain ⟨s2, y1, y2, y3⟩ := m_image (s := t1) hk
    obtain ⟨t2, ht2⟩ : ∃ t2, t2 = stI s2 297 k (1 : Int32) := ⟨_, rfl⟩
    have gt : ∀ a, a ≠ 296 → a ≠ 297 → t2.1 a = t1.1 a := fun a h1 h2 => by rw [ht2, stI_fn h2]; exact y2.fn (fun j z => h1 z.1)
    have gt2 : t2.2 = s.2 := by rw [ht2]; exact y2.2.trans ft2
    have eXB : XB = 1000000 := rfl
    refine ⟨0, t1, t2, D, ?_, fun a ha => ft a (by omega) (by omega), ?_, h.img (fun a h1 h2 h3 => by rw [gt a h2 h3, ft a (by omega) (by omega)]) gt2 (fun j hj => ?_)⟩
    · unfold gL_image
      rw [if_neg g'.1, if_pos g'.2, ix_ite (by omega) (by omega), nI_clamp (by omega), f1, Option.bind_some, wr_n (by omega) (by omega), Option.bind_some, ht1]
      rfl
    · unfold gM_image
      rw [m_in02, Option.bind_some, bz_if, if_pos g, y1, Option.bind_some, wr_n (by omega) (by omega), Option.bind_some, ht2]
      rfl
    · by_cases e : j = k
      · subst e
        right
        refine ⟨by rw [gt 248 (by omega) (by omega), ht1]; exact stI_eq, by rw [ht2]; exact stI_eq, D, h.V, f3.cg (fun a h1 h2 => by rw [gt a (by omega) (by omega), ht1, stI_fn (by omega)]), ?_⟩
        refine h.M.cg h.V (fun i hi => ?_)
        rw [ht2, stI_ne (by omega), y3 i hi, ft 295 (by omega) (by omega)]
      · have e8 : t2.1 248 j = s.1 248 j := by rw [gt 248 (by omega) (by omega), ft8 j e]
        have e7 : t2.1 297 j = s.1 297 j := by rw [ht2, stI_nk e, y2.1 297 j (fun z => absurd z.1 (by omega)), ft 297 (by omega) (by omega)]
        rcases h.2.2.2.2.1 j hj with z | ⟨z1, z2, D1, z3, z4, z5⟩
        · left; rw [e8, e7]; exact z
        · right
          refine ⟨by rw [e8]; exact z1, by rw [e7]; exact z2, D1, z3, z4.cg (fun a h1 h2 => by rw [gt a (by omega) (by omega), ft a (by omega) (by omega)]), z5.cg z3 (fun i hi => ?_)⟩
          rw [ht2, stI_ne (by omega), y2.1 296 _ (fun z => by omega), ft 296 (by omega) (by omega)]
  · refine AS_err (r := -2) h ?_ ?_
    · unfold gL_image
      by_cases h1 : v1 < 0
      · rw [if_pos h1]
      · rw [if_neg h1, if_neg (fun z => g ((i_lt3 v1).mp ⟨h1, z⟩))]
    · unfold gM_image
      rw [m_in02, Option.bind_some, bz_if, if_neg g]
theorem a_back (v1 : Int32) : AS (gL_back v1) (gM_back v1) := fun xs D s h => by
  by_cases g : 0 ≤ v1.toInt ∧ v1.toInt < (3 : Nat)
  · have g' := (i_lt3 v1).mpr g
    obtain ⟨k, hk, rfl⟩ := of_in g
    rcases h.2.2.2.2.1 k hk with ⟨z1, z2⟩ | ⟨z1, z2, D1, z3, z4, z5⟩
    · refine AS_err (r := -6) h ?_ ?_
      · unfold gL_back
        rw [if_neg g'.1, if_pos g'.2, rd_n (by omega) (by omega), Option.bind_some, z1, if_pos rfl]
      · unfold gM_back
        rw [m_in02, Option.bind_some, bz_if, if_pos g, rd_n (by omega) (by omega), Option.bind_some, z2, if_pos rfl]
    · obtain ⟨s1, f1, f2, f3⟩ := copy_is (v0 := 16) (v1 := 249 + 12 * k) z3 z4 (by omega)
      refine AS_chg (D' := D1) (r := 0) (t := s1) h z3 (KZ.ofr f2 (fun a k h1 h2 => by unfold pZq; omega)) (f2.1 295 (by omega)) f3 (fun s1 q1 q2 => ?_) (fun s2 hs => ?_)
      · unfold gL_back
        rw [if_neg g'.1, if_pos g'.2, rd_n (by omega) (by omega), Option.bind_some, z1, if_neg (by decide), ix_ite (by omega) (by omega), nI_clamp (by omega), f1, Option.bind_some, q1, Option.bind_some]
      · obtain ⟨s3, y1, y2, y3⟩ := m_back (s := s2) hk
        refine ⟨s3, ?_, y2.wid (fun a k z => Or.inl z), z5.cg z3 (fun i hi => ?_)⟩
        · unfold gM_back
          rw [m_in02, Option.bind_some, bz_if, if_pos g, rd_n (by omega) (by omega), Option.bind_some, hs 297 (by omega), f2.1 297 (by omega), z2, if_neg (by decide), y1, Option.bind_some]
        · rw [y3 i hi, hs 296 (by omega), f2.1 296 (by omega)]
  · refine AS_err (r := -2) h ?_ ?_
    · unfold gL_back
      by_cases h1 : v1 < 0
      · rw [if_pos h1]
      · rw [if_neg h1, if_neg (fun z => g ((i_lt3 v1).mp ⟨h1, z⟩))]
    · unfold gM_back
      rw [m_in02, Option.bind_some, bz_if, if_neg g]
end IMG
