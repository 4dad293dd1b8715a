/-! READING: a watcher's line -/
section WATCH
variable {l p q n k i a b : Nat} {T : Nat → Nat} {s s' t t' : mT} {xs : Nat → Int32} {D : RD}
theorem watch_line (h : GD xs l T s t) (hV : VDR D) (hR : RR 4 D s) (hM : MA (t.1 300) D) (h6 : D 6 0 < 5) : ∃ t1 s' t', gM_advance t = some t1 ∧ gD_readWatcherLine s = some s' ∧ gM_readWatcher t1 = some t' ∧ LN xs l T D s t s' t' := by
  have hd := hV.1.1
  have C3 : ∀ {u v : mT}, Fp pC3 u v → Fp pCd u v := fun h => h.wid (fun a k z => Or.inl z)
  have M3 : ∀ {u v : mT}, Fp pM3 u v → Fp pMd u v := fun h => h.wid (fun a k z => Or.inl z)
  have M4 : ∀ {u v : mT}, Fp (fun a _ => a = 300) u v → Fp pMd u v := fun h => h.wid (fun a k z => Or.inr z)
  have cs : ∀ {u v : mT} {a k : Nat}, 4 ≤ a → Fp pC3 u v → v.1 a k = u.1 a k := fun ha h => h.1 _ _ (fun z => by unfold pC3 at z; omega)
  have ms : ∀ {u v : mT} {k : Nat}, Fp pM3 u v → v.1 300 k = u.1 300 k := fun h => h.1 300 _ (fun z => by unfold pM3 at z; omega)
  have bI : (nI (D 5 0) - (1 : Int32)).toInt = (D 5 0 : Int) - 1 := n_pred (by omega)
  obtain ⟨s1, t1, a1, a2, a3, a4, a5⟩ := gd_tok h
  obtain ⟨v1, s2', s2, t2, b1, b2, b3, b4, b5, b6, b7⟩ := t_step2 (a := 9) (b := 24) (v1 := 1) (v2 := 9) (Or.inl a3) (by omega) (by omega) (by decide) (fun _ => by decide)
  obtain ⟨t3, ht3⟩ : ∃ t3, t3 = stI t2 300 (19 + 4 * D 6 0) v1 := ⟨_, rfl⟩
  have c2 : Fp (fun a _ => a = 300) t2 t3 := by rw [ht3]; exact Fp.st rfl
  obtain ⟨v2, s4', s4, t4, d1, d2, d3, d4, d5, d6, d7⟩ := t_step2 (a := 10) (b := 25) (v1 := 0) (v2 := nI (D 5 0) - 1) (qd_fp (qd_of b4) (P := fun _ _ => False) Fp.rfl' c2 (fun a k z => z.elim) (fun a k z => by omega)) (by omega) (by omega) (by decide) (fun _ => ⟨by decide, by rw [bI]; omega, by decide⟩)
  obtain ⟨t5, ht5⟩ : ∃ t5, t5 = stI t4 300 (19 + 4 * D 6 0 + 1) v2 := ⟨_, rfl⟩
  have e2 : Fp (fun a _ => a = 300) t4 t5 := by rw [ht5]; exact Fp.st rfl
  have r2f : s4.1 3 2 = 0 → 0 ≤ v2.toInt ∧ v2.toInt ≤ (D 5 0 : Int) - 1 := fun z => by
    have := (or_gd d4 z).2
    rw [bI] at this
    exact this
  obtain ⟨v3, s6', s6, t6, f1, f2, f3, f4, f5, f6, f7⟩ := t_step2 (a := 11) (b := 26) (v1 := v2) (v2 := nI (D 5 0) - 1) (qd_fp (qd_of d4) (P := fun _ _ => False) Fp.rfl' e2 (fun a k z => z.elim) (fun a k z => by omega)) (by omega) (by omega) (by decide) (fun z => by
    have := r2f z
    rw [bI]
    omega)
  obtain ⟨t7, ht7⟩ : ∃ t7, t7 = stI t6 300 (19 + 4 * D 6 0 + 2) v3 := ⟨_, rfl⟩
  have g2 : Fp (fun a _ => a = 300) t6 t7 := by rw [ht7]; exact Fp.st rfl
  have r3f : s6.1 3 2 = 0 → (0 ≤ v2.toInt ∧ v2.toInt ≤ (D 5 0 : Int) - 1) ∧ v2.toInt ≤ v3.toInt ∧ v3.toInt ≤ (D 5 0 : Int) - 1 := fun z => by
    have h1 := (or_gd f4 z).2
    have h2 := r2f (w_mono f1 (n_mono f2 z))
    rw [bI] at h1
    exact ⟨h2, h1⟩
  obtain ⟨v4, s8', s8, t8, j1, j2, j3, j4, j5, j6, j7⟩ := t_step2 (a := 12) (b := 27) (v1 := v2) (v2 := v3) (qd_fp (qd_of f4) (P := fun _ _ => False) Fp.rfl' g2 (fun a k z => z.elim) (fun a k z => by omega)) (by omega) (by omega) (by decide) (fun z => by
    have := r3f z
    omega)
  obtain ⟨t9, ht9⟩ : ∃ t9, t9 = stI (stI t8 300 (19 + 4 * D 6 0 + 3) v4) 300 5 (nI (D 6 0 + 1)) := ⟨_, rfl⟩
  have k2 : Fp (fun a _ => a = 300) t8 t9 := by rw [ht9]; exact (Fp.st (P := fun a _ => a = 300) rfl).tr (Fp.st rfl)
  have m1 : ∀ k, t1.1 300 k = t.1 300 k := fun k => ms a5
  have m5 : t1.1 300 5 = nI (D 6 0) := (m1 5).trans hM.1.2.2.2.2.2.1
  have m4 : t1.1 300 4 = nI (D 5 0) := (m1 4).trans hM.1.2.2.2.2.1
  have x16 : t5.1 300 (19 + 4 * D 6 0 + 1) = v2 := by rw [ht5, stI_eq]
  have x22 : t7.1 300 (19 + 4 * D 6 0 + 1) = v2 := by rw [ht7, stI_nk (by omega), ms f7]; exact x16
  have x24 : t7.1 300 (19 + 4 * D 6 0 + 2) = v3 := by rw [ht7, stI_eq]
  have m8 : ∀ k, k ≠ 19 + 4 * D 6 0 → k ≠ 19 + 4 * D 6 0 + 1 → k ≠ 19 + 4 * D 6 0 + 2 → t8.1 300 k = t.1 300 k := fun k h1 h2 h3 => by rw [ms j7, ht7, stI_nk h3, ms f7, ht5, stI_nk h2, ms d7, ht3, stI_nk h1, ms b7, ms a5]
  have fm : Fp pMd t t9 := (M3 a5).tr ((M3 b7).tr ((M4 c2).tr ((M3 d7).tr ((M4 e2).tr ((M3 f7).tr ((M4 g2).tr ((M3 j7).tr (M4 k2))))))))
  have fc : Fp pC3 s s8 := a4.tr (b6.tr (d6.tr (f6.tr j6)))
  have c6 : s8.1 4 6 = nI (D 6 0) := (cs (by omega) fc).trans hR.1.2.2.2.2.2.2.1
  obtain ⟨s9, hs9, fs9, vs9⟩ : ∃ s9, (if s8.1 3 2 = 0 then (gR_addWatcher 4 v1 v2 v3 v4 s8).bind fun p13 => some p13 else some s8) = some s9 ∧ Fp (fun a _ => 4 ≤ a ∧ a ≤ 15) s8 s9 ∧ (s8.1 3 2 = 0 → s9 = stI (stI (stI (stI (stI s8 7 (D 6 0) v1) 8 (D 6 0) v2) 9 (D 6 0) v3) 10 (D 6 0) v4) 4 6 (nI (D 6 0 + 1))) := by
    by_cases e : s8.1 3 2 = 0
    · refine ⟨stI (stI (stI (stI (stI s8 7 (D 6 0) v1) 8 (D 6 0) v2) 9 (D 6 0) v3) 10 (D 6 0) v4) 4 6 (nI (D 6 0 + 1)), ?_, ((((Fp.st (P := fun a _ => 4 ≤ a ∧ a ≤ 15) ⟨by omega, by omega⟩).tr (Fp.st ⟨by omega, by omega⟩)).tr (Fp.st ⟨by omega, by omega⟩)).tr (Fp.st ⟨by omega, by omega⟩)).tr (Fp.st ⟨by omega, by omega⟩), fun _ => rfl⟩
      rw [if_pos e]
      unfold gR_addWatcher
      rw [c6, show (5 : Int32) = nI 5 from rfl, if_neg (nle (by omega) (by omega) (by omega)), wr_n (by omega) (by omega), Option.bind_some, stI_ne (by omega), c6, wr_n (by omega) (by omega), Option.bind_some, stI_ne (by omega), stI_ne (by omega), c6, wr_n (by omega) (by omega), Option.bind_some, stI_ne (by omega), stI_ne (by omega), stI_ne (by omega), c6, wr_n (by omega) (by omega), Option.bind_some, stI_ne (by omega), stI_ne (by omega), stI_ne (by omega), stI_ne (by omega), c6, Option.bind_some, Option.bind_some, nI_1]
    · exact ⟨s8, if_neg e, Fp.rfl', fun z => absurd z e⟩
  refine ⟨t1, s9, t9, a2, ?_, ?_, (C3 fc).tr (fs9.wid (fun a k z => Or.inr z)), fm, qd_fp (qd_of j4) fs9 k2 (fun a k z => by omega) (fun a k z => by omega), fun h0 => ?_, ?_⟩
  · have e45 : ∀ {u : mT}, Fp pC3 s u → u.1 4 5 = nI (D 5 0) := fun hu => (cs (by omega) hu).trans hR.1.2.2.2.2.2.1
    unfold gD_readWatcherLine gD_takeKind
    rw [hR.1.2.2.2.2.2.2.1, show (5 : Int32) = nI 5 from rfl, if_pos (nI_lt h6 (by omega)), a1, Option.bind_some, Option.bind_some, Option.bind_some, show gD_takeWord (XB + 28) s1 = some s2' from b1, Option.bind_some, b2, Option.bind_some, show gD_takeWord (XB + 30) s2 = some s4' from d1, Option.bind_some, e45 (a4.tr (b6.tr d5)), d2, Option.bind_some, show gD_takeWord (XB + 32) s4 = some s6' from f1, Option.bind_some, e45 (a4.tr (b6.tr (d6.tr f5))), f2, Option.bind_some, show gD_takeWord (XB + 34) s6 = some s8' from j1, Option.bind_some, j2, Option.bind_some]
    dsimp only
    rw [hs9, Option.bind_some]
  · have i0 : (19 : Int32) + ((4 : Int32) * nI (D 6 0)) = nI (19 + 4 * D 6 0) := by rw [show (19 : Int32) = nI 19 from rfl, show (4 : Int32) = nI 4 from rfl, pk_mul, nI_add]
    have r5 : rdI (t1.1 300) 79 (5 : Int32) = some (nI (D 6 0)) := (rd_n (k := 5) (by omega) (by omega)).trans (congrArg some m5)
    have r4 : rdI (t1.1 300) 79 (4 : Int32) = some (nI (D 5 0)) := (rd_n (k := 4) (by omega) (by omega)).trans (congrArg some m4)
    have i2 : nI (19 + 4 * D 6 0) + (2 : Int32) = nI (19 + 4 * D 6 0 + 2) := nI_add _ 2
    have i3 : nI (19 + 4 * D 6 0) + (3 : Int32) = nI (19 + 4 * D 6 0 + 3) := nI_add _ 3
    have r5' : rdI ((stI t8 300 (19 + 4 * D 6 0 + 3) v4).1 300) 79 (5 : Int32) = some (nI (D 6 0)) := by
      refine (rd_n (k := 5) (by omega) (by omega)).trans ?_
      rw [stI_nk (by omega), m8 5 (by omega) (by omega) (by omega)]
      exact congrArg some hM.1.2.2.2.2.2.1
    unfold gM_readWatcher
    rw [r5, Option.bind_some, r4, Option.bind_some, show gM_told (XB + 58) (1 : Int32) (9 : Int32) t1 = some (v1, t2) from b3, Option.bind_some, i0, wr_n (by omega) (by omega), Option.bind_some, ← ht3, show gM_told (XB + 60) (0 : Int32) (nI (D 5 0) - (1 : Int32)) t3 = some (v2, t4) from d3, Option.bind_some, nI_1, wr_n (by omega) (by omega), Option.bind_some, ← ht5, rd_n (by omega) (by omega), Option.bind_some, x16, show gM_told (XB + 62) v2 (nI (D 5 0) - (1 : Int32)) t5 = some (v3, t6) from f3, Option.bind_some, i2, wr_n (by omega) (by omega), Option.bind_some, ← ht7, rd_n (by omega) (by omega), Option.bind_some, rd_n (by omega) (by omega), Option.bind_some, x22, x24, show gM_told (XB + 64) v2 v3 t7 = some (v4, t8) from j3, Option.bind_some, i3, wr_n (by omega) (by omega), Option.bind_some, r5', Option.bind_some, nI_1, show (5 : Int32) = nI 5 from rfl, wr_n (by omega) (by omega), Option.bind_some, ht9]
  · have h8' : s8.1 3 2 = 0 := by rw [fs9.1 3 2 (by omega)] at h0; exact h0
    obtain ⟨-, r4⟩ := or_gd j4 h8'
    have h6' := w_mono j1 (n_mono j2 h8')
    obtain ⟨r2, r3⟩ := r3f h6'
    have h4' := w_mono f1 (n_mono f2 h6')
    obtain ⟨-, r1⟩ := or_gd b4 (w_mono d1 (n_mono d2 h4'))
    obtain ⟨n1, rfl, n1a, n1b⟩ := i_in (lo := 1) (hi := 9) (by omega) r1.1 r1.2
    obtain ⟨n2, rfl, n2a, n2b⟩ := i_in (lo := 0) (hi := 60) (by omega) r2.1 (by omega)
    obtain ⟨n3, rfl, n3a, n3b⟩ := i_in (v := v3) (lo := 0) (hi := 60) (by omega) (by omega) (by omega)
    obtain ⟨n4, rfl, n4a, n4b⟩ := i_in (v := v4) (lo := 0) (hi := 60) (by omega) (by omega) (by omega)
    rw [nI_toInt (by omega)] at r2 r3 r4
    rw [nI_toInt (by omega)] at r3 r4
    have es9 := vs9 h8'
    have q3 : n3 < D 5 0 := by
      have := r3.2
      omega
    have q4 : n2 ≤ n4 ∧ n4 ≤ n3 := by
      rw [nI_toInt (by omega)] at r4
      omega
    refine ⟨dWa D n1 n2 n3 n4, VDwa hV h6 n1a n1b q4.1 q4.2 q3, rfl, RRwa hR hV.2.2 (fun a k h1 h2 h3 h4 => ?_) ?_ ?_ ?_ ?_ ?_, MAwa hM hV.1 h6 hV.2.2 (fun k hk h1 h2 => ?_) ?_ ?_ ?_ ?_ ?_⟩
    · rw [es9, stI_at, if_neg (by omega), stI_at, if_neg (by omega), stI_at, if_neg (by omega), stI_at, if_neg (by omega), stI_at, if_neg (by omega), cs h1 fc]
    · rw [es9, stI_ne (by omega), stI_ne (by omega), stI_ne (by omega), stI_ne (by omega), stI_eq]
    · rw [es9, stI_ne (by omega), stI_ne (by omega), stI_ne (by omega), stI_eq]
    · rw [es9, stI_ne (by omega), stI_ne (by omega), stI_eq]
    · rw [es9, stI_ne (by omega), stI_eq]
    · rw [es9, stI_eq]
    · rw [ht9, stI_nk h2, stI_nk (by omega), m8 k (by omega) (by omega) (by omega)]
    · rw [ht9, stI_nk (by omega), stI_nk (by omega), ms j7, ht7, stI_nk (by omega), ms f7, ht5, stI_nk (by omega), ms d7, ht3, stI_eq]
    · rw [ht9, stI_nk (by omega), stI_nk (by omega), ms j7]; exact x22
    · rw [ht9, stI_nk (by omega), stI_nk (by omega), ms j7]; exact x24
    · rw [ht9, stI_nk (by omega), stI_eq]
    · rw [ht9, stI_eq]
  · rw [ht9, stI_nk (by omega), stI_nk (by omega), m8 8 (by omega) (by omega) (by omega)]
end WATCH
