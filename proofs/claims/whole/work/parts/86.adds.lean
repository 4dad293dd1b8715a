/-! READING: a line of a boat, a watcher, a show -/
def LN (xs : Nat → Int32) (l : Nat) (T : Nat → Nat) (D : RD) (s t s' t' : mT) : Prop := Fp pCd s s' ∧ Fp pMd t t' ∧ QD xs l T s' t' ∧ (s'.1 3 2 = 0 → ∃ D', VDR D' ∧ D' 4 0 = D 4 0 + 1 ∧ RR 4 (dL D' (D 4 0)) s' ∧ MA (t'.1 300) (dL D' (D 4 0))) ∧ t'.1 300 8 = t.1 300 8
section ADDS
variable {l p q n k i a b : Nat} {T : Nat → Nat} {s s' t t' : mT} {xs : Nat → Int32} {D : RD}
theorem t_step2 {v1 v2 : Int32} (h : QD xs l T s t) (ha : a < 28) (hb : b < 28) (he : xT a = xT b) (hg : s.1 3 2 = 0 → v1.toInt ≤ 60 ∧ v2.toInt ≤ 60 ∧ 0 ≤ v1.toInt) : ∃ v s1 s' t', gD_takeWord (XB + 10 + 2 * a) s = some s1 ∧ gD_takeNumber v1 v2 s1 = some (v, s') ∧ gM_told (XB + 10 + 2 * b) v1 v2 t = some (v, t') ∧ ((GD xs l T s' t' ∧ v1.toInt ≤ v.toInt ∧ v.toInt ≤ v2.toInt) ∨ BDq xs l T s' t') ∧ Fp pC3 s s1 ∧ Fp pC3 s s' ∧ Fp pM3 t t' := by
  rcases h with h | h
  · obtain ⟨h1, h2, h0⟩ := hg h.2.1.1
    exact t_step (Or.inl h) ha hb he h1 h2 h0
  · refine ⟨0, s, s, t, ?_, ?_, ?_, Or.inr h, Fp.rfl', Fp.rfl', Fp.rfl'⟩
    · unfold gD_takeWord
      rw [if_neg h.2.2.1]
    · unfold gD_takeNumber
      rw [if_neg h.2.2.1]
    · unfold gM_told gM_needs gM_takes gM_number
      rw [bd_is h hb, Option.bind_some, if_pos rfl, Option.bind_some, if_pos (Or.inl rfl), Option.bind_some]
      dsimp only
      rw [if_pos rfl, bd_errs h, Option.bind_some, Option.bind_some, Option.bind_some, bd_good h, Option.bind_some, if_pos rfl, Option.bind_some, bd_good h, Option.bind_some, if_pos rfl, Option.bind_some, bd_good h, Option.bind_some, if_pos rfl, Option.bind_some]
theorem boat_line (h : GD xs l T s t) (hV : VDR D) (hR : RR 4 D s) (hM : MA (t.1 300) D) (h5 : D 5 0 < 5) : ∃ t1 s' t', gM_advance t = some t1 ∧ gD_readBoatLine s = some s' ∧ ((rdI (t1.1 300) 79 (4 : Int32)).bind fun x56 => (gM_told (XB + 54) (0 : Int32) (30 : Int32) t1).bind fun p59 => (wrI p59.2 300 79 ((9 : Int32) + ((2 : Int32) * x56)) p59.1).bind fun s60 => (gM_told (XB + 56) (1 : Int32) (9 : Int32) s60).bind fun p63 => (wrI p63.2 300 79 (((9 : Int32) + ((2 : Int32) * x56)) + (1 : Int32)) p63.1).bind fun s64 => (rdI (s64.1 300) 79 (4 : Int32)).bind fun x66 => (wrI s64 300 79 (4 : Int32) (x66 + (1 : Int32))).bind fun s67 => some s67) = some t' ∧ LN xs l T D s t s' t' := by
  have hd := hV.1.1
  have C3 : ∀ {u v : mT}, Fp pC3 u v → Fp pCd u v := fun h => h.wid (fun a k z => Or.inl z)
  have M3 : ∀ {u v : mT}, Fp pM3 u v → Fp pMd u v := fun h => h.wid (fun a k z => Or.inl z)
  have M4 : ∀ {u v : mT}, Fp (fun a _ => a = 300) u v → Fp pMd u v := fun h => h.wid (fun a k z => Or.inr z)
  have cs : ∀ {u v : mT} {a k : Nat}, 4 ≤ a → Fp pC3 u v → v.1 a k = u.1 a k := fun ha h => h.1 _ _ (fun z => by unfold pC3 at z; omega)
  have ms : ∀ {u v : mT} {k : Nat}, Fp pM3 u v → v.1 300 k = u.1 300 k := fun h => h.1 300 _ (fun z => by unfold pM3 at z; omega)
  obtain ⟨s1, t1, a1, a2, a3, a4, a5⟩ := gd_tok h
  obtain ⟨v1, s2', s2, t2, b1, b2, b3, b4, b5, b6, b7⟩ := t_step2 (a := 6) (b := 22) (v1 := 0) (v2 := 30) (Or.inl a3) (by omega) (by omega) (by decide) (fun _ => by decide)
  obtain ⟨t3, ht3⟩ : ∃ t3, t3 = stI t2 300 (9 + 2 * D 5 0) v1 := ⟨_, rfl⟩
  have c2 : Fp (fun a _ => a = 300) t2 t3 := by rw [ht3]; exact Fp.st rfl
  obtain ⟨v2, s4', s4, t4, d1, d2, d3, d4, d5, d6, d7⟩ := t_step2 (a := 7) (b := 23) (v1 := 1) (v2 := 9) (qd_fp (qd_of b4) (P := fun _ _ => False) Fp.rfl' c2 (fun a k z => z.elim) (fun a k z => by omega)) (by omega) (by omega) (by decide) (fun _ => by decide)
  obtain ⟨t5, ht5⟩ : ∃ t5, t5 = stI (stI t4 300 (9 + 2 * D 5 0 + 1) v2) 300 4 (nI (D 5 0 + 1)) := ⟨_, rfl⟩
  have e2 : Fp (fun a _ => a = 300) t4 t5 := by rw [ht5]; exact (Fp.st (P := fun a _ => a = 300) rfl).tr (Fp.st rfl)
  have m1 : t1.1 300 4 = nI (D 5 0) := (ms a5).trans hM.1.2.2.2.2.1
  have m4 : t4.1 300 4 = nI (D 5 0) := by rw [ms d7, ht3, stI_nk (by omega), ms b7]; exact m1
  have fm : Fp pMd t t5 := (M3 a5).tr ((M3 b7).tr ((M4 c2).tr ((M3 d7).tr (M4 e2))))
  have fc : Fp pC3 s s4 := a4.tr (b6.tr d6)
  have c5 : s4.1 4 5 = nI (D 5 0) := (cs (by omega) fc).trans hR.1.2.2.2.2.2.1
  obtain ⟨s5, hs5, fs5, vs5⟩ : ∃ s5, (if s4.1 3 2 = 0 then (gR_addBoat 4 v1 v2 s4).bind fun p13 => some p13 else some s4) = some s5 ∧ Fp (fun a _ => 4 ≤ a ∧ a ≤ 15) s4 s5 ∧ (s4.1 3 2 = 0 → s5 = stI (stI (stI s4 5 (D 5 0) v1) 6 (D 5 0) v2) 4 5 (nI (D 5 0 + 1))) := by
    by_cases e : s4.1 3 2 = 0
    · refine ⟨stI (stI (stI s4 5 (D 5 0) v1) 6 (D 5 0) v2) 4 5 (nI (D 5 0 + 1)), ?_, ((Fp.st (P := fun a _ => 4 ≤ a ∧ a ≤ 15) ⟨by omega, by omega⟩).tr (Fp.st ⟨by omega, by omega⟩)).tr (Fp.st ⟨by omega, by omega⟩), fun _ => rfl⟩
      rw [if_pos e]
      unfold gR_addBoat
      rw [c5, show (5 : Int32) = nI 5 from rfl, if_neg (nle (by omega) (by omega) (by omega)), wr_n (by omega) (by omega), Option.bind_some, stI_ne (by omega), c5, wr_n (by omega) (by omega), Option.bind_some, stI_ne (by omega), stI_ne (by omega), c5, Option.bind_some, Option.bind_some, nI_1]
    · exact ⟨s4, if_neg e, Fp.rfl', fun z => absurd z e⟩
  refine ⟨t1, s5, t5, a2, ?_, ?_, (C3 fc).tr (fs5.wid (fun a k z => Or.inr z)), fm, qd_fp (qd_of d4) fs5 e2 (fun a k z => by omega) (fun a k z => by omega), fun h0 => ?_, ?_⟩
  · unfold gD_readBoatLine gD_takeKind
    rw [hR.1.2.2.2.2.2.1, show (5 : Int32) = nI 5 from rfl, if_pos (nI_lt h5 (by omega)), a1, Option.bind_some, Option.bind_some, Option.bind_some, show gD_takeWord (XB + 22) s1 = some s2' from b1, Option.bind_some, b2, Option.bind_some, show gD_takeWord (XB + 24) s2 = some s4' from d1, Option.bind_some, d2, Option.bind_some]
    dsimp only
    rw [hs5, Option.bind_some]
  · rw [show (4 : Int32) = nI 4 from rfl, rd_n (by omega) (by omega), Option.bind_some, m1, show gM_told (XB + 54) (0 : Int32) (30 : Int32) t1 = some (v1, t2) from b3, Option.bind_some, show (9 : Int32) + ((2 : Int32) * nI (D 5 0)) = nI (9 + 2 * D 5 0) by rw [show (9 : Int32) = nI 9 from rfl, show (2 : Int32) = nI 2 from rfl, pk_mul, nI_add], wr_n (by omega) (by omega), Option.bind_some, ← ht3, show gM_told (XB + 56) (1 : Int32) (9 : Int32) t3 = some (v2, t4) from d3, Option.bind_some, nI_1, wr_n (by omega) (by omega), Option.bind_some, rd_n (by omega) (by omega), Option.bind_some, stI_nk (by omega), m4, nI_1, wr_n (by omega) (by omega), Option.bind_some, ht5]
  · have h4' : s4.1 3 2 = 0 := by rw [fs5.1 3 2 (by omega)] at h0; exact h0
    obtain ⟨-, r2⟩ := or_gd d4 h4'
    obtain ⟨-, r1⟩ := or_gd b4 (w_mono d1 (n_mono d2 h4'))
    obtain ⟨n1, rfl, n1a, n1b⟩ := i_in (lo := 0) (hi := 30) (by omega) r1.1 r1.2
    obtain ⟨n2, rfl, n2a, n2b⟩ := i_in (lo := 1) (hi := 9) (by omega) r2.1 r2.2
    have es5 := vs5 h4'
    refine ⟨dBo D n1 n2, VDbo hV h5 n1b n2a n2b, rfl, RRbo hR hV.2.2 (fun a k h1 h2 h3 h4 => ?_) ?_ ?_ ?_, MAbo hM hV.1 h5 hV.2.2 (fun k hk h1 h2 h3 => ?_) ?_ ?_ ?_⟩
    · rw [es5, stI_at, if_neg (by omega), stI_at, if_neg (by omega), stI_at, if_neg (by omega), cs h1 fc]
    · rw [es5, stI_ne (by omega), stI_ne (by omega), stI_eq]
    · rw [es5, stI_ne (by omega), stI_eq]
    · rw [es5, stI_eq]
    · rw [ht5, stI_nk h3, stI_nk h2, ms d7, ht3, stI_nk h1, ms b7, ms a5]
    · rw [ht5, stI_nk (by omega), stI_nk (by omega), ms d7, ht3, stI_eq]
    · rw [ht5, stI_nk (by omega), stI_eq]
    · rw [ht5, stI_eq]
  · rw [ht5, stI_nk (by omega), stI_nk (by omega), ms d7, ht3, stI_nk (by omega), ms b7, ms a5]
theorem show_line (h : GD xs l T s t) (hV : VDR D) (hR : RR 4 D s) (hM : MA (t.1 300) D) (h7 : D 7 0 < 5) : ∃ t1 s' t', gM_advance t = some t1 ∧ gD_readShowLine s = some s' ∧ ((rdI (t1.1 300) 79 (6 : Int32)).bind fun x43 => (gM_number (1 : Int32) (9 : Int32) t1).bind fun p45 => (wrI p45.2 300 79 ((39 : Int32) + ((2 : Int32) * x43)) p45.1).bind fun s46 => (gM_told (XB + 54) (0 : Int32) (19 : Int32) s46).bind fun p49 => (wrI p49.2 300 79 (((39 : Int32) + ((2 : Int32) * x43)) + (1 : Int32)) p49.1).bind fun s50 => (rdI (s50.1 300) 79 (6 : Int32)).bind fun x52 => (wrI s50 300 79 (6 : Int32) (x52 + (1 : Int32))).bind fun s53 => some s53) = some t' ∧ LN xs l T D s t s' t' := by
  have hd := hV.1.1
  have C3 : ∀ {u v : mT}, Fp pC3 u v → Fp pCd u v := fun h => h.wid (fun a k z => Or.inl z)
  have M3 : ∀ {u v : mT}, Fp pM3 u v → Fp pMd u v := fun h => h.wid (fun a k z => Or.inl z)
  have M4 : ∀ {u v : mT}, Fp (fun a _ => a = 300) u v → Fp pMd u v := fun h => h.wid (fun a k z => Or.inr z)
  have cs : ∀ {u v : mT} {a k : Nat}, 4 ≤ a → Fp pC3 u v → v.1 a k = u.1 a k := fun ha h => h.1 _ _ (fun z => by unfold pC3 at z; omega)
  have ms : ∀ {u v : mT} {k : Nat}, Fp pM3 u v → v.1 300 k = u.1 300 k := fun h => h.1 300 _ (fun z => by unfold pM3 at z; omega)
  obtain ⟨s1, t1, a1, a2, a3, a4, a5⟩ := gd_tok h
  obtain ⟨v1, s2, t2, b2, b3, b4, b6, b7⟩ := n_step (v1 := 1) (v2 := 9) (Or.inl a3) (by decide) (by decide) (by decide)
  obtain ⟨t3, ht3⟩ : ∃ t3, t3 = stI t2 300 (39 + 2 * D 7 0) v1 := ⟨_, rfl⟩
  have c2 : Fp (fun a _ => a = 300) t2 t3 := by rw [ht3]; exact Fp.st rfl
  obtain ⟨v2, s4', s4, t4, d1, d2, d3, d4, d5, d6, d7⟩ := t_step2 (a := 6) (b := 22) (v1 := 0) (v2 := 19) (qd_fp (qd_of b4) (P := fun _ _ => False) Fp.rfl' c2 (fun a k z => z.elim) (fun a k z => by omega)) (by omega) (by omega) (by decide) (fun _ => by decide)
  obtain ⟨t5, ht5⟩ : ∃ t5, t5 = stI (stI t4 300 (39 + 2 * D 7 0 + 1) v2) 300 6 (nI (D 7 0 + 1)) := ⟨_, rfl⟩
  have e2 : Fp (fun a _ => a = 300) t4 t5 := by rw [ht5]; exact (Fp.st (P := fun a _ => a = 300) rfl).tr (Fp.st rfl)
  have m1 : t1.1 300 6 = nI (D 7 0) := (ms a5).trans hM.1.2.2.2.2.2.2.1
  have m4 : t4.1 300 6 = nI (D 7 0) := by rw [ms d7, ht3, stI_nk (by omega), ms b7]; exact m1
  have fm : Fp pMd t t5 := (M3 a5).tr ((M3 b7).tr ((M4 c2).tr ((M3 d7).tr (M4 e2))))
  have fc : Fp pC3 s s4 := a4.tr (b6.tr d6)
  have c5 : s4.1 4 7 = nI (D 7 0) := (cs (by omega) fc).trans hR.1.2.2.2.2.2.2.2.1
  obtain ⟨s5, hs5, fs5, vs5⟩ : ∃ s5, (if s4.1 3 2 = 0 then (gR_addShow 4 v1 v2 s4).bind fun p13 => some p13 else some s4) = some s5 ∧ Fp (fun a _ => 4 ≤ a ∧ a ≤ 15) s4 s5 ∧ (s4.1 3 2 = 0 → s5 = stI (stI (stI s4 11 (D 7 0) v1) 12 (D 7 0) v2) 4 7 (nI (D 7 0 + 1))) := by
    by_cases e : s4.1 3 2 = 0
    · refine ⟨stI (stI (stI s4 11 (D 7 0) v1) 12 (D 7 0) v2) 4 7 (nI (D 7 0 + 1)), ?_, ((Fp.st (P := fun a _ => 4 ≤ a ∧ a ≤ 15) ⟨by omega, by omega⟩).tr (Fp.st ⟨by omega, by omega⟩)).tr (Fp.st ⟨by omega, by omega⟩), fun _ => rfl⟩
      rw [if_pos e]
      unfold gR_addShow
      rw [c5, show (5 : Int32) = nI 5 from rfl, if_neg (nle (by omega) (by omega) (by omega)), wr_n (by omega) (by omega), Option.bind_some, stI_ne (by omega), c5, wr_n (by omega) (by omega), Option.bind_some, stI_ne (by omega), stI_ne (by omega), c5, Option.bind_some, Option.bind_some, nI_1]
    · exact ⟨s4, if_neg e, Fp.rfl', fun z => absurd z e⟩
  refine ⟨t1, s5, t5, a2, ?_, ?_, (C3 fc).tr (fs5.wid (fun a k z => Or.inr z)), fm, qd_fp (qd_of d4) fs5 e2 (fun a k z => by omega) (fun a k z => by omega), fun h0 => ?_, ?_⟩
  · unfold gD_readShowLine gD_takeKind
    rw [hR.1.2.2.2.2.2.2.2.1, show (5 : Int32) = nI 5 from rfl, if_pos (nI_lt h7 (by omega)), a1, Option.bind_some, Option.bind_some, Option.bind_some, b2, Option.bind_some, show gD_takeWord (XB + 22) s2 = some s4' from d1, Option.bind_some, d2, Option.bind_some]
    dsimp only
    rw [hs5, Option.bind_some]
  · rw [show (6 : Int32) = nI 6 from rfl, rd_n (by omega) (by omega), Option.bind_some, m1, b3, Option.bind_some, show (39 : Int32) + ((2 : Int32) * nI (D 7 0)) = nI (39 + 2 * D 7 0) by rw [show (39 : Int32) = nI 39 from rfl, show (2 : Int32) = nI 2 from rfl, pk_mul, nI_add], wr_n (by omega) (by omega), Option.bind_some, ← ht3, show gM_told (XB + 54) (0 : Int32) (19 : Int32) t3 = some (v2, t4) from d3, Option.bind_some, nI_1, wr_n (by omega) (by omega), Option.bind_some, rd_n (by omega) (by omega), Option.bind_some, stI_nk (by omega), m4, nI_1, wr_n (by omega) (by omega), Option.bind_some, ht5]
  · have h4' : s4.1 3 2 = 0 := by rw [fs5.1 3 2 (by omega)] at h0; exact h0
    obtain ⟨-, r2⟩ := or_gd d4 h4'
    obtain ⟨-, r1⟩ := or_gd b4 (w_mono d1 (n_mono d2 h4'))
    obtain ⟨n1, rfl, n1a, n1b⟩ := i_in (lo := 1) (hi := 9) (by omega) r1.1 r1.2
    obtain ⟨n2, rfl, n2a, n2b⟩ := i_in (lo := 0) (hi := 19) (by omega) r2.1 r2.2
    have es5 := vs5 h4'
    refine ⟨dSh D n1 n2, VDsh hV h7 n1a n1b n2b, rfl, RRsh hR hV.2.2 (fun a k h1 h2 h3 h4 => ?_) ?_ ?_ ?_, MAsh hM hV.1 h7 hV.2.2 (fun k hk h1 h2 h3 => ?_) ?_ ?_ ?_⟩
    · rw [es5, stI_at, if_neg (by omega), stI_at, if_neg (by omega), stI_at, if_neg (by omega), cs h1 fc]
    · rw [es5, stI_ne (by omega), stI_ne (by omega), stI_eq]
    · rw [es5, stI_ne (by omega), stI_eq]
    · rw [es5, stI_eq]
    · rw [ht5, stI_nk h3, stI_nk h2, ms d7, ht3, stI_nk h1, ms b7, ms a5]
    · rw [ht5, stI_nk (by omega), stI_nk (by omega), ms d7, ht3, stI_eq]
    · rw [ht5, stI_nk (by omega), stI_eq]
    · rw [ht5, stI_eq]
  · rw [ht5, stI_nk (by omega), stI_nk (by omega), ms d7, ht3, stI_nk (by omega), ms b7, ms a5]
end ADDS
