/-! GAME: the model's side -/
theorem ixT (i j : Nat) : (2 : Int32) * (((5 : Int32) * nI i) + nI j) = nI (2 * (5 * i + j)) := by
  rw [show (2 : Int32) = nI 2 from rfl, show (5 : Int32) = nI 5 from rfl, pk_mul, nI_add, pk_mul]
section GM2
variable {n w o b a k m : Nat} {s s' : mT} {D : RD} {xs : Nat → Int32}
def mFo (D : RD) (w o : Nat) (t : mT) : Prop := ∃ fo, MPB D (D 1 0) (D 9) (D 10) fo (l0 D) 0 t ∧ ∀ a b, upN (upN fo w a) o b = upN (upN (D 14) w a) o b
theorem m_fill1 (h0 : IV xs D s) (hw : w < D 6 0) (ho : o < D 6 0) (hwo : w ≠ o) (ha : D 12 w ≤ a) (ha2 : a ≤ D 13 w) {t : mT} (i2 : IV xs D t) (i3 : mFo D w o t) (i4 : mTab D w o a (D 12 o) t) : ∃ t', wh FU (gM_asksRests_h52 (nI w) (nI o) (nI a)) (nI (D 12 o), t) = some t' ∧ IV xs D t' ∧ mFo D w o t' ∧ mTab D w o (a + 1) (D 12 o) t' := by
  have hd := h0.bd
  have vw := h0.wv hw
  have vo := h0.wv ho
  refine wh_cnt (f := gM_asksRests_h52 (nI w) (nI o) (nI a)) (fun b t => IV xs D t ∧ mFo D w o t ∧ mTab D w o a b t) _ (D 12 o) (D 13 o + 1) (by omega) (fun b hb1 hb2 t hI => ?_) (fun t hI => ?_) ⟨i2, i3, i4⟩ rfl FU (FU_gt (by omega))
  · obtain ⟨j2, ⟨fo, j3, j3'⟩, j4⟩ := hI
    have e1 := (j3.wfo (b := w) (v := a) (by omega)).wfo (b := o) (v := b) (by omega)
    rw [j3'] at e1
    obtain ⟨t0, ht0⟩ : ∃ t0, t0 = stI (stI t 303 w (nI a)) 303 o (nI b) := ⟨_, rfl⟩
    rw [← ht0] at e1
    have k0 : KP t t0 := by rw [ht0]; exact (KP.st (by unfold pK; omega)).tr (KP.st (by unfold pK; omega))
    have i0 := j2.kp k0
    have hs := s0_0 (ex := fun _ => false) h0.V
    obtain ⟨t1, x1, x2, x3, x4, x5⟩ := i0.go e1 hs
    have fr := fp_go i0 e1 hs x1
    have p1 := mq_pl x5 (n := D 0 0) (b := D 14 w) (Nat.le_refl _) (by omega)
    have p2 := mq_pl x5 (n := D 0 0) (b := D 14 o) (Nat.le_refl _) (by omega)
    have p3 := Option.some.inj ((pl_is (s := t1) (n := D 0 0) (b := D 14 o) (by omega) (by omega)).symm.trans p2)
    have i5 := x3.wr (a := 312) (k := 2 * (5 * a + b)) (x := nI (gvN D w o a b)) (by unfold pK; omega)
    refine ⟨stI (stI t1 312 (2 * (5 * a + b)) (nI (gvN D w o a b))) 312 (2 * (5 * a + b) + 1) (nI (ovN D w o a b)), ?_, i5.wr (by unfold pK; omega), ⟨upN (upN (D 14) w a) o b, ?_, fun a' b' => up2 hwo⟩, fun i j h1 h2 h3 h4 h5 => ?_⟩
    · unfold gM_asksRests_h52
      dsimp only
      rw [of_2 j2.V j2.M ho, Option.bind_some, if_neg (nlt (by omega) (by omega) (by omega)), wr_n (by omega) (by omega), Option.bind_some, wr_n (by omega) (by omega), Option.bind_some]
      rw [show stI (stI t 303 w (nI a)) 303 o (nI b) = t0 from ht0.symm, x1, Option.bind_some, of_3 x3.V x3.M hw, Option.bind_some, m_last1 x3.M, Option.bind_some, p1, Option.bind_some, ixT, wr_n (by omega) (by omega), Option.bind_some, show nI (rP D (gmT D w o a b) (D 0 0) (D 14 w)) = nI (gvN D w o a b) from rfl, of_3 i5.V i5.M ho, Option.bind_some, m_last1 i5.M, Option.bind_some, pl_is (by omega) (by omega), Option.bind_some, stI_ne (by omega), p3, nI_1, wr_n (by omega) (by omega), Option.bind_some, nI_1]
      rfl
    · exact (x4.fp (P := fun a _ => a = 312) (Fp.st rfl) (fun a k z => by unfold pA; omega)).fp (P := fun a _ => a = 312) (Fp.st rfl) (fun a k z => by unfold pA; omega)
    · by_cases e : i = a ∧ j = b
      · obtain ⟨rfl, rfl⟩ := e
        rw [stI_nk (by omega), stI_eq, stI_eq]
        exact ⟨rfl, rfl⟩
      · have old := j4 i j h1 h2 h3 h4 (by omega)
        have ea : ∀ c, t1.1 312 c = t.1 312 c := fun c => by
          rw [fr.1 312 c (by unfold pG; omega), ht0, stI_ne (by omega), stI_ne (by omega)]
        refine ⟨?_, ?_⟩
        · rw [stI_nk (by omega), stI_nk (by omega), ea]
          exact old.1
        · rw [stI_nk (by omega), stI_nk (by omega), ea]
          exact old.2
  · obtain ⟨j2, j3, j4⟩ := hI
    refine ⟨t, ?_, j2, j3, fun i j h1 h2 h3 h4 h5 => j4 i j h1 h2 h3 h4 (by omega)⟩
    unfold gM_asksRests_h52
    dsimp only
    rw [of_2 j2.V j2.M ho, Option.bind_some, if_pos (nI_lt (by omega) (by omega))]
theorem m_fill (h : IV xs D s) (hP : MPB D (D 1 0) (D 9) (D 10) (D 14) (l0 D) 0 s) (hw : w < D 6 0) (ho : o < D 6 0) (hwo : w ≠ o) : ∃ s', wh FU (gM_asksRests_h34 (nI w) (nI o)) (nI (D 12 w), s) = some s' ∧ IV xs D s' ∧ mTab D w o (D 13 w + 1) (D 12 o) s' := by
  have hd := h.bd
  have vw := h.wv hw
  have vo := h.wv ho
  obtain ⟨s2, g1, g3, g4, g5⟩ := wh_cnt (f := gM_asksRests_h34 (nI w) (nI o)) (fun a t => IV xs D t ∧ mFo D w o t ∧ mTab D w o a (D 12 o) t) (fun t => IV xs D t ∧ mFo D w o t ∧ mTab D w o (D 13 w + 1) (D 12 o) t) (D 12 w) (D 13 w + 1) (by omega) (fun a ha1 ha2 t hI => by
    obtain ⟨j2, j3, j4⟩ := hI
    obtain ⟨t1, x1, x2⟩ := m_fill1 h hw ho hwo ha1 (by omega) j2 j3 j4
    refine ⟨t1, ?_, x2⟩
    unfold gM_asksRests_h34
    dsimp only
    rw [of_2 j2.V j2.M hw, Option.bind_some, if_neg (nlt (by omega) (by omega) (by omega)), of_1 j2.V j2.M ho, Option.bind_some, x1, Option.bind_some, nI_1]) (fun t hI => by
    refine ⟨t, ?_, hI⟩
    unfold gM_asksRests_h34
    dsimp only
    rw [of_2 hI.1.V hI.1.M hw, Option.bind_some, if_pos (nI_lt (by omega) (by omega))]) (s := s) ⟨h, ⟨_, hP, fun a b => rfl⟩, fun i j h1 h2 h3 h4 h5 => by omega⟩ (i := nI (D 12 w)) rfl FU (FU_gt (by omega))
  exact ⟨s2, g1, g3, g5⟩
theorem m_isRest (h : IV xs D s) (hw : w < D 6 0) (ho : o < D 6 0) (ht : mTab D w o (D 13 w + 1) (D 12 o) s) (ha1 : D 12 w ≤ a) (ha2 : a ≤ D 13 w) (hb1 : D 12 o ≤ b) (hb2 : b ≤ D 13 o) : gM_isRest (nI w) (nI o) (nI a) (nI b) s = some (bz (rsB D w o a b)) := by
  have hd := h.bd
  have vw := h.wv hw
  have vo := h.wv ho
  have sw : spN D w = D 13 w - D 12 w + 1 := rfl
  have so : spN D o = D 13 o - D 12 o + 1 := rfl
  have gl := fun a b => gv_le (w := w) (o := o) (a := a) (b := b) h
  have e2 : wh FU (gM_isRest_h65 (nI o) (nI a) (nI b) (nI w) s) (nI (D 12 o)) = some (Sum.inr (bz (!(ffN (fun k => decide (ovN D w o a b < ovN D w o a k)) (spN D o) (D 12 o)).isSome))) := by
    refine wh_ff (fun k => decide (ovN D w o a b < ovN D w o a k)) (fun k => nI k) (fun r => Sum.inr (bz (!r.isSome))) (spN D o) (D 12 o) (fun k h1 h2 h3 => ?_) (fun k h1 h2 h3 => ?_) ?_ FU (FU_gt (by omega))
    · have t1 := (ht a k ha1 ha2 h1 (by omega) (by omega)).2
      have t2 := (ht a b ha1 ha2 hb1 hb2 (by omega)).2
      have l1 := gl a k
      have l2 := gl a b
      have := of_decide_eq_false h3
      unfold gM_isRest_h65
      rw [of_2 h.V h.M ho, Option.bind_some, if_neg (nlt (by omega) (by omega) (by omega)), ixT, nI_1, rd_n (by omega) (by omega), Option.bind_some, ixT, nI_1, rd_n (by omega) (by omega), Option.bind_some, t1, t2, if_pos (nI_le (by omega) (by omega)), nI_1]
    · have t1 := (ht a k ha1 ha2 h1 (by omega) (by omega)).2
      have t2 := (ht a b ha1 ha2 hb1 hb2 (by omega)).2
      have l1 := gl a k
      have l2 := gl a b
      have := of_decide_eq_true h3
      unfold gM_isRest_h65
      rw [of_2 h.V h.M ho, Option.bind_some, if_neg (nlt (by omega) (by omega) (by omega)), ixT, nI_1, rd_n (by omega) (by omega), Option.bind_some, ixT, nI_1, rd_n (by omega) (by omega), Option.bind_some, t1, t2, if_neg (nle (by omega) (by omega) (by omega))]
      rfl
    · unfold gM_isRest_h65
      rw [of_2 h.V h.M ho, Option.bind_some, if_pos (nI_lt (by omega) (by omega))]
      rfl
  have e1 : wh FU (gM_isRest_h8 (nI w) (nI o) (nI a) (nI b) s) (nI (D 12 w)) = some (bz (rsB D w o a b)) := by
    have := wh_ff (f := gM_isRest_h8 (nI w) (nI o) (nI a) (nI b) s) (fun k => decide (gvN D w o a b < gvN D w o k b)) (fun k => nI k) (fun r => bz (!r.isSome && !(ffN (fun k => decide (ovN D w o a b < ovN D w o a k)) (spN D o) (D 12 o)).isSome)) (spN D w) (D 12 w) (fun k h1 h2 h3 => by
      have t1 := (ht k b h1 (by omega) hb1 hb2 (by omega)).1
      have t2 := (ht a b ha1 ha2 hb1 hb2 (by omega)).1
      have l1 := gl k b
      have l2 := gl a b
      have := of_decide_eq_false h3
      unfold gM_isRest_h8
      rw [of_2 h.V h.M hw, Option.bind_some, if_neg (nlt (by omega) (by omega) (by omega)), ixT, rd_n (by omega) (by omega), Option.bind_some, ixT, rd_n (by omega) (by omega), Option.bind_some, t1, t2, if_pos (nI_le (by omega) (by omega)), nI_1]) (fun k h1 h2 h3 => by
      have t1 := (ht k b h1 (by omega) hb1 hb2 (by omega)).1
      have t2 := (ht a b ha1 ha2 hb1 hb2 (by omega)).1
      have l1 := gl k b
      have l2 := gl a b
      have := of_decide_eq_true h3
      unfold gM_isRest_h8
      rw [of_2 h.V h.M hw, Option.bind_some, if_neg (nlt (by omega) (by omega) (by omega)), ixT, rd_n (by omega) (by omega), Option.bind_some, ixT, rd_n (by omega) (by omega), Option.bind_some, t1, t2, if_neg (nle (by omega) (by omega) (by omega))]
      rfl) (by
      unfold gM_isRest_h8
      rw [of_2 h.V h.M hw, Option.bind_some, if_pos (nI_lt (by omega) (by omega)), of_1 h.V h.M ho, Option.bind_some, e2]
      rfl) FU (FU_gt (by omega))
    exact this
  unfold gM_isRest
  rw [of_1 h.V h.M hw, Option.bind_some, e1]
theorem m_play1 (h0 : IV xs D s) (hw : w < D 6 0) (ho : o < D 6 0) (ha : D 12 w ≤ a) (ha2 : a ≤ D 13 w) {t : mT} {q : Nat × Int32} (hq : q.1 ≤ 100) (i2 : IV xs D t) (i3 : mTab D w o (D 13 w + 1) (D 12 o) t) (i4 : mRes q t) : ∃ t', wh FU (gM_asksRests_h185 (nI w) (nI o) (nI a)) (nI (D 12 o), t) = some t' ∧ IV xs D t' ∧ mTab D w o (D 13 w + 1) (D 12 o) t' ∧ mRes (rsP D w o a (spN D o) q) t' := by
  have hd := h0.bd
  have vw := h0.wv hw
  have vo := h0.wv ho
  have sw : spN D w = D 13 w - D 12 w + 1 := rfl
  have so : spN D o = D 13 o - D 12 o + 1 := rfl
  refine wh_cnt (f := gM_asksRests_h185 (nI w) (nI o) (nI a)) (fun b t => IV xs D t ∧ mTab D w o (D 13 w + 1) (D 12 o) t ∧ mRes (rsP D w o a (b - D 12 o) q) t) _ (D 12 o) (D 13 o + 1) (by omega) (fun b hb1 hb2 t hI => ?_) (fun t hI => ?_) ⟨i2, i3, by rw [Nat.sub_self]; exact i4⟩ rfl FU (FU_gt (by omega))
  · obtain ⟨j2, j3, j4, j5⟩ := hI
    have rl := rsP_le (D := D) (w := w) (o := o) (a := a) (q := q) (b - D 12 o)
    have e1 : b + 1 - D 12 o = (b - D 12 o) + 1 := by omega
    have e2 : D 12 o + (b - D 12 o) = b := by omega
    have er : rsP D w o a (b + 1 - D 12 o) q = if rsB D w o a b = true then ((rsP D w o a (b - D 12 o) q).1 + 1, if (rsP D w o a (b - D 12 o) q).1 = 0 then nI (10 * a + b) else (rsP D w o a (b - D 12 o) q).2) else rsP D w o a (b - D 12 o) q := by
      rw [e1]
      show (if rsB D w o a (D 12 o + (b - D 12 o)) = true then _ else _) = _
      rw [e2]
    rw [er]
    generalize rsP D w o a (b - D 12 o) q = r at *
    unfold gM_asksRests_h185
    dsimp only
    rw [of_2 j2.V j2.M ho, Option.bind_some, if_neg (nlt (by omega) (by omega) (by omega)), m_isRest j2 hw ho j3 ha ha2 hb1 (by omega), Option.bind_some]
    cases rsB D w o a b with
    | false => exact ⟨t, by rw [bz_f, if_pos rfl, Option.bind_some, nI_1], j2, j3, by rw [if_neg (by decide)]; exact ⟨j4, j5⟩⟩
    | true =>
      rw [bz_t, if_neg (by decide), if_pos rfl, j4, j5, show (10 : Int32) = nI 10 from rfl, pk_mul, nI_add, ite_iff (show (nI r.1 = (0 : Int32)) ↔ r.1 = 0 from nI_eq (b := 0) (by omega) (by omega))]
      have es : (if r.1 = 0 then some (nI (10 * a + b)) else some r.2) = some (if r.1 = 0 then nI (10 * a + b) else r.2) := by split <;> rfl
      rw [es, Option.bind_some, Option.bind_some, stI_nk (by omega), j4, nI_1, nI_1]
      refine ⟨_, rfl, (j2.wr (by unfold pK; omega)).wr (by unfold pK; omega), mTab_st (mTab_st j3), ?_⟩
      exact ⟨stI_eq, by rw [stI_nk (by omega), stI_eq]⟩
  · obtain ⟨j2, j3, j4⟩ := hI
    refine ⟨t, ?_, j2, j3, by rw [show spN D o = D 13 o + 1 - D 12 o by omega]; exact j4⟩
    unfold gM_asksRests_h185
    dsimp only
    rw [of_2 j2.V j2.M ho, Option.bind_some, if_pos (nI_lt (by omega) (by omega))]
theorem m_play (h : IV xs D s) (hw : w < D 6 0) (ho : o < D 6 0) (hwo : w ≠ o) : ∃ s', gM_asksRests (nI w) (nI o) s = some (1, s') ∧ IV xs D s' ∧ mRes (rsQ D w o (spN D w)) s' := by
  have hd := h.bd
  have vw := h.wv hw
  have vo := h.wv ho
  have sw : spN D w = D 13 w - D 12 w + 1 := rfl
  obtain ⟨t1, y1, y2, y3, y4⟩ := h.asIs
  obtain ⟨t2, z1, z2, z3⟩ := m_fill y3 y4 hw ho hwo
  obtain ⟨t0, ht0⟩ : ∃ t0, t0 = stI (stI t2 294 38 (0 : Int32)) 294 39 (-1 : Int32) := ⟨_, rfl⟩
  have i0 : IV xs D t0 := by rw [ht0]; exact (z2.wr (by unfold pK; omega)).wr (by unfold pK; omega)
  obtain ⟨s2, g1, g3, g4, g5⟩ := wh_cnt (f := gM_asksRests_h167 (nI w) (nI o)) (fun a t => IV xs D t ∧ mTab D w o (D 13 w + 1) (D 12 o) t ∧ mRes (rsQ D w o (a - D 12 w)) t) (fun t => IV xs D t ∧ mTab D w o (D 13 w + 1) (D 12 o) t ∧ mRes (rsQ D w o (spN D w)) t) (D 12 w) (D 13 w + 1) (by omega) (fun a ha1 ha2 t hI => by
    obtain ⟨j2, j3, j4⟩ := hI
    have rl := rsQ_100 (w := w) (i := a - D 12 w) h ho (by omega)
    obtain ⟨t1, x1, x3, x4, x5⟩ := m_play1 h hw ho ha1 (by omega) (by omega) j2 j3 j4
    refine ⟨t1, ?_, x3, x4, ?_⟩
    · unfold gM_asksRests_h167
      dsimp only
      rw [of_2 j2.V j2.M hw, Option.bind_some, if_neg (nlt (by omega) (by omega) (by omega)), of_1 j2.V j2.M ho, Option.bind_some, x1, Option.bind_some, nI_1]
    · rw [show a + 1 - D 12 w = (a - D 12 w) + 1 by omega]
      show mRes (rsP D w o (D 12 w + (a - D 12 w)) (spN D o) (rsQ D w o (a - D 12 w))) t1
      rw [show D 12 w + (a - D 12 w) = a by omega]
      exact x5) (fun t hI => by
    refine ⟨t, ?_, hI.1, hI.2.1, by rw [show spN D w = D 13 w + 1 - D 12 w by omega]; exact hI.2.2⟩
    unfold gM_asksRests_h167
    dsimp only
    rw [of_2 hI.1.V hI.1.M hw, Option.bind_some, if_pos (nI_lt (by omega) (by omega))]) (s := t0) ⟨i0, by rw [ht0]; exact mTab_st (mTab_st z3), by rw [Nat.sub_self, ht0]; exact ⟨by rw [stI_nk (by omega), stI_eq]; rfl, stI_eq⟩⟩ (i := nI (D 12 w)) rfl FU (FU_gt (by omega))
  refine ⟨s2, ?_, g3, g5⟩
  have in1 : 0 ≤ (nI w).toInt ∧ (nI w).toInt < (D 6 0 : Int) := by rw [nI_toInt (by omega)]; omega
  have in2 : 0 ≤ (nI o).toInt ∧ (nI o).toInt < (D 6 0 : Int) := by rw [nI_toInt (by omega)]; omega
  unfold gM_asksRests
  rw [h.mW, Option.bind_some, bz_if, if_pos in1, h.mW, Option.bind_some, bz_if, if_pos in2, if_neg (fun e => hwo (by have := congrArg Int32.toInt e; rw [nI_toInt (by omega), nI_toInt (by omega)] at this; omega)), y1, Option.bind_some, of_1 y3.V y3.M hw, Option.bind_some, z1, Option.bind_some]
  rw [← ht0, of_1 i0.V i0.M hw, Option.bind_some, g1, Option.bind_some]
abbrev two (D : RD) (v1 v2 : Int32) : Prop := (0 ≤ v1.toInt ∧ v1.toInt < (D 6 0 : Int)) ∧ (0 ≤ v2.toInt ∧ v2.toInt < (D 6 0 : Int)) ∧ ¬ v1 = v2
theorem c_two {v1 v2 : Int32} (h : IV xs D s) : gL_areTwoWatchers v1 v2 s = some (bz (decide (two D v1 v2))) := by
  unfold gL_areTwoWatchers
  rw [h.hasW, Option.bind_some, bz_if, h.hasW, Option.bind_some, bz_if]
  by_cases g1 : 0 ≤ v1.toInt ∧ v1.toInt < (D 6 0 : Int)
  · rw [if_pos g1]
    by_cases g2 : 0 ≤ v2.toInt ∧ v2.toInt < (D 6 0 : Int)
    · rw [if_pos g2]
      by_cases g3 : v1 = v2
      · rw [if_pos g3, decide_eq_false (fun z : two D v1 v2 => z.2.2 g3)]; rfl
      · rw [if_neg g3, decide_eq_true (show two D v1 v2 from ⟨g1, g2, g3⟩)]; rfl
    · rw [if_neg g2, decide_eq_false (fun z : two D v1 v2 => g2 z.2.1)]; rfl
  · rw [if_neg g1, decide_eq_false (fun z : two D v1 v2 => g1 z.1)]; rfl
theorem m_not {v1 v2 : Int32} (h : IV xs D s) (hn : ¬ two D v1 v2) : gM_asksRests v1 v2 s = some (0, s) := by
  unfold gM_asksRests
  rw [h.mW, Option.bind_some, bz_if, h.mW, Option.bind_some, bz_if]
  by_cases g1 : 0 ≤ v1.toInt ∧ v1.toInt < (D 6 0 : Int)
  · rw [if_pos g1]
    by_cases g2 : 0 ≤ v2.toInt ∧ v2.toInt < (D 6 0 : Int)
    · rw [if_pos g2]
      by_cases g3 : v1 = v2
      · rw [if_pos g3]
      · exact absurd ⟨g1, g2, g3⟩ hn
    · rw [if_neg g2]
  · rw [if_neg g1]
theorem a_rests (v1 v2 : Int32) : AS (gL_rests v1 v2) (gM_rests v1 v2) := AS_of fun xs D s h => by
  by_cases g : two D v1 v2
  · have g' := g
    obtain ⟨g1, g2, g3⟩ := g
    obtain ⟨w, hw, rfl⟩ := of_in g1
    obtain ⟨o, ho, rfl⟩ := of_in g2
    have hwo : w ≠ o := fun e => g3 (by rw [e])
    obtain ⟨s1, f1, f2, f3, f4, f5⟩ := c_play h hw ho hwo
    refine ⟨nI (rsQ D w o (spN D w)).1, s1, ?_, f2, fun t ht => ?_⟩
    · unfold gL_rests
      rw [c_two h, Option.bind_some, bz_if, if_pos g', f1, Option.bind_some, f4]
    · obtain ⟨t1, y1, y2, y3, y4⟩ := m_play ht hw ho hwo
      refine ⟨t1, ?_, y2⟩
      unfold gM_rests
      rw [y1, Option.bind_some]
      dsimp only
      rw [if_neg (by decide), y3, Option.bind_some]
  · refine ⟨-2, s, ?_, KP.rfl', fun t ht => ⟨t, ?_, ht⟩⟩
    · unfold gL_rests
      rw [c_two h, Option.bind_some, bz_if, if_neg g]
    · unfold gM_rests
      rw [m_not ht g, Option.bind_some]
      rfl
theorem a_rest (v1 v2 : Int32) : AS (gL_rest v1 v2) (gM_rest v1 v2) := AS_of fun xs D s h => by
  by_cases g : two D v1 v2
  · have g' := g
    obtain ⟨g1, g2, g3⟩ := g
    obtain ⟨w, hw, rfl⟩ := of_in g1
    obtain ⟨o, ho, rfl⟩ := of_in g2
    have hwo : w ≠ o := fun e => g3 (by rw [e])
    obtain ⟨s1, f1, f2, f3, f4, f5⟩ := c_play h hw ho hwo
    refine ⟨(rsQ D w o (spN D w)).2, s1, ?_, f2, fun t ht => ?_⟩
    · unfold gL_rest
      rw [c_two h, Option.bind_some, bz_if, if_pos g', f1, Option.bind_some, f5]
    · obtain ⟨t1, y1, y2, y3, y4⟩ := m_play ht hw ho hwo
      refine ⟨t1, ?_, y2⟩
      unfold gM_rest
      rw [y1, Option.bind_some]
      dsimp only
      rw [if_neg (by decide), y4, Option.bind_some]
  · refine ⟨-2, s, ?_, KP.rfl', fun t ht => ⟨t, ?_, ht⟩⟩
    · unfold gL_rest
      rw [c_two h, Option.bind_some, bz_if, if_neg g]
    · unfold gM_rest
      rw [m_not ht g, Option.bind_some]
      rfl
end GM2
