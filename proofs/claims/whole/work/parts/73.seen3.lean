/-! SEEN: the class's cache, the model's list -/
def pEq (a k : Nat) : Prop := (121 ≤ a ∧ a < 214) ∨ (a = 225 ∧ k = 3) ∨ (227 ≤ a ∧ a ≤ 231)
def ML (D : RD) (n : Nat) (R : Nat → Int64) (j : Nat) (s : mT) : Prop := ∃ V : Nat → Nat → Nat, s.1 294 34 = nI (fiN D n R j) ∧ (∀ e w, e < fiN D n R j → w < D 6 0 → s.1 310 (5 * e + w) = nI (V e w) ∧ V e w ≤ 4) ∧ ∀ w b, w < D 6 0 → cntB (fun e => decide (V e w = b)) (fiN D n R j) = cwN D n R w b j
def pFq (a j : Nat) : Prop := a = 310 ∨ (a = 294 ∧ j = 34)
section SEEN3
variable {n w o b a k m l wd i j W c lw M : Nat} {s s' s'' t : mT} {D D' : RD} {xs : Nat → Int32} {R : Nat → Int64} {T : SU}
theorem stp_le (ht : TPB D n R = true) : ∀ t, t < n / 3 → stpT R t ≤ D 0 0 := fun t htt => by
  have := (ok_T ((TP_ok ht).2 t htt)).2.1
  unfold stpT
  omega
theorem c_se1 (hV : VD D) (hR : RR 16 D s) (hk : k < QN D) (hP : PR 121 D (TL D (lkN D k)) s) (h1 : SNc D n R k s) (ht : TPB D n R = true) (h3 : s.1 (286 + 2 * l) 3 = nI n) (hn : n ≤ 60) (hR2 : s.2 (287 + 2 * l) = R) : ∃ s', gE_makeIfStale_h47 (286 + 2 * l) (nI (mxN (stpT R) (n / 3))) ((1 : Int32), nI k, s) = some (.inl (bz (decide (k + 1 < QN D)), nI (k + 1), s')) ∧ Fp pEq s s' ∧ RR 16 D s' ∧ SNc D n R (k + 1) s' ∧ (k + 1 < QN D → PR 121 D (TL D (lkN D (k + 1))) s') := by
  have hd := hV.1
  have hq := QN_le hV
  have hM := mx_le (stp_le ht)
  obtain ⟨s1, f1, f2, f3⟩ := sail_is (c := 121) (M := mxN (stpT R) (n / 3)) (Or.inr rfl) hV hR hP hd.2.1 hM
  have r1 : RR 16 D s1 := hR.cg (fun a _ _ => f2.1 a (by omega))
  have p1 : PR 121 D (TL D (lkN D k)) s1 := hP.cg hV (fun a _ _ => f2.1 a (by omega))
  have ag := c_agrees (s := s1) (l := l) hV f3 (by omega) ht (fun t ht => mx_ge ht) (by rw [f2.1 _ (by omega)]; exact h3) hn (by rw [f2.2]; exact hR2)
  have c1 : SNc D n R k s1 := ⟨by rw [f2.1 225 (by omega)]; exact h1.1, fun w b hw hb => by rw [f2.1 (227 + w) (by omega)]; exact h1.2 w b hw hb⟩
  obtain ⟨s2, g1, g2, g3⟩ : ∃ s2, (if bz (ftB D n R (TL D (lkN D k))) = 0 then some s1 else (gE_tally s1).bind fun p8 => some p8) = some s2 ∧ Fp (fun a k => (a = 225 ∧ k = 3) ∨ (227 ≤ a ∧ a ≤ 231)) s1 s2 ∧ SNc D n R (k + 1) s2 := by
    cases hf : ftB D n R (TL D (lkN D k)) with
    | false => exact ⟨s1, rfl, Fp.rfl', sn_no hf c1⟩
    | true =>
      obtain ⟨s2, x1, x2, x3⟩ := c_tally hV r1 hk (fun w hw => (p1.2.2.1 w hw).1) hf c1
      exact ⟨s2, by rw [bz_t, if_neg (by decide), x1]; rfl, x2, x3⟩
  have e2 : ∀ a, a < 214 → s2.1 a = s1.1 a := fun a ha => g2.fn (fun k => by omega)
  have r2 : RR 16 D s2 := r1.cg (fun a _ _ => e2 a (by omega))
  have p2 : PR 121 D (TL D (lkN D k)) s2 := p1.cg hV (fun a _ _ => e2 a (by omega))
  obtain ⟨s4, y1, y2, y3⟩ := c_next hV r2 hk (fun w hw => (p2.2.2.1 w hw).1)
  refine ⟨s4, ?_, ?_, r2.cg (fun a _ _ => y2.1 a (by omega)), ⟨by rw [y2.1 225 (by omega)]; exact g3.1, fun w b hw hb => by rw [y2.1 (227 + w) (by omega)]; exact g3.2 w b hw hb⟩, fun hk2 => ?_⟩
  · unfold gE_makeIfStale_h47
    dsimp only
    rw [show (3125 : Int32) = nI 3125 from rfl, if_neg (nle (by omega) (by omega) (by omega)), if_neg (by decide), f1, Option.bind_some, ag, Option.bind_some, g1, Option.bind_some, y1, Option.bind_some, nI_1]
  · refine ⟨fun a j hn => ?_, by rw [y2.2, g2.2, f2.2]⟩
    unfold pEq at hn
    rw [y2.1 a (by omega), g2.1 a j (by omega), f2.1 a (by omega)]
  · exact p2.wfos hV (fun a h1 h2 h3 => y2.1 a (by omega)) (fun w hw => ⟨y3 hk2 w hw, (lk_fo hV hk2 w hw).1⟩)
theorem c_mkseen (h : IV xs D s) (hl : l < 4) (hs : SLD l n s) (hR2 : s.2 (287 + 2 * l) = R) (ht : TPB D n R = true) : ∃ s', gE_makeIfStale (nI l) (286 + 2 * l) s = some s' ∧ (∀ a, a < 121 ∨ 246 < a → s'.1 a = s.1 a) ∧ s'.2 = s.2 ∧ IV xs D s' ∧ SNc D n R (QN D) s' := by
  have hV := h.V
  have hd := hV.1
  have hq := QN_le hV
  obtain ⟨q1, q2, q3, q4, q5⟩ := hs
  by_cases e0 : s.1 225 2 = nI l
  · refine ⟨s, ?_, fun a _ => rfl, rfl, h, ?_⟩
    · unfold gE_makeIfStale
      rw [if_pos e0]
    · rcases h.2.2.2.2.2.2.2.1 with z | ⟨l', n', hl', h1, h2, h3, h4, h5⟩
      · rw [e0] at z; exact absurd z (m1_n (by omega))
      · have el : l = l' := (nI_eq (by omega) (by omega)).mp (e0.symm.trans h1)
        subst el
        have en : n = n' := (nI_eq (by omega) (by omega)).mp (q2.symm.trans h3)
        subst en
        rw [hR2] at h4 h5
        exact ⟨h4, h5⟩
  · obtain ⟨t0, ht0⟩ : ∃ t0, t0 = stI s 225 2 (nI l) := ⟨_, rfl⟩
    obtain ⟨t1, x1, x2, x3, x4⟩ := c_eforget (s := t0)
    have e1 : ∀ a, a ≠ 225 → ¬ (227 ≤ a ∧ a ≤ 231) → t1.1 a = s.1 a := fun a h1 h2 => by rw [x2.fn (fun k => by omega), ht0, stI_fn h1]
    have t12 : t1.2 = s.2 := by rw [x2.2, ht0]; rfl
    have r1 : RR 16 D t1 := h.R.cg (fun a _ _ => e1 a (by omega) (by omega))
    obtain ⟨ls, lsM⟩ := c_lastStep (s := t1) (l := l) hV r1 ht (by rw [e1 _ (by omega) (by omega)]; exact q2) q4 (by rw [t12]; exact hR2)
    obtain ⟨t2, y1, y2, y3⟩ := prepW_is (c := 121) (v := (-1 : Int32)) (ex := fun _ => false) (Or.inr rfl) hV r1 (fun k hk => ⟨fun z => absurd z (m1_n (by omega)), fun z => by cases z⟩)
    obtain ⟨t3, z1, z2, z3⟩ := cp_n (s := t2) (a := 20) (b := 124) (n := 5) (by omega)
    have e3 : ∀ a, a < 121 → t3.1 a = s.1 a := fun a ha => by rw [z2.1 a (by omega), y2.1 a (by omega), e1 a (by omega) (by omega)]
    have e3' : ∀ a, 148 ≤ a → t3.1 a = t1.1 a := fun a ha => by rw [z2.1 a (by omega), y2.1 a (by omega)]
    have t32 : t3.2 = s.2 := by rw [z2.2, y2.2, t12]
    have r3 : RR 16 D t3 := h.R.cg (fun a _ _ => e3 a (by omega))
    have p3 : PR 121 D (TL D (lkN D 0)) t3 := PR.wfos (fo := D 14) (lw := D 1 0) (st := D 9) (nd := D 10) (sl := sh0 D) y3 hV (fun a h1 h2 h3 => z2.1 a (by omega)) (fun w hw => by
      have := hV.2.2.1 w hw
      refine ⟨?_, ?_⟩
      · show t3.1 124 w = nI (D 12 w)
        rw [z3 w (by omega), y2.1 20 (by omega), e1 20 (by omega) (by omega)]
        exact (h.R.2.2.1 w hw).2.1
      · show D 12 w < D 5 0
        omega)
    have c3 : SNc D n R 0 t3 := ⟨by rw [e3' 225 (by omega)]; exact x3, fun w b hw hb => by rw [e3' (227 + w) (by omega)]; exact x4 w (by omega) b hb⟩
    have sl3 : t3.1 (286 + 2 * l) 3 = nI n := by rw [e3' _ (by omega), e1 _ (by omega) (by omega)]; exact q2
    obtain ⟨t4, w1, w2, w3⟩ := wh_inv (f := gE_makeIfStale_h47 (286 + 2 * l) (nI (mxN (stpT R) (n / 3)))) (fun k q => k ≤ QN D ∧ q.1 = bz (decide (k < QN D)) ∧ q.2.1 = nI k ∧ Fp pEq t3 q.2.2 ∧ RR 16 D q.2.2 ∧ SNc D n R k q.2.2 ∧ (k < QN D → PR 121 D (TL D (lkN D k)) q.2.2)) (fun r => Fp pEq t3 r ∧ SNc D n R (QN D) r) (QN D) (fun k hk q hI => by
      obtain ⟨c1, c2, u⟩ := q
      obtain ⟨j0, j1, j2, j3, j4, j5, j7⟩ := hI
      dsimp only at j1 j2 j3 j4 j5 j7
      subst j1 j2
      obtain ⟨u', v1, v2, v3, v4, v6⟩ := c_se1 (l := l) hV j4 hk (j7 hk) j5 ht (by rw [j3.fn (fun k => by unfold pEq; omega)]; exact sl3) q4 (by rw [j3.2, t32]; exact hR2)
      refine ⟨(bz (decide (k + 1 < QN D)), nI (k + 1), u'), ?_, by omega, rfl, rfl, j3.tr v2, v3, v4, v6⟩
      rw [decide_eq_true hk, bz_t]
      exact v1) (fun q hI => by
      obtain ⟨c1, c2, u⟩ := q
      obtain ⟨j0, j1, j2, j3, j4, j5, j7⟩ := hI
      dsimp only at j1 j2 j3 j4 j5 j7
      subst j1 j2
      refine ⟨u, ?_, j3, j5⟩
      unfold gE_makeIfStale_h47
      dsimp only
      rw [decide_eq_false (Nat.lt_irrefl _), bz_f]
      by_cases e : (3125 : Int32) ≤ nI (QN D)
      · rw [if_pos e]
      · rw [if_neg e, if_pos rfl]) (q := ((1 : Int32), (0 : Int32), t3)) ⟨Nat.zero_le _, by rw [decide_eq_true hq.2]; rfl, rfl, Fp.rfl', r3, c3, fun _ => p3⟩ FU (FU_gt (by omega))
    have e4 : ∀ a, a < 121 ∨ (214 ≤ a ∧ a < 225) ∨ 231 < a → t4.1 a = s.1 a := fun a ha => by
      rw [w2.fn (fun k => by unfold pEq; omega)]
      rcases ha with ha | ha
      · exact e3 a ha
      · rw [e3' a (by omega), e1 a (by omega) (by omega)]
    have t42 : t4.2 = s.2 := by rw [w2.2, t32]
    have s225 : t4.1 225 2 = nI l := by rw [w2.1 225 2 (by unfold pEq; omega), e3' 225 (by omega), x2.1 225 2 (by omega), ht0, stI_eq]
    refine ⟨t4, ?_, fun a ha => e4 a (by omega), t42, h.cgV (fun a ha => e4 a (by omega)) t42 ?_ (Or.inr ⟨l, n, hl, s225, q4, ?_, ?_, ?_⟩), w3⟩
    · unfold gE_makeIfStale gC_prepare gC_startLooks
      rw [if_neg e0, ← ht0, x1, Option.bind_some, ls, Option.bind_some, y1, Option.bind_some, Option.bind_some, show (5 : Int32) = nI 5 from rfl, z1, Option.bind_some, Option.bind_some, w1, Option.bind_some]
    · have hn := h.2.2.2.2.2.2.1
      unfold SVI at hn ⊢
      rw [e4 214 (by omega), e4 215 (by omega), e4 216 (by omega), e4 217 (by omega), e4 218 (by omega)]
      rcases hn with h | ⟨h1, h2⟩
      · exact Or.inl h
      · refine Or.inr ⟨h1, fun b hb => ?_⟩
        rw [e4 (220 + b) (by omega)]
        exact h2 b hb
    · rw [e4 _ (by omega)]; exact q2
    · rw [t42, hR2]; exact w3.1
    · rw [t42, hR2]; exact w3.2
theorem m_cp5 {y : Int32} (hc : s.1 294 34 = nI c) (hc2 : c < 3125) : ∃ s', wh FU (gM_layFits_h38 y) ((0 : Int32), s) = some s' ∧ Fp (fun a j => a = 310 ∧ 5 * c ≤ j ∧ j < 5 * c + 5) s s' ∧ ∀ w, w < 5 → s'.1 310 (5 * c + w) = (s.1 303 w).toInt8.toInt32 := by
  have := wh_cnt (f := gM_layFits_h38 y) (fun j t => Fp (fun a j => a = 310 ∧ 5 * c ≤ j ∧ j < 5 * c + 5) s t ∧ ∀ w, w < j → t.1 310 (5 * c + w) = (s.1 303 w).toInt8.toInt32) (fun t => Fp (fun a j => a = 310 ∧ 5 * c ≤ j ∧ j < 5 * c + 5) s t ∧ ∀ w, w < 5 → t.1 310 (5 * c + w) = (s.1 303 w).toInt8.toInt32) 0 5 (by omega) (fun j _ hj t hI => by
    obtain ⟨i1, i2⟩ := hI
    refine ⟨stI t 310 (5 * c + j) ((s.1 303 j).toInt8.toInt32), ?_, i1.tr (Fp.st ⟨rfl, by omega, by omega⟩), fun w hw => ?_⟩
    · unfold gM_layFits_h38
      dsimp only
      have ei : ∀ y : Int32, vp_nar .byte y.toInt8.toInt32 = y.toInt8.toInt32 := fun y => by
        show (y.toInt8.toInt32).toInt8.toInt32 = _
        rw [Int8.toInt8_toInt32]
      rw [show (5 : Int32) = nI 5 from rfl, if_neg (nle (by omega) (by omega) (by omega)), rd_n (by omega) (by omega), Option.bind_some, i1.1 294 34 (fun z => absurd z.1 (by omega)), hc, pk_mul, nI_add, wr_n (by omega) (by omega), Option.bind_some, nI_1, i1.1 303 j (fun z => absurd z.1 (by omega)), ei]
    · by_cases e : w = j
      · subst e; exact stI_eq
      · rw [stI_nk (by omega)]; exact i2 w (by omega)) (fun t hI => ⟨t, rfl, hI⟩) (s := s) ⟨Fp.rfl', fun w hw => absurd hw (Nat.not_lt_zero _)⟩ (i := (0 : Int32)) rfl FU (FU_gt (by omega))
  exact this
theorem m_fit1 (hk : k < QN D) (hV : VD D) (hf : ∀ w, w < D 6 0 → s.1 303 w = nI (lkN D k w)) (ht : ftB D n R (TL D (lkN D k)) = true) (hS : ML D n R k s) {y : Int32} : ∃ s', ((wh FU (gM_layFits_h38 y) ((0 : Int32), s)).bind fun x7 => some (stI x7 294 34 ((x7.1 294 34) + (1 : Int32)))) = some s' ∧ Fp pFq s s' ∧ ML D n R (k + 1) s' := by
  have hd := hV.1
  have hq := QN_le hV
  obtain ⟨V, z1, z2, z3⟩ := hS
  have fl := fi_le (D := D) (n := n) (R := R) (k := k)
  obtain ⟨t1, x1, x2, x3⟩ := m_cp5 (s := s) (y := y) z1 (by omega)
  have c1 : t1.1 294 34 = nI (fiN D n R k) := by rw [x2.1 294 34 (fun z => absurd z.1 (by omega))]; exact z1
  have ef : fiN D n R (k + 1) = fiN D n R k + 1 := by rw [fi_s, if_pos ht]
  refine ⟨stI t1 294 34 (nI (fiN D n R k + 1)), ?_, (x2.wid (fun a j z => Or.inl z.1)).tr (Fp.st (Or.inr ⟨rfl, rfl⟩)), fun e w => if e = fiN D n R k then lkN D k w else V e w, ?_, fun e w he hw => ?_, fun w b hw => ?_⟩
  · rw [x1, Option.bind_some, c1, nI_1]
  · rw [stI_eq, ef]
  · rw [stI_ne (by omega)]
    dsimp only
    by_cases ee : e = fiN D n R k
    · subst ee
      have lk := lk_fo hV hk w hw
      rw [if_pos rfl, x3 w (by omega), hf w hw]
      exact ⟨(by decide : ∀ v, v < 5 → (nI v).toInt8.toInt32 = nI v) _ (by omega), lk.2⟩
    · rw [if_neg ee, x2.1 310 _ (by omega)]
      exact z2 e w (by omega) hw
  · rw [ef, cnt_s, cw_s, ht, Bool.true_and, ← z3 w b hw]
    congr 1
    · exact cntB_congr (fun e he => decide_eq_decide.mpr (by dsimp only; rw [if_neg (by omega)]))
    · simp
theorem m_layFits (h : IV xs D s) (h4 : 0 < D 4 0) (hl : l < 4) (hs : SLD l n s) (hR2 : s.2 (287 + 2 * l) = R) (ht : TPB D n R = true) : ∃ s', gM_layFits (nI l) s = some (0, s') ∧ IV xs D s' ∧ ML D n R (QN D) s' := by
  have hV := h.V
  have hd := hV.1
  have hq := QN_le hV
  obtain ⟨t1, f1, f2, f3, f4⟩ := (m_tells h h4 hl hs).1 (by rw [hR2]; exact ht)
  obtain ⟨q1, q2, q3, q4, q5⟩ := hs
  rw [hR2] at q5
  obtain ⟨t0, ht0⟩ : ∃ t0, t0 = stI t1 294 34 (0 : Int32) := ⟨_, rfl⟩
  have k0 : KP t1 t0 := by rw [ht0]; exact KP.st (by unfold pK; omega)
  have i0 := f3.kp k0
  have p0 : MPB D (D 1 0) (D 9) (D 10) (D 14) (l0 D) 0 t0 := by
    rw [ht0]
    exact f4.fp (P := pFq) (Fp.st (Or.inr ⟨rfl, rfl⟩)) (fun a j z => by unfold pFq at z; unfold pA; omega)
  obtain ⟨t2, x1, x2, x3⟩ := m_first (s := t0) hV i0.M
  have k2 : KP t0 t2 := KP.of x2 (fun a k z => by unfold pK; omega)
  have i2 : IV xs D t2 := i0.kp k2
  have p2 : MPB D (D 1 0) (D 9) (D 10) (lkN D 0) (l0 D) 0 t2 := p0.wfos (fun a k _ h2 => x2.1 a k h2) (fun w hw => ⟨x3 w hw, (lk_fo hV hq.2 w hw).1⟩)
  have m2 : ML D n R 0 t2 := ⟨fun _ _ => 0, by rw [x2.1 294 34 (by omega), ht0, stI_eq]; rfl, fun e w he => absurd he (Nat.not_lt_zero _), fun w b _ => rfl⟩
  have pFq_K : ∀ a j, pFq a j → pK a j := fun a j z => by unfold pFq at z; unfold pK; omega
  have mcg : ∀ {j : Nat} {u v : mT}, ML D n R j u → (∀ a k, pFq a k → v.1 a k = u.1 a k) → ML D n R j v := fun hm hf => by
    obtain ⟨V, z1, z2, z3⟩ := hm
    exact ⟨V, (hf 294 34 (Or.inr ⟨rfl, rfl⟩)).trans z1, fun e w he hw => ⟨(hf 310 _ (Or.inl rfl)).trans (z2 e w he hw).1, (z2 e w he hw).2⟩, z3⟩
  obtain ⟨t4, w1, w2, w3⟩ := wh_inv (f := gM_layFits_h23 (nI l)) (fun k q => k ≤ QN D ∧ q.1 = bz (decide (k < QN D)) ∧ IV xs D q.2 ∧ KP s q.2 ∧ ML D n R k q.2 ∧ (k < QN D → MPB D (D 1 0) (D 9) (D 10) (lkN D k) (l0 D) 0 q.2)) (fun r => IV xs D r ∧ ML D n R (QN D) r) (QN D) (fun k hk q hI => by
    obtain ⟨c1, u⟩ := q
    obtain ⟨j0, j1, j2, jk, j3, j4⟩ := hI
    dsimp only at j1 j2 jk j3 j4
    subst j1
    have pk := j4 hk
    have hs0 := s0_0 (ex := fun _ => false) hV
    obtain ⟨u1, y1, y2, y3, y4, y5⟩ := j2.go pk hs0
    have fr := fp_go j2 pk hs0 y1
    have ms1 : ML D n R k u1 := mcg j3 (fun a k z => fr.1 a k (by unfold pFq at z; unfold pG; omega))
    have ku1 := jk.tr y2
    have sn := m_seen (s := u1) (l := l) y5 ht (fun i hi => by rw [ku1.2 315 (by omega) (by omega)]; exact (q5 i hi).symm) (by rw [ku1.1 313 l (by unfold pK; omega)]; exact q3) q4 hl
    obtain ⟨u2, g1, g2, g3⟩ : ∃ u2, (if bz (ftB D n R (TL D (lkN D k))) = 0 then some u1 else (wh FU (gM_layFits_h38 (nI l)) ((0 : Int32), u1)).bind fun x7 => some (stI x7 294 34 ((x7.1 294 34) + (1 : Int32)))) = some u2 ∧ Fp pFq u1 u2 ∧ ML D n R (k + 1) u2 := by
      cases hf : ftB D n R (TL D (lkN D k)) with
      | false =>
        refine ⟨u1, rfl, Fp.rfl', ?_⟩
        obtain ⟨V, z1, z2, z3⟩ := ms1
        have ef : fiN D n R (k + 1) = fiN D n R k := by rw [fi_s, hf, if_neg (by decide), Nat.add_zero]
        exact ⟨V, by rw [ef]; exact z1, fun e w he hw => z2 e w (by omega) hw, fun w b hw => by rw [ef, cw_s, hf, Bool.false_and, if_neg (by decide), Nat.add_zero]; exact z3 w b hw⟩
      | true =>
        rw [bz_t, if_neg (by decide)]
        exact m_fit1 hk hV (fun w hw => (y4.2.2.1 w hw).1) hf ms1
    have i3 := y3.kp (KP.of g2 pFq_K)
    have p3 := y4.fp g2 (fun a j z => by unfold pFq at z; unfold pA; omega)
    obtain ⟨u3, v1, v2, v3⟩ := m_next hV i3.M hk (fun w hw => (p3.2.2.1 w hw).1)
    have k3 : KP u2 u3 := KP.of v2 (fun a k z => by unfold pK; omega)
    have i4 := i3.kp k3
    refine ⟨(bz (decide (k + 1 < QN D)), u3), ?_, by omega, rfl, i4, ku1.tr ((KP.of g2 pFq_K).tr k3), mcg g3 (fun a k z => v2.1 a k (by unfold pFq at z; omega)), fun hk2 => p3.wfos (fun a k _ h2 => v2.1 a k h2) (fun w hw => ⟨v3 hk2 w hw, (lk_fo hV hk2 w hw).1⟩)⟩
    unfold gM_layFits_h23 gM_isSeen
    dsimp only
    rw [decide_eq_true hk, bz_t, if_neg (by decide), y1, Option.bind_some, sn, Option.bind_some]
    dsimp only
    rw [g1, Option.bind_some, v1, Option.bind_some]) (fun q hI => by
    obtain ⟨c1, u⟩ := q
    obtain ⟨j0, j1, j2, jk, j3, j4⟩ := hI
    dsimp only at j1 j2 jk j3 j4
    subst j1
    refine ⟨u, ?_, j2, j3⟩
    unfold gM_layFits_h23
    dsimp only
    rw [decide_eq_false (Nat.lt_irrefl _), bz_f, if_pos rfl]) (q := ((1 : Int32), t2)) ⟨Nat.zero_le _, by rw [decide_eq_true hq.2]; rfl, i2, f2.tr (k0.tr k2), m2, fun _ => p2⟩ FU (FU_gt (by omega))
  refine ⟨t4, ?_, w2, w3⟩
  unfold gM_layFits
  rw [f1, Option.bind_some]
  dsimp only
  rw [if_pos (by decide), ← ht0, x1, Option.bind_some, w1, Option.bind_some]
theorem m_layErr {v r : Int32} (hr : ¬ 0 ≤ r) (h : gM_askSeen v s = some (r, s)) : gM_layFits v s = some (r, s) := by
  unfold gM_layFits
  rw [h, Option.bind_some]
  dsimp only
  rw [if_neg hr]
theorem a_fits (v1 : Int32) : AS (gL_fits v1) (gM_fits v1) := fun xs D s h => by
  have eXB : XB = 1000000 := rfl
  rcases seen_is h v1 with ⟨r, r1, r2, r3, r4⟩ | ⟨l, n, hl, rfl, h4, hs, ht, hw⟩
  · refine AS_err (r := r) h ?_ ?_
    · unfold gL_fits
      rw [r3, Option.bind_some, if_neg r1]
    · unfold gM_fits
      rw [m_layErr r2 r4, Option.bind_some]
      dsimp only
      rw [if_neg r2, Option.bind_some]
  · obtain ⟨s1, f1, f2, f3, f4, f5⟩ := c_mkseen h hl hs rfl ht
    have hs1 : SLD l n s1 := by
      unfold SLD
      rw [f2 (286 + 2 * l) (by omega), f2 313 (by omega), f3]
      exact hs
    obtain ⟨s2, g1, g2, V, g3, g4, g5⟩ := m_layFits (R := s.2 (287 + 2 * l)) f4 h4 hl hs1 (by rw [f3]) ht
    refine ⟨nI (fiN D n (s.2 (287 + 2 * l)) (QN D)), s1, s2, D, ?_, fun a ha => f2 a (by omega), ?_, g2⟩
    · unfold gL_fits
      rw [hw, Option.bind_some, if_pos rfl, ix_ite (by omega) (by omega), nI_clamp (by omega), f1, Option.bind_some, f5.1]
    · unfold gM_fits
      rw [g1, Option.bind_some]
      dsimp only
      rw [if_pos (by decide), Option.bind_some, g3]
end SEEN3
