/-! SEEN: may, ask, leaves, laws -/
def bAx (g : Nat → Nat) (F : Nat) : Nat → Int32 × Nat
  | 0 => (-1, F)
  | w + 1 => if g w < (bAx g F w).2 then (nI w, g w) else bAx g F w
theorem bA_s (g : Nat → Nat) (F w : Nat) : bAx g F (w + 1) = if g w < (bAx g F w).2 then (nI w, g w) else bAx g F w := rfl
theorem bA_le {g : Nat → Nat} {F : Nat} : ∀ {w : Nat}, (bAx g F w).2 ≤ F := by
  intro w
  induction w with
  | zero => exact Nat.le_refl _
  | succ w ih =>
    rw [bA_s]
    split
    · show g w ≤ F
      omega
    · exact ih
theorem bA_is {g : Nat → Nat} {F : Nat} : ∀ {w : Nat}, ((bAx g F w).1 = -1 ∧ (bAx g F w).2 = F) ∨ ∃ v, v < w ∧ (bAx g F w).1 = nI v ∧ (bAx g F w).2 = g v := by
  intro w
  induction w with
  | zero => exact Or.inl ⟨rfl, rfl⟩
  | succ w ih =>
    rw [bA_s]
    split
    · exact Or.inr ⟨w, by omega, rfl, rfl⟩
    · rcases ih with h | ⟨v, h1, h2, h3⟩
      · exact Or.inl h
      · exact Or.inr ⟨v, by omega, h2, h3⟩
section SEEN4
variable {n w o b a k m l wd i j W c lw M : Nat} {s s' s'' t : mT} {D D' : RD} {xs : Nat → Int32} {R : Nat → Int64} {T : SU}
abbrev gAx (D : RD) (n : Nat) (R : Nat → Int64) (w : Nat) : Nat := mxN (fun b => cwN D n R w b (QN D)) 5
theorem cnt_f {p : Nat → Bool} : ∀ {m : Nat}, (∀ i, i < m → p i = false) → cntB p m = 0 := by
  intro m
  induction m with
  | zero => intro _; rfl
  | succ m ih =>
    intro h
    rw [cnt_s, ih (fun i hi => h i (by omega)), h m (by omega)]
    rfl
theorem cw_0 (hV : VD D) (hw : w < D 6 0) (hb : D 5 0 ≤ b) : cwN D n R w b (QN D) = 0 := cnt_f (fun i hi => by
  have := (lk_fo hV hi w hw).1
  rw [decide_eq_false (show ¬ lkN D i w = b by omega), Bool.and_false])
theorem mx_ext {f : Nat → Nat} {B : Nat} (h : ∀ b, B ≤ b → f b = 0) : ∀ j, mxN f (B + j) = mxN f B := by
  intro j
  induction j with
  | zero => rfl
  | succ j ih =>
    show max (mxN f (B + j)) (f (B + j)) = mxN f B
    rw [ih, h _ (by omega)]
    omega
theorem g_B (hV : VD D) (hw : w < D 6 0) : mxN (fun b => cwN D n R w b (QN D)) (D 5 0) = gAx D n R w := by
  have := mx_ext (f := fun b => cwN D n R w b (QN D)) (B := D 5 0) (fun b hb => cw_0 hV hw hb) (5 - D 5 0)
  have h5 := hV.1.2.2.2.2.2.1
  rw [show D 5 0 + (5 - D 5 0) = 5 by omega] at this
  exact this.symm
theorem g_le (hV : VD D) : gAx D n R w ≤ 3125 := mx_le (fun b _ => Nat.le_trans cw_le (QN_le hV).1)
theorem c_boats (hV : VD D) (hS : SNc D n R (QN D) s) (hw : w < D 6 0) : gE_boatsOf (nI w) s = some (nI (bmN (fun b => decide (0 < cwN D n R w b (QN D))) 5)) := by
  have hd := hV.1
  have hq := QN_le hV
  have e : wh FU (gE_boatsOf_h4 (nI w) s) ((0 : Int32), (0 : Int32)) = some (nI (bmN (fun b => decide (0 < cwN D n R w b (QN D))) 5)) := by
    refine wh_for (fun k => (nI (bmN (fun b => decide (0 < cwN D n R w b (QN D))) k), nI k)) 5 (fun k hk => ?_) ?_ FU (FU_gt (by omega))
    · have cl := cw_le (D := D) (n := n) (R := R) (w := w) (b := k) (k := QN D)
      unfold gE_boatsOf_h4
      dsimp only
      rw [show (5 : Int32) = nI 5 from rfl, if_neg (nle (by omega) (by omega) (by omega)), ix_ite (by omega) (by omega), nI_clamp (by omega), rd_n (by omega) (by omega), Option.bind_some, hS.2 w k hw hk, bm_s]
      by_cases e0 : 0 < cwN D n R w k (QN D)
      · rw [if_neg (show ¬ nI (cwN D n R w k (QN D)) ≤ (0 : Int32) from nle (b := 0) (by omega) (by omega) (by omega)), if_pos (decide_eq_true e0), or_new (by omega), Option.bind_some, nI_1]
      · rw [if_pos (show nI (cwN D n R w k (QN D)) ≤ (0 : Int32) from nI_le (b := 0) (by omega) (by omega)), if_neg (fun z => e0 (of_decide_eq_true z)), Nat.add_zero, Option.bind_some, nI_1]
    · unfold gE_boatsOf_h4
      dsimp only
      rw [show (5 : Int32) = nI 5 from rfl, if_pos (nI_le (Nat.le_refl _) (by omega))]
  unfold gE_boatsOf
  rw [e]
  rfl
theorem c_worst (hV : VD D) (hS : SNc D n R (QN D) s) (hw : w < D 6 0) : gE_worstOf (nI w) s = some (nI (gAx D n R w)) := by
  have hd := hV.1
  have hq := QN_le hV
  have e : wh FU (gE_worstOf_h4 (nI w) s) ((0 : Int32), (0 : Int32)) = some (nI (gAx D n R w)) := by
    refine wh_for (fun k => (nI (mxN (fun b => cwN D n R w b (QN D)) k), nI k)) 5 (fun k hk => ?_) ?_ FU (FU_gt (by omega))
    · have cl := cw_le (D := D) (n := n) (R := R) (w := w) (b := k) (k := QN D)
      have ml := mx_le (f := fun b => cwN D n R w b (QN D)) (m := k) (c := 3125) (fun b _ => Nat.le_trans cw_le hq.1)
      unfold gE_worstOf_h4
      dsimp only
      rw [show (5 : Int32) = nI 5 from rfl, if_neg (nle (by omega) (by omega) (by omega)), ix_ite (by omega) (by omega), nI_clamp (by omega), rd_n (by omega) (by omega), Option.bind_some, hS.2 w k hw hk, imax_n (by omega) (by omega), nI_1]
      rfl
    · unfold gE_worstOf_h4
      dsimp only
      rw [show (5 : Int32) = nI 5 from rfl, if_pos (nI_le (Nat.le_refl _) (by omega))]
  unfold gE_worstOf
  rw [e]
  rfl
theorem c_best (hV : VD D) (hR : RR 16 D s) (hS : SNc D n R (QN D) s) : gE_bestAsked s = some (bAx (gAx D n R) (fiN D n R (QN D)) (D 6 0)).1 := by
  have hd := hV.1
  have hq := QN_le hV
  have fl := fi_le (D := D) (n := n) (R := R) (k := QN D)
  have e : wh FU (gE_bestAsked_h9 s) ((-1 : Int32), s.1 225 3, (0 : Int32)) = some (bAx (gAx D n R) (fiN D n R (QN D)) (D 6 0)).1 := by
    rw [hS.1]
    refine wh_for (fun k => ((bAx (gAx D n R) (fiN D n R (QN D)) k).1, nI (bAx (gAx D n R) (fiN D n R (QN D)) k).2, nI k)) (D 6 0) (fun k hk => ?_) ?_ FU (FU_gt (by omega))
    · have gl := g_le (D := D) (n := n) (R := R) (w := k) hV
      have bl := bA_le (g := gAx D n R) (F := fiN D n R (QN D)) (w := k)
      unfold gE_bestAsked_h9
      dsimp only
      rw [hR.1.2.2.2.2.2.2.1, if_neg (nle (by omega) (by omega) (by omega)), c_worst hV hS hk, Option.bind_some, bA_s]
      by_cases e : gAx D n R k < (bAx (gAx D n R) (fiN D n R (QN D)) k).2
      · rw [if_pos e, if_neg (nle (by omega) (by omega) (by omega)), Option.bind_some, nI_1]
      · rw [if_neg e, if_pos (nI_le (by omega) (by omega)), Option.bind_some, nI_1]
    · unfold gE_bestAsked_h9
      dsimp only
      rw [hR.1.2.2.2.2.2.2.1, if_pos (nI_le (Nat.le_refl _) (by omega))]
  unfold gE_bestAsked
  rw [e]
  rfl
theorem m_may {V : Nat → Nat → Nat} (hV : VD D) (h34 : s.1 294 34 = nI (fiN D n R (QN D))) (hw : w < D 6 0) (hv : ∀ e, e < fiN D n R (QN D) → s.1 310 (5 * e + w) = nI (V e w) ∧ V e w ≤ 4) (hc : ∀ b, cntB (fun e => decide (V e w = b)) (fiN D n R (QN D)) = cwN D n R w b (QN D)) : wh FU (gM_may_h29 (nI w) s) ((0 : Int32), (0 : Int32)) = some (nI (bmN (fun b => decide (0 < cwN D n R w b (QN D))) 5)) := by
  have hd := hV.1
  have hq := QN_le hV
  have fl := fi_le (D := D) (n := n) (R := R) (k := QN D)
  have e0 : bmN (fun b => decide (0 < cntB (fun e => decide (V e w = b)) 0)) 5 = 0 := rfl
  have := wh_for (f := gM_may_h29 (nI w) s) (fun k => (nI (bmN (fun b => decide (0 < cntB (fun e => decide (V e w = b)) k)) 5), nI k)) (r := nI (bmN (fun b => decide (0 < cwN D n R w b (QN D))) 5)) (fiN D n R (QN D)) (fun k hk => by
    obtain ⟨v1, v2⟩ := hv k hk
    unfold gM_may_h29
    dsimp only
    rw [h34, if_neg (nle (by omega) (by omega) (by omega)), show (5 : Int32) = nI 5 from rfl, pk_mul, nI_add, rd_n (by omega) (by omega), Option.bind_some, v1, or_c (by omega) (by omega), nI_1]
    have : bmN (fun i => decide (0 < cntB (fun e => decide (V e w = i)) k) || decide (i = V k w)) 5 = bmN (fun b => decide (0 < cntB (fun e => decide (V e w = b)) (k + 1))) 5 := bmN_congr (fun b _ => by
      rw [cnt_s]
      by_cases e : V k w = b
      · rw [if_pos (decide_eq_true e), decide_eq_true e.symm, Bool.or_true, decide_eq_true (by omega)]
      · rw [if_neg (fun z => e (of_decide_eq_true z)), decide_eq_false (show ¬ b = V k w from fun z => e z.symm), Bool.or_false, Nat.add_zero])
    rw [this]) (by
    unfold gM_may_h29
    dsimp only
    rw [h34, if_pos (nI_le (Nat.le_refl _) (by omega))]
    have : bmN (fun b => decide (0 < cntB (fun e => decide (V e w = b)) (fiN D n R (QN D)))) 5 = bmN (fun b => decide (0 < cwN D n R w b (QN D))) 5 := bmN_congr (fun b _ => by rw [hc b])
    rw [this]) FU (FU_gt (by omega))
  rw [e0] at this
  exact this
theorem m_ask1 {V : Nat → Nat → Nat} {x y : Int32} (hV : VD D) (h34 : s.1 294 34 = nI (fiN D n R (QN D))) (hw : w < D 6 0) (hv : ∀ e, e < fiN D n R (QN D) → s.1 310 (5 * e + w) = nI (V e w) ∧ V e w ≤ 4) (hc : ∀ b, cntB (fun e => decide (V e w = b)) (fiN D n R (QN D)) = cwN D n R w b (QN D)) (hb : b < 5) : wh FU (gM_askOf_h44 x (nI w) y (nI b) s) ((0 : Int32), (0 : Int32)) = some (nI (cwN D n R w b (QN D))) := by
  have hd := hV.1
  have hq := QN_le hV
  have fl := fi_le (D := D) (n := n) (R := R) (k := QN D)
  have := wh_for (f := gM_askOf_h44 x (nI w) y (nI b) s) (fun k => (nI (cntB (fun e => decide (V e w = b)) k), nI k)) (r := nI (cwN D n R w b (QN D))) (fiN D n R (QN D)) (fun k hk => by
    obtain ⟨v1, v2⟩ := hv k hk
    unfold gM_askOf_h44
    dsimp only
    rw [h34, if_neg (nle (by omega) (by omega) (by omega)), show (5 : Int32) = nI 5 from rfl, pk_mul, nI_add, rd_n (by omega) (by omega), Option.bind_some, v1, ite_iff (nI_eq (a := V k w) (b := b) (by omega) (by omega)), cnt_s]
    by_cases e : V k w = b
    · rw [if_pos e, Option.bind_some, if_pos (decide_eq_true e), nI_1, nI_1]
    · rw [if_neg e, Option.bind_some, if_neg (fun z => e (of_decide_eq_true z)), nI_1, show (0 : Int32) = nI 0 from rfl, nI_add]) (by
    unfold gM_askOf_h44
    dsimp only
    rw [h34, if_pos (nI_le (Nat.le_refl _) (by omega)), hc b]) FU (FU_gt (by omega))
  exact this
theorem m_ask2 {V : Nat → Nat → Nat} {x : Int32} (hV : VD D) (hM : MA (s.1 295) D) (h34 : s.1 294 34 = nI (fiN D n R (QN D))) (hw : w < D 6 0) (hv : ∀ e, e < fiN D n R (QN D) → s.1 310 (5 * e + w) = nI (V e w) ∧ V e w ≤ 4) (hc : ∀ b, cntB (fun e => decide (V e w = b)) (fiN D n R (QN D)) = cwN D n R w b (QN D)) : wh FU (gM_askOf_h27 x (nI w) s) ((0 : Int32), (0 : Int32)) = some (nI (gAx D n R w)) := by
  have hd := hV.1
  have hq := QN_le hV
  have e4 : rdI (s.1 295) 79 (4 : Int32) = some (nI (D 5 0)) := (rd_n (k := 4) (by omega) (by omega)).trans (congrArg some hM.1.2.2.2.2.1)
  refine wh_for (fun k => (nI (mxN (fun b => cwN D n R w b (QN D)) k), nI k)) (D 5 0) (fun k hk => ?_) ?_ FU (FU_gt (by omega))
  · have cl := cw_le (D := D) (n := n) (R := R) (w := w) (b := k) (k := QN D)
    have ml := mx_le (f := fun b => cwN D n R w b (QN D)) (m := k) (c := 3125) (fun b _ => Nat.le_trans cw_le hq.1)
    unfold gM_askOf_h27
    dsimp only
    rw [e4, Option.bind_some, if_neg (nle (by omega) (by omega) (by omega)), m_ask1 hV h34 hw hv hc (by omega), Option.bind_some, imax_n (by omega) (by omega), nI_1]
    rfl
  · unfold gM_askOf_h27
    dsimp only
    rw [e4, Option.bind_some, if_pos (nI_le (Nat.le_refl _) (by omega)), g_B hV hw]
theorem m_ask (h : IV xs D s) (hL : ML D n R (QN D) s) : ∃ s', gM_askOf s = some ((bAx (gAx D n R) (fiN D n R (QN D)) (D 6 0)).1, s') ∧ IV xs D s' ∧ s'.1 294 35 = nI (bAx (gAx D n R) (fiN D n R (QN D)) (D 6 0)).2 := by
  have hV := h.V
  have hd := hV.1
  have hq := QN_le hV
  have fl := fi_le (D := D) (n := n) (R := R) (k := QN D)
  obtain ⟨V, z1, z2, z3⟩ := hL
  obtain ⟨t0, ht0⟩ : ∃ t0, t0 = stI s 294 35 (nI (fiN D n R (QN D))) := ⟨_, rfl⟩
  obtain ⟨r, f1, f2, f3, f4⟩ := wh_inv (f := gM_askOf_h12) (fun k q => q.1 = (bAx (gAx D n R) (fiN D n R (QN D)) k).1 ∧ q.2.1 = nI k ∧ Fp (fun a j => a = 294 ∧ j = 35) s q.2.2 ∧ q.2.2.1 294 35 = nI (bAx (gAx D n R) (fiN D n R (QN D)) k).2) (fun r => r.1 = (bAx (gAx D n R) (fiN D n R (QN D)) (D 6 0)).1 ∧ Fp (fun a j => a = 294 ∧ j = 35) s r.2 ∧ r.2.1 294 35 = nI (bAx (gAx D n R) (fiN D n R (QN D)) (D 6 0)).2) (D 6 0) (fun k hk q hI => by
    obtain ⟨c1, c2, u⟩ := q
    obtain ⟨j1, j2, j3, j4⟩ := hI
    dsimp only at j1 j2 j3 j4
    subst j1 j2
    have gl := g_le (D := D) (n := n) (R := R) (w := k) hV
    have bl := bA_le (g := gAx D n R) (F := fiN D n R (QN D)) (w := k)
    have mu : MA (u.1 295) D := by rw [j3.fn (fun k => by omega)]; exact h.M
    have e5 : rdI (u.1 295) 79 (5 : Int32) = some (nI (D 6 0)) := (rd_n (k := 5) (by omega) (by omega)).trans (congrArg some mu.1.2.2.2.2.2.1)
    have a2 := m_ask2 (s := u) (n := n) (R := R) (V := V) (x := (bAx (gAx D n R) (fiN D n R (QN D)) k).1) (w := k) hV mu (by rw [j3.1 294 34 (by omega)]; exact z1) hk (fun e he => by rw [j3.1 310 _ (by omega)]; exact z2 e k he hk) (fun b => z3 k b hk)
    by_cases e : gAx D n R k < (bAx (gAx D n R) (fiN D n R (QN D)) k).2
    · refine ⟨(nI k, nI (k + 1), stI u 294 35 (nI (gAx D n R k))), ?_, by rw [bA_s, if_pos e], rfl, j3.tr (Fp.st ⟨rfl, rfl⟩), by rw [bA_s, if_pos e]; exact stI_eq⟩
      unfold gM_askOf_h12
      dsimp only
      rw [e5, Option.bind_some, if_neg (nle (by omega) (by omega) (by omega)), a2, Option.bind_some, j4, if_pos (nI_lt e (by omega)), Option.bind_some, nI_1]
    · refine ⟨((bAx (gAx D n R) (fiN D n R (QN D)) k).1, nI (k + 1), u), ?_, by rw [bA_s, if_neg e], rfl, j3, by rw [bA_s, if_neg e]; exact j4⟩
      unfold gM_askOf_h12
      dsimp only
      rw [e5, Option.bind_some, if_neg (nle (by omega) (by omega) (by omega)), a2, Option.bind_some, j4, if_neg (nlt (by omega) (by omega) e), Option.bind_some, nI_1]) (fun q hI => by
    obtain ⟨c1, c2, u⟩ := q
    obtain ⟨j1, j2, j3, j4⟩ := hI
    dsimp only at j1 j2 j3 j4
    subst j1 j2
    have mu : MA (u.1 295) D := by rw [j3.fn (fun k => by omega)]; exact h.M
    refine ⟨((bAx (gAx D n R) (fiN D n R (QN D)) (D 6 0)).1, u), ?_, rfl, j3, j4⟩
    unfold gM_askOf_h12
    dsimp only
    rw [show rdI (u.1 295) 79 (5 : Int32) = some (nI (D 6 0)) from (rd_n (k := 5) (by omega) (by omega)).trans (congrArg some mu.1.2.2.2.2.2.1), Option.bind_some, if_pos (nI_le (Nat.le_refl _) (by omega))]) (q := ((-1 : Int32), (0 : Int32), t0)) ⟨rfl, rfl, by rw [ht0]; exact Fp.st ⟨rfl, rfl⟩, by rw [ht0]; exact stI_eq⟩ FU (FU_gt (by omega))
  obtain ⟨r1, r2⟩ := r
  dsimp only at f2 f3 f4
  subst f2
  refine ⟨r2, ?_, h.kp (KP.of f3 (fun a j z => by unfold pK; omega)), f4⟩
  unfold gM_askOf
  rw [z1, ← ht0, f1, Option.bind_some]
theorem seen_both (h : IV xs D s) (h4 : 0 < D 4 0) (hl : l < 4) (hs : SLD l n s) (ht : TPB D n (s.2 (287 + 2 * l)) = true) : ∃ s1 s2, gE_makeIfStale (nI l) (286 + 2 * l) s = some s1 ∧ (∀ a, a < 121 ∨ 246 < a → s1.1 a = s.1 a) ∧ IV xs D s1 ∧ SNc D n (s.2 (287 + 2 * l)) (QN D) s1 ∧ gM_layFits (nI l) s1 = some (0, s2) ∧ IV xs D s2 ∧ ML D n (s.2 (287 + 2 * l)) (QN D) s2 := by
  obtain ⟨s1, f1, f2, f3, f4, f5⟩ := c_mkseen h hl hs rfl ht
  have hs1 : SLD l n s1 := by
    unfold SLD
    rw [f2 (286 + 2 * l) (by omega), f2 313 (by omega), f3]
    exact hs
  obtain ⟨s2, g1, g2, g3⟩ := m_layFits (R := s.2 (287 + 2 * l)) f4 h4 hl hs1 (by rw [f3]) ht
  exact ⟨s1, s2, f1, f2, f4, f5, g1, g2, g3⟩
theorem a_may (v1 v2 : Int32) : AS (gL_may v1 v2) (gM_may v1 v2) := fun xs D s h => by
  have eXB : XB = 1000000 := rfl
  by_cases g : 0 ≤ v2.toInt ∧ v2.toInt < (D 6 0 : Int)
  · rcases seen_is h v1 with ⟨r, r1, r2, r3, r4⟩ | ⟨l, n, hl, rfl, h4, hs, ht, hw⟩
    · refine AS_err (r := r) h ?_ ?_
      · unfold gL_may
        rw [h.hasW, Option.bind_some, bz_if, if_pos g, r3, Option.bind_some, if_neg r1]
      · unfold gM_may
        rw [h.mW, Option.bind_some, bz_if, if_pos g, m_layErr r2 r4, Option.bind_some]
        dsimp only
        rw [if_neg r2]
    · obtain ⟨s1, s2, f1, f2, f3, f4, f5, f6, V, z1, z2, z3⟩ := seen_both h h4 hl hs ht
      have g' := g
      obtain ⟨w, hww, rfl⟩ := of_in g
      refine ⟨nI (bmN (fun b => decide (0 < cwN D n (s.2 (287 + 2 * l)) w b (QN D))) 5), s1, s2, D, ?_, fun a ha => f2 a (by omega), ?_, f6⟩
      · unfold gL_may
        rw [h.hasW, Option.bind_some, bz_if, if_pos g', hw, Option.bind_some, if_pos rfl, ix_ite (by omega) (by omega), nI_clamp (by omega), f1, Option.bind_some, c_boats h.V f4 hww, Option.bind_some]
      · unfold gM_may
        rw [f3.mW, Option.bind_some, bz_if, if_pos g', f5, Option.bind_some]
        dsimp only
        rw [if_pos (by decide), m_may h.V z1 hww (fun e he => z2 e w he hww) (fun b => z3 w b hww), Option.bind_some]
  · refine AS_err (r := -2) h ?_ ?_
    · unfold gL_may
      rw [h.hasW, Option.bind_some, bz_if, if_neg g]
    · unfold gM_may
      rw [h.mW, Option.bind_some, bz_if, if_neg g]
theorem a_ask (v1 : Int32) : AS (gL_ask v1) (gM_ask v1) := fun xs D s h => by
  have eXB : XB = 1000000 := rfl
  rcases seen_is h v1 with ⟨r, r1, r2, r3, r4⟩ | ⟨l, n, hl, rfl, h4, hs, ht, hw⟩
  · refine AS_err (r := r) h ?_ ?_
    · unfold gL_ask
      rw [r3, Option.bind_some, if_neg r1]
    · unfold gM_ask
      rw [m_layErr r2 r4, Option.bind_some]
      dsimp only
      rw [if_neg r2, Option.bind_some]
  · obtain ⟨s1, s2, f1, f2, f3, f4, f5, f6, f7⟩ := seen_both h h4 hl hs ht
    obtain ⟨s3, y1, y2, y3⟩ := m_ask f6 f7
    refine ⟨(bAx (gAx D n (s.2 (287 + 2 * l))) (fiN D n (s.2 (287 + 2 * l)) (QN D)) (D 6 0)).1, s1, s3, D, ?_, fun a ha => f2 a (by omega), ?_, y2⟩
    · unfold gL_ask
      rw [hw, Option.bind_some, if_pos rfl, ix_ite (by omega) (by omega), nI_clamp (by omega), f1, Option.bind_some, c_best h.V f3.R f4, Option.bind_some]
    · unfold gM_ask
      rw [f5, Option.bind_some]
      dsimp only
      rw [if_pos (by decide), y1, Option.bind_some, Option.bind_some]
theorem a_leaves (v1 : Int32) : AS (gL_leaves v1) (gM_leaves v1) := fun xs D s h => by
  have eXB : XB = 1000000 := rfl
  have hd := h.bd
  rcases seen_is h v1 with ⟨r, r1, r2, r3, r4⟩ | ⟨l, n, hl, rfl, h4, hs, ht, hw⟩
  · refine AS_err (r := r) h ?_ ?_
    · unfold gL_leaves
      rw [r3, Option.bind_some, if_neg r1]
    · unfold gM_leaves
      rw [m_layErr r2 r4, Option.bind_some]
      dsimp only
      rw [if_neg r2]
  · obtain ⟨s1, s2, f1, f2, f3, f4, f5, f6, f7⟩ := seen_both h h4 hl hs ht
    obtain ⟨s3, y1, y2, y3⟩ := m_ask f6 f7
    refine ⟨nI (bAx (gAx D n (s.2 (287 + 2 * l))) (fiN D n (s.2 (287 + 2 * l)) (QN D)) (D 6 0)).2, s1, s3, D, ?_, fun a ha => f2 a (by omega), ?_, y2⟩
    · unfold gL_leaves
      rw [hw, Option.bind_some, if_pos rfl, ix_ite (by omega) (by omega), nI_clamp (by omega), f1, Option.bind_some, c_best h.V f3.R f4, Option.bind_some]
      rcases bA_is (g := gAx D n (s.2 (287 + 2 * l))) (F := fiN D n (s.2 (287 + 2 * l)) (QN D)) (w := D 6 0) with ⟨b1, b2⟩ | ⟨v, bv, b1, b2⟩
      · rw [b1, if_pos rfl, Option.bind_some, b2, f4.1]
      · rw [b1, if_neg (m1_n (by omega)), c_worst h.V f4 bv, Option.bind_some, Option.bind_some, b2]
    · unfold gM_leaves
      rw [f5, Option.bind_some]
      dsimp only
      rw [if_pos (by decide), y1, Option.bind_some, y3]
end SEEN4
