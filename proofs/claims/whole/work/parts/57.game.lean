/-! GAME: two who look as they like -/
theorem ff_iff {p : Nat → Bool} {m a : Nat} : (ffN p m a).isSome = true ↔ ∃ k, a ≤ k ∧ k < a + m ∧ p k = true := by
  constructor
  · intro h
    cases hf : ffN p m a with
    | none => rw [hf] at h; cases h
    | some k =>
      obtain ⟨h1, h2, h3, -⟩ := ffN_some hf
      exact ⟨k, h1, h2, h3⟩
  · rintro ⟨k, h1, h2, h3⟩
    cases hf : ffN p m a with
    | none => rw [ffN_none hf k h1 h2] at h3; cases h3
    | some _ => rfl
def mxF (f : Nat → Nat) (lo : Nat) : Nat → Nat
  | 0 => 0
  | j + 1 => max (mxF f lo j) (f (lo + j))
theorem mxF_iff {f : Nat → Nat} {lo v : Nat} : ∀ {j : Nat}, v < mxF f lo j ↔ ∃ k, lo ≤ k ∧ k < lo + j ∧ v < f k := by
  intro j
  induction j with
  | zero => exact ⟨fun z => absurd z (Nat.not_lt_zero _), fun ⟨k, h1, h2, _⟩ => by omega⟩
  | succ j ih =>
    show v < max (mxF f lo j) (f (lo + j)) ↔ _
    constructor
    · intro z
      by_cases h : v < mxF f lo j
      · obtain ⟨k, h1, h2, h3⟩ := ih.mp h
        exact ⟨k, h1, by omega, h3⟩
      · exact ⟨lo + j, by omega, by omega, by omega⟩
    · rintro ⟨k, h1, h2, h3⟩
      by_cases e : k = lo + j
      · subst e; omega
      · have := ih.mpr ⟨k, h1, by omega, h3⟩
        omega
theorem mxF_ff {f : Nat → Nat} {lo j v : Nat} : (v < mxF f lo j) ↔ (ffN (fun k => decide (v < f k)) j lo).isSome = true := by
  rw [mxF_iff, ff_iff]
  simp only [decide_eq_true_eq]
theorem mxF_le {f : Nat → Nat} {lo j c : Nat} (h : ∀ k, lo ≤ k → k < lo + j → f k ≤ c) : mxF f lo j ≤ c := by
  by_cases z : c < mxF f lo j
  · obtain ⟨k, h1, h2, h3⟩ := mxF_iff.mp z
    have := h k h1 h2
    omega
  · omega
abbrev gmT (D : RD) (w o a b : Nat) : SU := tX D (D 1 0) (D 9) (D 10) (upN (upN (D 14) w a) o b) (sh0 D)
def gvN (D : RD) (w o a b : Nat) : Nat := rP D (gmT D w o a b) (D 0 0) (D 14 w)
def ovN (D : RD) (w o a b : Nat) : Nat := rP D (gmT D w o a b) (D 0 0) (D 14 o)
abbrev spN (D : RD) (w : Nat) : Nat := D 13 w - D 12 w + 1
def rsB (D : RD) (w o a b : Nat) : Bool := !(ffN (fun k => decide (gvN D w o a b < gvN D w o k b)) (spN D w) (D 12 w)).isSome && !(ffN (fun k => decide (ovN D w o a b < ovN D w o a k)) (spN D o) (D 12 o)).isSome
def rsP (D : RD) (w o a : Nat) : Nat → Nat × Int32 → Nat × Int32
  | 0, q => q
  | j + 1, q => if rsB D w o a (D 12 o + j) = true then ((rsP D w o a j q).1 + 1, if (rsP D w o a j q).1 = 0 then nI (10 * a + (D 12 o + j)) else (rsP D w o a j q).2) else rsP D w o a j q
def rsQ (D : RD) (w o : Nat) : Nat → Nat × Int32
  | 0 => (0, -1)
  | i + 1 => rsP D w o (D 12 w + i) (spN D o) (rsQ D w o i)
theorem rsP_le {D : RD} {w o a : Nat} {q : Nat × Int32} : ∀ j, (rsP D w o a j q).1 ≤ q.1 + j := by
  intro j
  induction j with
  | zero => exact Nat.le_refl _
  | succ j ih =>
    unfold rsP
    split
    · show _ + 1 ≤ _
      omega
    · omega
theorem rsQ_le {D : RD} {w o : Nat} : ∀ i, (rsQ D w o i).1 ≤ i * spN D o := by
  intro i
  induction i with
  | zero => exact Nat.zero_le _
  | succ i ih =>
    have := rsP_le (D := D) (w := w) (o := o) (a := D 12 w + i) (q := rsQ D w o i) (spN D o)
    show (rsP D w o (D 12 w + i) (spN D o) (rsQ D w o i)).1 ≤ _
    rw [Nat.succ_mul]
    omega
theorem up2 {f : Nat → Nat} {w o a b a' b' : Nat} (h : w ≠ o) : upN (upN (upN (upN f w a) o b) w a') o b' = upN (upN f w a') o b' := by
  funext i
  unfold upN
  by_cases h1 : i = o
  · simp only [if_pos h1]
  · by_cases h2 : i = w
    · simp only [if_neg h1, if_pos h2]
    · simp only [if_neg h1, if_neg h2]
/-- what the tables hold: all pairs ahead of (a, b) -/
def gTab (D : RD) (w o a b : Nat) (s : mT) : Prop := ∀ i j, D 12 w ≤ i → i ≤ D 13 w → D 12 o ≤ j → j ≤ D 13 o → (i < a ∨ (i = a ∧ j < b)) → s.1 (236 + i) j = nI (gvN D w o i j) ∧ s.1 (242 + i) j = nI (ovN D w o i j)
def mTab (D : RD) (w o a b : Nat) (s : mT) : Prop := ∀ i j, D 12 w ≤ i → i ≤ D 13 w → D 12 o ≤ j → j ≤ D 13 o → (i < a ∨ (i = a ∧ j < b)) → s.1 312 (2 * (5 * i + j)) = nI (gvN D w o i j) ∧ s.1 312 (2 * (5 * i + j) + 1) = nI (ovN D w o i j)
section GM
variable {n w o b a k m : Nat} {s s' : mT} {D : RD} {xs : Nat → Int32}
theorem IV.w4 (h : IV xs D s) (hw : w < D 6 0) : s.1 19 w = nI (D 11 w) ∧ s.1 20 w = nI (D 12 w) ∧ s.1 21 w = nI (D 13 w) ∧ s.1 22 w = nI (D 14 w) := h.R.2.2.1 w hw
theorem IV.wv (h : IV xs D s) (hw : w < D 6 0) : D 12 w ≤ D 14 w ∧ D 14 w ≤ D 13 w ∧ D 13 w < D 5 0 ∧ D 13 w ≤ 4 ∧ w < 5 := by
  have := h.V.2.2.1 w hw
  have := h.bd
  omega
theorem gv_le (h : IV xs D s) : gvN D w o a b ≤ 60 ∧ ovN D w o a b ≤ 60 := ⟨Nat.le_trans (rP_le _ _) h.bd.2.1, Nat.le_trans (rP_le _ _) h.bd.2.1⟩
theorem c_fill1 (h0 : IV xs D s) (hw : w < D 6 0) (ho : o < D 6 0) (hwo : w ≠ o) (ha : D 12 w ≤ a) (ha2 : a ≤ D 13 w) {t : mT} (i1 : KP s t) (i2 : IV xs D t) (i3 : ∃ fo, PR 121 D (tX D (D 1 0) (D 9) (D 10) fo (sh0 D)) t ∧ ∀ a b, upN (upN fo w a) o b = upN (upN (D 14) w a) o b) (i4 : gTab D w o a (D 12 o) t) : ∃ t', wh FU (gG_fill_h41 (nI w) (nI o) (nI a)) (nI (D 12 o), t) = some t' ∧ KP s t' ∧ IV xs D t' ∧ (∃ fo, PR 121 D (tX D (D 1 0) (D 9) (D 10) fo (sh0 D)) t' ∧ ∀ a b, upN (upN fo w a) o b = upN (upN (D 14) w a) o b) ∧ gTab D w o (a + 1) (D 12 o) t' := by
  have hd := h0.bd
  have vw := h0.wv hw
  have vo := h0.wv ho
  refine wh_cnt (f := gG_fill_h41 (nI w) (nI o) (nI a)) (fun b t => KP s t ∧ IV xs D t ∧ (∃ fo, PR 121 D (tX D (D 1 0) (D 9) (D 10) fo (sh0 D)) t ∧ ∀ a b, upN (upN fo w a) o b = upN (upN (D 14) w a) o b) ∧ gTab D w o a b t) _ (D 12 o) (D 13 o + 1) (by omega) (fun b hb1 hb2 t hI => ?_) (fun t hI => ?_) ⟨i1, i2, i3, i4⟩ rfl FU (FU_gt (by omega))
  · obtain ⟨j1, j2, ⟨fo, j3, j3'⟩, j4⟩ := hI
    have e1 := (j3.wfo (b := w) (v := a) (by omega) h0.V).wfo (b := o) (v := b) (by omega) h0.V
    rw [j3'] at e1
    obtain ⟨t0, ht0⟩ : ∃ t0, t0 = stI (stI t (121 + 3) w (nI a)) (121 + 3) o (nI b) := ⟨_, rfl⟩
    rw [← ht0] at e1
    have k0 : KP t t0 := by rw [ht0]; exact (KP.st (by unfold pK; omega)).tr (KP.st (by unfold pK; omega))
    have i0 := j2.kp k0
    obtain ⟨t1, x1, x2, x3, x4, x5⟩ := i0.sail e1 h0.V.1.2.1 (Nat.le_refl _)
    have fr := fr_sail i0 e1 h0.V.1.2.1 (Nat.le_refl _) x1
    have p1 : t1.1 (149 + D 0 0) (D 14 w) = nI (gvN D w o a b) := (x5.2.2.1 (D 0 0) (D 14 w) (Nat.le_refl _) (by omega)).1
    have p2 : t1.1 (149 + D 0 0) (D 14 o) = nI (ovN D w o a b) := (x5.2.2.1 (D 0 0) (D 14 o) (Nat.le_refl _) (by omega)).1
    have ow := x3.w4 hw
    have oo := x3.w4 ho
    have to := j2.w4 ho
    refine ⟨stI (stI t1 (236 + a) b (nI (gvN D w o a b))) (242 + a) b (nI (ovN D w o a b)), ?_, j1.tr (k0.tr (x2.tr ((KP.st (by unfold pK; omega)).tr (KP.st (by unfold pK; omega))))), (x3.wr (by unfold pK; omega)).wr (by unfold pK; omega), ⟨upN (upN (D 14) w a) o b, ?_, fun a' b' => up2 hwo⟩, fun i j h1 h2 h3 h4 h5 => ?_⟩
    · unfold gG_fill_h41
      dsimp only
      rw [rd_n (by omega) (by omega), Option.bind_some, to.2.2.1, if_neg (nlt (by omega) (by omega) (by omega)), wr_n (by omega) (by omega), Option.bind_some, wr_n (by omega) (by omega), Option.bind_some]
      rw [show stI (stI t 124 w (nI a)) 124 o (nI b) = t0 from ht0.symm, i0.N, x1, Option.bind_some, x3.N, ix_ite (by omega) (by omega), ix_ite (by omega) (by omega), rd_n (by omega) (by omega), Option.bind_some, ow.2.2.2, nI_clamp (by omega), nI_clamp (by omega), rd_n (by omega) (by omega), p1, Option.bind_some, wr_n (by omega) (by omega), Option.bind_some, ix_ite2 (by omega) (by omega), stI_ne (by omega), x3.N, ix_ite (by omega) (by omega), rd_n (by omega) (by omega), Option.bind_some, stI_ne (by omega), oo.2.2.2, nI_clamp (by omega), rd_n (by omega) (by omega), stI_ne (by omega), p2, Option.bind_some, wr_n (by omega) (by omega), Option.bind_some, nI_1]
    · refine x4.cg h0.V (fun c h1 h2 => ?_)
      rw [stI_fn (by omega), stI_fn (by omega)]
    · by_cases e : i = a ∧ j = b
      · obtain ⟨rfl, rfl⟩ := e
        rw [stI_ne (by omega), stI_eq, stI_eq]
        exact ⟨rfl, rfl⟩
      · have old := j4 i j h1 h2 h3 h4 (by omega)
        have ea : ∀ c, 236 ≤ c → c ≤ 246 → t1.1 c j = t.1 c j := fun c h6 h7 => by
          rw [fr.1 c (by omega), ht0, stI_ne (by omega), stI_ne (by omega)]
        refine ⟨?_, ?_⟩
        · rw [stI_ne (by omega), stI_at, if_neg (by omega), ea _ (by omega) (by omega)]
          exact old.1
        · rw [stI_at, if_neg (by omega), stI_ne (by omega), ea _ (by omega) (by omega)]
          exact old.2
  · obtain ⟨j1, j2, j3, j4⟩ := hI
    have to := j2.w4 ho
    refine ⟨t, ?_, j1, j2, j3, fun i j h1 h2 h3 h4 h5 => j4 i j h1 h2 h3 h4 (by omega)⟩
    unfold gG_fill_h41
    dsimp only
    rw [rd_n (by omega) (by omega), Option.bind_some, to.2.2.1, if_pos (nI_lt (by omega) (by omega))]
theorem c_fill (h : IV xs D s) (hw : w < D 6 0) (ho : o < D 6 0) (hwo : w ≠ o) : ∃ s', gG_fill (nI w) (nI o) s = some s' ∧ KP s s' ∧ IV xs D s' ∧ gTab D w o (D 13 w + 1) (D 12 o) s' := by
  have hd := h.bd
  have vw := h.wv hw
  have vo := h.wv ho
  obtain ⟨s1, f1, f2, f3, f4⟩ := h.prep
  obtain ⟨s2, g1, g2, g3, g4, g5⟩ := wh_cnt (f := gG_fill_h17 (nI w) (nI o)) (fun a t => KP s t ∧ IV xs D t ∧ (∃ fo, PR 121 D (tX D (D 1 0) (D 9) (D 10) fo (sh0 D)) t ∧ ∀ a b, upN (upN fo w a) o b = upN (upN (D 14) w a) o b) ∧ gTab D w o a (D 12 o) t) (fun t => KP s t ∧ IV xs D t ∧ (∃ fo, PR 121 D (tX D (D 1 0) (D 9) (D 10) fo (sh0 D)) t ∧ ∀ a b, upN (upN fo w a) o b = upN (upN (D 14) w a) o b) ∧ gTab D w o (D 13 w + 1) (D 12 o) t) (D 12 w) (D 13 w + 1) (by omega) (fun a ha1 ha2 t hI => by
    obtain ⟨j1, j2, j3, j4⟩ := hI
    obtain ⟨t1, x1, x2⟩ := c_fill1 h hw ho hwo ha1 (by omega) j1 j2 j3 j4
    have tw := j2.w4 hw
    have to := j2.w4 ho
    refine ⟨t1, ?_, x2⟩
    unfold gG_fill_h17
    dsimp only
    rw [rd_n (by omega) (by omega), Option.bind_some, tw.2.2.1, if_neg (nlt (by omega) (by omega) (by omega)), rd_n (by omega) (by omega), Option.bind_some, to.2.1, x1, Option.bind_some, nI_1]) (fun t hI => by
    have tw := hI.2.1.w4 hw
    refine ⟨t, ?_, hI⟩
    unfold gG_fill_h17
    dsimp only
    rw [rd_n (by omega) (by omega), Option.bind_some, tw.2.2.1, if_pos (nI_lt (by omega) (by omega))]) (s := s1) ⟨f2, f3, ⟨_, f4, fun a b => rfl⟩, fun i j h1 h2 h3 h4 h5 => by omega⟩ (i := nI (D 12 w)) rfl FU (FU_gt (by omega))
  refine ⟨s2, ?_, g2, g3, g5⟩
  unfold gG_fill
  rw [f1, Option.bind_some, rd_n (by omega) (by omega), Option.bind_some, (f3.w4 hw).2.1, g1]
  rfl
theorem c_against (h : IV xs D s) (hw : w < D 6 0) (ho : o < D 6 0) (ht : gTab D w o (D 13 w + 1) (D 12 o) s) (hb1 : D 12 o ≤ b) (hb2 : b ≤ D 13 o) : gG_mostAgainst (nI w) (nI b) s = some (nI (mxF (fun k => gvN D w o k b) (D 12 w) (spN D w))) := by
  have hd := h.bd
  have vw := h.wv hw
  have vo := h.wv ho
  have sw : spN D w = D 13 w - D 12 w + 1 := rfl
  have so : spN D o = D 13 o - D 12 o + 1 := rfl
  have tw := h.w4 hw
  have e : wh FU (gG_mostAgainst_h13 (nI w) (nI b) s) ((0 : Int32), nI (D 12 w)) = some (nI (mxF (fun k => gvN D w o k b) (D 12 w) (spN D w))) := by
    refine wh_for (fun j => (nI (mxF (fun k => gvN D w o k b) (D 12 w) j), nI (D 12 w + j))) (spN D w) (fun j hj => ?_) ?_ FU (FU_gt (by omega))
    · have g := (ht (D 12 w + j) b (by omega) (by omega) hb1 hb2 (by omega)).1
      have l1 := (gv_le (w := w) (o := o) (a := D 12 w + j) (b := b) h).1
      have l2 := mxF_le (f := fun k => gvN D w o k b) (lo := D 12 w) (j := j) (c := 60) (fun k _ _ => (gv_le h).1)
      unfold gG_mostAgainst_h13
      dsimp only
      rw [rd_n (by omega) (by omega), Option.bind_some, tw.2.2.1, if_neg (nlt (by omega) (by omega) (by omega)), ix_ite (by omega) (by omega), nI_clamp (by omega), rd_n (by omega) (by omega), Option.bind_some, g, imax_n (by omega) (by omega), nI_1]
      rfl
    · unfold gG_mostAgainst_h13
      dsimp only
      rw [rd_n (by omega) (by omega), Option.bind_some, tw.2.2.1, if_pos (nI_lt (by omega) (by omega))]
  unfold gG_mostAgainst
  rw [rd_n (by omega) (by omega), Option.bind_some, tw.2.1, e]
  rfl
theorem c_beside (h : IV xs D s) (hw : w < D 6 0) (ho : o < D 6 0) (ht : gTab D w o (D 13 w + 1) (D 12 o) s) (ha1 : D 12 w ≤ a) (ha2 : a ≤ D 13 w) : gG_mostBeside (nI o) (nI a) s = some (nI (mxF (fun k => ovN D w o a k) (D 12 o) (spN D o))) := by
  have hd := h.bd
  have vw := h.wv hw
  have vo := h.wv ho
  have sw : spN D w = D 13 w - D 12 w + 1 := rfl
  have so : spN D o = D 13 o - D 12 o + 1 := rfl
  have to := h.w4 ho
  have e : wh FU (gG_mostBeside_h13 (nI o) (nI a) s) ((0 : Int32), nI (D 12 o)) = some (nI (mxF (fun k => ovN D w o a k) (D 12 o) (spN D o))) := by
    refine wh_for (fun j => (nI (mxF (fun k => ovN D w o a k) (D 12 o) j), nI (D 12 o + j))) (spN D o) (fun j hj => ?_) ?_ FU (FU_gt (by omega))
    · have g := (ht a (D 12 o + j) ha1 ha2 (by omega) (by omega) (by omega)).2
      have l1 := (gv_le (w := w) (o := o) (a := a) (b := D 12 o + j) h).2
      have l2 := mxF_le (f := fun k => ovN D w o a k) (lo := D 12 o) (j := j) (c := 60) (fun k _ _ => (gv_le h).2)
      unfold gG_mostBeside_h13
      dsimp only
      rw [rd_n (by omega) (by omega), Option.bind_some, to.2.2.1, if_neg (nlt (by omega) (by omega) (by omega)), ix_ite (by omega) (by omega), nI_clamp (by omega), rd_n (by omega) (by omega), Option.bind_some, g, imax_n (by omega) (by omega), nI_1]
      rfl
    · unfold gG_mostBeside_h13
      dsimp only
      rw [rd_n (by omega) (by omega), Option.bind_some, to.2.2.1, if_pos (nI_lt (by omega) (by omega))]
  unfold gG_mostBeside
  rw [rd_n (by omega) (by omega), Option.bind_some, to.2.1, e]
  rfl
def gRes (q : Nat × Int32) (s : mT) : Prop := s.1 234 4 = nI q.1 ∧ s.1 234 5 = q.2
def mRes (q : Nat × Int32) (s : mT) : Prop := s.1 294 38 = nI q.1 ∧ s.1 294 39 = q.2
theorem gTab_st {a' b' k : Nat} {x : Int32} (h : gTab D w o a' b' s) : gTab D w o a' b' (stI s 234 k x) := fun i j h1 h2 h3 h4 h5 => by
  rw [stI_ne (by omega), stI_ne (by omega)]
  exact h i j h1 h2 h3 h4 h5
theorem mTab_st {a' b' k : Nat} {x : Int32} (h : mTab D w o a' b' s) : mTab D w o a' b' (stI s 294 k x) := fun i j h1 h2 h3 h4 h5 => by
  rw [stI_ne (by omega), stI_ne (by omega)]
  exact h i j h1 h2 h3 h4 h5
theorem c_play1 (h0 : IV xs D s) (hw : w < D 6 0) (ho : o < D 6 0) (ha : D 12 w ≤ a) (ha2 : a ≤ D 13 w) {t : mT} {q : Nat × Int32} (hq : q.1 ≤ 100) (i1 : KP s t) (i2 : IV xs D t) (i3 : gTab D w o (D 13 w + 1) (D 12 o) t) (i4 : gRes q t) : ∃ t', wh FU (gG_play_h50 (nI w) (nI o) (nI a)) (nI (D 12 o), t) = some t' ∧ KP s t' ∧ IV xs D t' ∧ gTab D w o (D 13 w + 1) (D 12 o) t' ∧ gRes (rsP D w o a (spN D o) q) t' := by
  have hd := h0.bd
  have vw := h0.wv hw
  have vo := h0.wv ho
  have sw : spN D w = D 13 w - D 12 w + 1 := rfl
  have so : spN D o = D 13 o - D 12 o + 1 := rfl
  refine wh_cnt (f := gG_play_h50 (nI w) (nI o) (nI a)) (fun b t => KP s t ∧ IV xs D t ∧ gTab D w o (D 13 w + 1) (D 12 o) t ∧ gRes (rsP D w o a (b - D 12 o) q) t) _ (D 12 o) (D 13 o + 1) (by omega) (fun b hb1 hb2 t hI => ?_) (fun t hI => ?_) ⟨i1, i2, i3, by rw [Nat.sub_self]; exact i4⟩ rfl FU (FU_gt (by omega))
  · obtain ⟨j1, j2, j3, j4, j5⟩ := hI
    have to := j2.w4 ho
    obtain ⟨g1, g2⟩ := j3 a b ha ha2 hb1 (by omega) (by omega)
    have l1 := (gv_le (w := w) (o := o) (a := a) (b := b) h0)
    have l2 := mxF_le (f := fun k => gvN D w o k b) (lo := D 12 w) (j := spN D w) (c := 60) (fun k _ _ => (gv_le h0).1)
    have l3 := mxF_le (f := fun k => ovN D w o a k) (lo := D 12 o) (j := spN D o) (c := 60) (fun k _ _ => (gv_le h0).2)
    have rl := rsP_le (D := D) (w := w) (o := o) (a := a) (q := q) (b - D 12 o)
    have e1 : b + 1 - D 12 o = (b - D 12 o) + 1 := by omega
    have e2 : D 12 o + (b - D 12 o) = b := by omega
    have er : rsP D w o a (b + 1 - D 12 o) q = if rsB D w o a b = true then ((rsP D w o a (b - D 12 o) q).1 + 1, if (rsP D w o a (b - D 12 o) q).1 = 0 then nI (10 * a + b) else (rsP D w o a (b - D 12 o) q).2) else rsP D w o a (b - D 12 o) q := by
      rw [e1]
      show (if rsB D w o a (D 12 o + (b - D 12 o)) = true then _ else _) = _
      rw [e2]
    rw [er]
    generalize rsP D w o a (b - D 12 o) q = r at *
    unfold gG_play_h50
    dsimp only
    rw [rd_n (by omega) (by omega), Option.bind_some, to.2.2.1, if_neg (nlt (by omega) (by omega) (by omega)), ix_ite (by omega) (by omega), nI_clamp (by omega), rd_n (by omega) (by omega), Option.bind_some, g1, c_against j2 hw ho j3 hb1 (by omega), Option.bind_some, ite_iff ((nI_ltI (by omega) (by omega)).trans mxF_ff)]
    unfold rsB
    cases (ffN (fun k => decide (gvN D w o a b < gvN D w o k b)) (spN D w) (D 12 w)).isSome with
    | true => exact ⟨t, by rw [if_pos rfl, Option.bind_some, nI_1], j1, j2, j3, by rw [Bool.not_true, Bool.false_and, if_neg (by decide)]; exact ⟨j4, j5⟩⟩
    | false =>
      rw [if_neg (by decide), ix_ite2 (by omega) (by omega), rd_n (by omega) (by omega), Option.bind_some, g2, c_beside j2 hw ho j3 ha ha2, Option.bind_some, ite_iff ((nI_ltI (by omega) (by omega)).trans mxF_ff)]
      cases (ffN (fun k => decide (ovN D w o a b < ovN D w o a k)) (spN D o) (D 12 o)).isSome with
      | true => exact ⟨t, by rw [if_pos rfl, Option.bind_some, nI_1], j1, j2, j3, by rw [Bool.not_true, Bool.and_false, if_neg (by decide)]; exact ⟨j4, j5⟩⟩
      | false =>
        rw [if_neg (by decide), j4, j5, show (10 : Int32) = nI 10 from rfl, pk_mul, nI_add, ite_iff (show (nI r.1 = (0 : Int32)) ↔ r.1 = 0 from nI_eq (b := 0) (by omega) (by omega))]
        have es : (if r.1 = 0 then some (nI (10 * a + b)) else some r.2) = some (if r.1 = 0 then nI (10 * a + b) else r.2) := by split <;> rfl
        rw [es, Option.bind_some, Option.bind_some, stI_nk (by omega), j4, nI_1, nI_1]
        refine ⟨_, rfl, j1.tr ((KP.st (by unfold pK; omega)).tr (KP.st (by unfold pK; omega))), (j2.wr (by unfold pK; omega)).wr (by unfold pK; omega), gTab_st (gTab_st j3), ?_⟩
        rw [Bool.not_false, Bool.and_self, if_pos rfl]
        exact ⟨stI_eq, by rw [stI_nk (by omega), stI_eq]⟩
  · obtain ⟨j1, j2, j3, j4⟩ := hI
    have to := j2.w4 ho
    refine ⟨t, ?_, j1, j2, j3, by rw [show spN D o = D 13 o + 1 - D 12 o by show D 13 o - D 12 o + 1 = _; omega]; exact j4⟩
    unfold gG_play_h50
    dsimp only
    rw [rd_n (by omega) (by omega), Option.bind_some, to.2.2.1, if_pos (nI_lt (by omega) (by omega))]
theorem rsQ_100 (h : IV xs D s) (ho : o < D 6 0) {i : Nat} (hi : i ≤ 5) : (rsQ D w o i).1 ≤ 25 := by
  have := rsQ_le (D := D) (w := w) (o := o) i
  have vo := h.wv ho
  have h2 : spN D o ≤ 5 := by show D 13 o - D 12 o + 1 ≤ 5; omega
  have : i * spN D o ≤ 5 * 5 := Nat.mul_le_mul hi h2
  omega
theorem c_play (h : IV xs D s) (hw : w < D 6 0) (ho : o < D 6 0) (hwo : w ≠ o) : ∃ s', gG_play (nI w) (nI o) s = some s' ∧ KP s s' ∧ IV xs D s' ∧ gRes (rsQ D w o (spN D w)) s' := by
  have hd := h.bd
  have vw := h.wv hw
  have vo := h.wv ho
  have sw : spN D w = D 13 w - D 12 w + 1 := rfl
  have so : spN D o = D 13 o - D 12 o + 1 := rfl
  obtain ⟨s1, f1, f2, f3, f4⟩ := c_fill h hw ho hwo
  obtain ⟨t0, ht0⟩ : ∃ t0, t0 = stI (stI s1 234 4 (0 : Int32)) 234 5 (-1 : Int32) := ⟨_, rfl⟩
  have k0 : KP s1 t0 := by rw [ht0]; exact (KP.st (by unfold pK; omega)).tr (KP.st (by unfold pK; omega))
  have i0 := f3.kp k0
  obtain ⟨s2, g1, g2, g3, g4, g5⟩ := wh_cnt (f := gG_play_h26 (nI w) (nI o)) (fun a t => KP s t ∧ IV xs D t ∧ gTab D w o (D 13 w + 1) (D 12 o) t ∧ gRes (rsQ D w o (a - D 12 w)) t) (fun t => KP s t ∧ IV xs D t ∧ gTab D w o (D 13 w + 1) (D 12 o) t ∧ gRes (rsQ D w o (spN D w)) t) (D 12 w) (D 13 w + 1) (by omega) (fun a ha1 ha2 t hI => by
    obtain ⟨j1, j2, j3, j4⟩ := hI
    have rl := rsQ_100 (w := w) (i := a - D 12 w) h ho (by omega)
    obtain ⟨t1, x1, x2, x3, x4, x5⟩ := c_play1 h hw ho ha1 (by omega) (by omega) j1 j2 j3 j4
    have tw := j2.w4 hw
    have to := j2.w4 ho
    refine ⟨t1, ?_, x2, x3, x4, ?_⟩
    · unfold gG_play_h26
      dsimp only
      rw [rd_n (by omega) (by omega), Option.bind_some, tw.2.2.1, if_neg (nlt (by omega) (by omega) (by omega)), rd_n (by omega) (by omega), Option.bind_some, to.2.1, x1, Option.bind_some, nI_1]
    · rw [show a + 1 - D 12 w = (a - D 12 w) + 1 by omega]
      show gRes (rsP D w o (D 12 w + (a - D 12 w)) (spN D o) (rsQ D w o (a - D 12 w))) t1
      rw [show D 12 w + (a - D 12 w) = a by omega]
      exact x5) (fun t hI => by
    have tw := hI.2.1.w4 hw
    refine ⟨t, ?_, hI.1, hI.2.1, hI.2.2.1, by rw [show spN D w = D 13 w + 1 - D 12 w by show D 13 w - D 12 w + 1 = _; omega]; exact hI.2.2.2⟩
    unfold gG_play_h26
    dsimp only
    rw [rd_n (by omega) (by omega), Option.bind_some, tw.2.2.1, if_pos (nI_lt (by omega) (by omega))]) (s := t0) ⟨f2.tr k0, i0, by rw [ht0]; exact gTab_st (gTab_st f4), by rw [Nat.sub_self, ht0]; exact ⟨by rw [stI_nk (by omega), stI_eq]; rfl, stI_eq⟩⟩ (i := nI (D 12 w)) rfl FU (FU_gt (by omega))
  refine ⟨s2, ?_, g2, g3, g5⟩
  unfold gG_play
  rw [f1, Option.bind_some, ← ht0, rd_n (by omega) (by omega), Option.bind_some, (i0.w4 hw).2.1, g1]
  rfl
end GM
