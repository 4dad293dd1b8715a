/-! SEEN: the class's count of all looks that fit -/
def stpT (R : Nat → Int64) (t : Nat) : Nat := (R (3 * t + 1)).toInt.toNat
def fiN (D : RD) (n : Nat) (R : Nat → Int64) (j : Nat) : Nat := cntB (fun i => ftB D n R (TL D (lkN D i))) j
def cwN (D : RD) (n : Nat) (R : Nat → Int64) (w b j : Nat) : Nat := cntB (fun i => ftB D n R (TL D (lkN D i)) && decide (lkN D i w = b)) j
def SNc (D : RD) (n : Nat) (R : Nat → Int64) (j : Nat) (s : mT) : Prop := s.1 225 3 = nI (fiN D n R j) ∧ ∀ w b, w < D 6 0 → b < 5 → s.1 (227 + w) b = nI (cwN D n R w b j)
section SEEN2
variable {n w o b a k m l wd i j W c lw M : Nat} {s s' s'' t : mT} {D D' : RD} {xs : Nat → Int32} {R : Nat → Int64} {T : SU}
theorem mx_s (f : Nat → Nat) (k : Nat) : mxN f (k + 1) = max (mxN f k) (f k) := rfl
theorem mx_ge {f : Nat → Nat} : ∀ {m t : Nat}, t < m → f t ≤ mxN f m := by
  intro m
  induction m with
  | zero => intro t h; omega
  | succ m ih =>
    intro t h
    rw [mx_s]
    by_cases e : t = m
    · subst e; omega
    · have := ih (t := t) (by omega)
      omega
theorem mx_le {f : Nat → Nat} {c : Nat} : ∀ {m : Nat}, (∀ t, t < m → f t ≤ c) → mxN f m ≤ c := by
  intro m
  induction m with
  | zero => intro _; exact Nat.zero_le _
  | succ m ih =>
    intro h
    have := ih (fun t ht => h t (by omega))
    have := h m (by omega)
    rw [mx_s]
    omega
theorem cmp0 {p : Nat} {x : Int64} (hp : p < 2 ^ 31) : (lg_cmp (nI p).toInt64 x = 0) ↔ ((p : Int) = x.toInt) := by
  rw [lg_cmp_eq, ← Int64.toInt_inj, Int32.toInt_toInt64, nI_toInt hp]
theorem c_agrees (hV : VD D) (hW : RW 121 D T M s) (hM : M ≤ 20) (ht : TPB D n R = true) (hst : ∀ t, t < n / 3 → stpT R t ≤ M) (h3 : s.1 (286 + 2 * l) 3 = nI n) (hn : n ≤ 60) (hR : s.2 (287 + 2 * l) = R) : gW_agreesWith (286 + 2 * l) 121 s = some (bz (ftB D n R T)) := by
  have hd := hV.1
  have hr1 : s.2 (286 + 2 * l + 1) = R := by rw [← hR]; exact congrArg s.2 (by omega)
  obtain ⟨h30, hok⟩ := TP_ok ht
  have body : ∀ j, j < n / 3 → gW_agreesWith_h2 (286 + 2 * l) 121 s (nI (3 * j)) = if eqT D R T j = true then some (.inl (nI (3 * (j + 1)))) else some (.inr 0) := fun j hj => by
    obtain ⟨o1, o2, o3⟩ := ok_T (hok j hj)
    have os := hst j hj
    unfold stpT at os
    have pb : (R (3 * j)).toInt.toNat < D 5 0 := by omega
    have pl := rP_le (D := D) (T := T) (R (3 * j + 1)).toInt.toNat (R (3 * j)).toInt.toNat
    unfold gW_agreesWith_h2
    rw [h3, n3_1, if_neg (nle (by omega) (by omega) (by omega)), rdL_n (by omega) (by omega), Option.bind_some, hr1, nI_1, rdL_n (by omega) (by omega), Option.bind_some, l_n (x := R (3 * j)) o1.1 (by omega), l_n (x := R (3 * j + 1)) o2.1 (by omega), ix_ite (by omega) (by omega), nI_clamp (by omega), rd_n (by omega) (by omega), Option.bind_some, rdL_n (by omega) (by omega), Option.bind_some, show s.1 (121 + 28 + (R (3 * j + 1)).toInt.toNat) (R (3 * j)).toInt.toNat = nI (rP D T (R (3 * j + 1)).toInt.toNat (R (3 * j)).toInt.toNat) from hW.1 _ _ os pb, ite_iff (cmp0 (by omega)), n3_2]
    unfold eqT
    rw [ite_iff (decide_eq_true_iff (p := (rP D T (R (3 * j + 1)).toInt.toNat (R (3 * j)).toInt.toNat : Int) = (R (3 * j + 2)).toInt))]
  unfold gW_agreesWith
  rw [ftB_is, all_ff]
  have := wh_ff (f := gW_agreesWith_h2 (286 + 2 * l) 121 s) (fun j => !eqT D R T j) (fun j => nI (3 * j)) (fun r => bz r.isNone) (n / 3) 0 (fun j _ hj hp => by
    rw [body j (by omega), if_pos (by simpa using hp)]) (fun j _ hj hp => by
    have he : eqT D R T j = false := by simpa using hp
    rw [body j (by omega), he, if_neg (by decide)]
    rfl) (by
    unfold gW_agreesWith_h2
    rw [h3, n3_1, if_pos (nI_le (by omega) (by omega))]
    rfl) FU (FU_gt (by omega))
  exact this
theorem m_seen (hq : MQq D T s) (ht : TPB D n R = true) (hs : ∀ i, i < n → s.2 315 (60 * l + i) = R i) (h3 : s.1 313 l = nI n) (hn : n ≤ 60) (hl : l < 4) : wh FU (gM_isSeen_h6 (nI l) s) (0 : Int32) = some (bz (ftB D n R T), s) := by
  have hV := hq.1
  have hd := hV.1
  obtain ⟨h30, hok⟩ := TP_ok ht
  have nat : ∀ i, i < n → gM_numberAt (nI l) (nI i) s = some (R i) := fun i hi => by
    unfold gM_numberAt
    rw [show (60 : Int32) = nI 60 from rfl, pk_mul, nI_add, rdL_n (by omega) (by omega), Option.bind_some, hs i hi]
  have x13 : rdI (s.1 313) 4 (nI l) = some (nI n) := (rd_n (by omega) (by omega)).trans (congrArg some h3)
  have body : ∀ j, j < n / 3 → gM_isSeen_h6 (nI l) s (nI (3 * j)) = if eqT D R T j = true then some (.inl (nI (3 * (j + 1)))) else some (.inr (0, s)) := fun j hj => by
    obtain ⟨o1, o2, o3⟩ := ok_T (hok j hj)
    have pb : (R (3 * j)).toInt.toNat < D 5 0 := by omega
    have pl := rP_le (D := D) (T := T) (R (3 * j + 1)).toInt.toNat (R (3 * j)).toInt.toNat
    unfold gM_isSeen_h6
    rw [x13, Option.bind_some, if_neg (nle (by omega) (by omega) (by omega)), nat _ (by omega), Option.bind_some, nI_1, nat _ (by omega), Option.bind_some, l_n (x := R (3 * j)) o1.1 (by omega), l_n (x := R (3 * j + 1)) o2.1 (by omega), mq_pl hq (by omega) pb, Option.bind_some, n3_1, nat _ (by omega), Option.bind_some, ite_iff (cmp0 (by omega)), n3_2]
    unfold eqT
    rw [ite_iff (decide_eq_true_iff (p := (rP D T (R (3 * j + 1)).toInt.toNat (R (3 * j)).toInt.toNat : Int) = (R (3 * j + 2)).toInt))]
  rw [ftB_is, all_ff]
  have := wh_ff (f := gM_isSeen_h6 (nI l) s) (fun j => !eqT D R T j) (fun j => nI (3 * j)) (fun r => (bz r.isNone, s)) (n / 3) 0 (fun j _ hj hp => by
    rw [body j (by omega), if_pos (by simpa using hp)]) (fun j _ hj hp => by
    have he : eqT D R T j = false := by simpa using hp
    rw [body j (by omega), he, if_neg (by decide)]
    rfl) (by
    unfold gM_isSeen_h6
    rw [x13, Option.bind_some, if_pos (nI_le (by omega) (by omega))]
    rfl) FU (FU_gt (by omega))
  exact this
theorem c_lastStep (hV : VD D) (hR16 : RR 16 D s) (ht : TPB D n R = true) (h3 : s.1 (286 + 2 * l) 3 = nI n) (hn : n ≤ 60) (hR : s.2 (287 + 2 * l) = R) : gW_lastStepTold (286 + 2 * l) 16 s = some (nI (mxN (stpT R) (n / 3))) ∧ mxN (stpT R) (n / 3) ≤ D 0 0 := by
  have hd := hV.1
  have hr1 : s.2 (286 + 2 * l + 1) = R := by rw [← hR]; exact congrArg s.2 (by omega)
  obtain ⟨h30, hok⟩ := TP_ok ht
  have hle : ∀ t, t < n / 3 → stpT R t ≤ D 0 0 := fun t htt => by
    have := (ok_T (hok t htt)).2.1
    unfold stpT
    omega
  have hm := mx_le hle
  refine ⟨?_, hm⟩
  have e : wh FU (gW_lastStepTold_h4 (286 + 2 * l) 16 s) ((0 : Int32), (0 : Int32)) = some (nI (mxN (stpT R) (n / 3))) := by
    have := wh_for (f := gW_lastStepTold_h4 (286 + 2 * l) 16 s) (fun k => (nI (mxN (stpT R) k), nI (3 * k))) (r := nI (mxN (stpT R) (n / 3))) (n / 3) (fun k hk => by
      have o2 := (ok_T (hok k hk)).2.1
      have m1 := mx_le (f := stpT R) (m := k) (c := D 0 0) (fun t ht => hle t (by omega))
      have m2 := hle k hk
      unfold gW_lastStepTold_h4
      dsimp only
      rw [h3, n3_1, if_neg (nle (by omega) (by omega) (by omega)), nI_1, rdL_n (by omega) (by omega), Option.bind_some, hr1, l_n (x := R (3 * k + 1)) o2.1 (by omega), show (R (3 * k + 1)).toInt.toNat = stpT R k from rfl, imax_n (by omega) (by omega), n3_2]
      rfl) (by
      unfold gW_lastStepTold_h4
      dsimp only
      rw [h3, n3_1, if_pos (nI_le (by omega) (by omega))]) FU (FU_gt (by omega))
    exact this
  unfold gW_lastStepTold
  rw [e, Option.bind_some, hR16.1.1, imin_n (by omega) (by omega), Nat.min_eq_left hm]
theorem c_eforget : ∃ s', gE_forget s = some s' ∧ Fp (fun a k => (a = 225 ∧ k = 3) ∨ (227 ≤ a ∧ a ≤ 231)) s s' ∧ s'.1 225 3 = 0 ∧ ∀ w, w < 5 → ∀ b, b < 5 → s'.1 (227 + w) b = 0 := by
  obtain ⟨t0, ht0⟩ : ∃ t0, t0 = stI s 225 3 (0 : Int32) := ⟨_, rfl⟩
  obtain ⟨s', f1, f2, f3⟩ := wh_cnt (f := gE_forget_h7) (fun j t => Fp (fun a _ => 227 ≤ a ∧ a ≤ 231) t0 t ∧ ∀ w, w < j → ∀ b, b < 5 → t.1 (227 + w) b = 0) (fun t => Fp (fun a _ => 227 ≤ a ∧ a ≤ 231) t0 t ∧ ∀ w, w < 5 → ∀ b, b < 5 → t.1 (227 + w) b = 0) 0 5 (by omega) (fun j _ hj t hI => by
    obtain ⟨i1, i2⟩ := hI
    obtain ⟨t1, y1, y2, y3⟩ := wh_cnt (f := gE_forget_h14 (nI j)) (fun x u => Fp (fun a _ => a = 227 + j) t u ∧ ∀ b, b < x → u.1 (227 + j) b = 0) (fun u => Fp (fun a _ => a = 227 + j) t u ∧ ∀ b, b < 5 → u.1 (227 + j) b = 0) 0 5 (by omega) (fun x _ hx u hu => by
      obtain ⟨u1, u2⟩ := hu
      refine ⟨stI u (227 + j) x (0 : Int32), ?_, u1.tr (Fp.st rfl), fun w hw => ?_⟩
      · unfold gE_forget_h14
        dsimp only
        rw [show (5 : Int32) = nI 5 from rfl, if_neg (nle (by omega) (by omega) (by omega)), ix_ite (by omega) (by omega), nI_clamp (by omega), wr_n (by omega) (by omega), Option.bind_some, nI_1]
      · by_cases e : w = x
        · subst e; exact stI_eq
        · rw [stI_nk e]; exact u2 w (by omega)) (fun u hu => ⟨u, rfl, hu⟩) (s := t) ⟨Fp.rfl', fun w hw => absurd hw (Nat.not_lt_zero _)⟩ (i := (0 : Int32)) rfl FU (FU_gt (by omega))
    refine ⟨t1, ?_, i1.tr (y2.wid (fun a k z => by omega)), fun w hw => ?_⟩
    · unfold gE_forget_h7
      dsimp only
      rw [show (5 : Int32) = nI 5 from rfl, if_neg (nle (by omega) (by omega) (by omega)), y1, Option.bind_some, nI_1]
    · by_cases e : w = j
      · subst e; exact y3
      · rw [y2.fn (a := 227 + w) (fun k => by omega)]
        exact i2 w (by omega)) (fun t hI => ⟨t, rfl, hI⟩) (s := t0) ⟨Fp.rfl', fun b hb => absurd hb (Nat.not_lt_zero _)⟩ (i := (0 : Int32)) rfl FU (FU_gt (by omega))
  refine ⟨s', by unfold gE_forget; rw [← ht0, f1]; rfl, ?_, ?_, f3⟩
  · have : Fp (fun a k => (a = 225 ∧ k = 3) ∨ (227 ≤ a ∧ a ≤ 231)) s t0 := by rw [ht0]; exact Fp.st (Or.inl ⟨rfl, rfl⟩)
    exact this.tr (f2.wid (fun a k z => Or.inr z))
  · rw [f2.fn (a := 225) (fun k => by omega), ht0, stI_eq]
theorem cw_s : cwN D n R w b (k + 1) = cwN D n R w b k + (if (ftB D n R (TL D (lkN D k)) && decide (lkN D k w = b)) = true then 1 else 0) := rfl
theorem fi_s : fiN D n R (k + 1) = fiN D n R k + (if ftB D n R (TL D (lkN D k)) = true then 1 else 0) := rfl
theorem cw_le : cwN D n R w b k ≤ k := cntB_le _ _
theorem fi_le : fiN D n R k ≤ k := cntB_le _ _
theorem c_tally (hV : VD D) (hR : RR 16 D s) (hk : k < QN D) (hf : ∀ w, w < D 6 0 → s.1 124 w = nI (lkN D k w)) (ht : ftB D n R (TL D (lkN D k)) = true) (hS : SNc D n R k s) : ∃ s', gE_tally s = some s' ∧ Fp (fun a k => (a = 225 ∧ k = 3) ∨ (227 ≤ a ∧ a ≤ 231)) s s' ∧ SNc D n R (k + 1) s' := by
  have hd := hV.1
  have hq := QN_le hV
  obtain ⟨z1, z2⟩ := hS
  obtain ⟨t0, ht0⟩ : ∃ t0, t0 = stI s 225 3 (nI (fiN D n R (k + 1))) := ⟨_, rfl⟩
  have e0 : ∀ a, a ≠ 225 → t0.1 a = s.1 a := fun a ha => by rw [ht0, stI_fn ha]
  obtain ⟨s', f1, f2, f3⟩ := wh_cnt (f := gE_tally_h12) (fun j t => Fp (fun a _ => 227 ≤ a ∧ a ≤ 231) t0 t ∧ (∀ w b, w < j → b < 5 → t.1 (227 + w) b = nI (cwN D n R w b (k + 1))) ∧ ∀ w, j ≤ w → t.1 (227 + w) = s.1 (227 + w)) (fun t => Fp (fun a _ => 227 ≤ a ∧ a ≤ 231) t0 t ∧ ∀ w b, w < D 6 0 → b < 5 → t.1 (227 + w) b = nI (cwN D n R w b (k + 1))) 0 (D 6 0) (by omega) (fun j _ hj t hI => by
    obtain ⟨i1, i2, i3⟩ := hI
    have lk := lk_fo hV hk j hj
    have cl := cw_le (D := D) (n := n) (R := R) (w := j) (b := lkN D k j) (k := k)
    have q16 : t.1 16 = s.1 16 := by rw [i1.fn (fun k => by omega), e0 16 (by omega)]
    have q124 : t.1 124 = s.1 124 := by rw [i1.fn (fun k => by omega), e0 124 (by omega)]
    refine ⟨stI t (227 + j) (lkN D k j) (nI (cwN D n R j (lkN D k j) k + 1)), ?_, i1.tr (Fp.st ⟨by omega, by omega⟩), fun w b hw hb => ?_, fun w hw => ?_⟩
    · unfold gE_tally_h12
      dsimp only
      rw [q16, hR.1.2.2.2.2.2.2.1, if_neg (nle (by omega) (by omega) (by omega)), ix_ite (by omega) (by omega), nI_clamp (by omega), rd_n (by omega) (by omega), Option.bind_some, q124, hf j hj, rd_n (by omega) (by omega), Option.bind_some, i3 j (Nat.le_refl _), z2 j _ hj (by omega), nI_1, wr_n (by omega) (by omega), Option.bind_some, nI_1]
    · by_cases e : w = j
      · subst e
        rw [cw_s, ht, Bool.true_and]
        by_cases e2 : b = lkN D k w
        · subst e2
          rw [stI_eq, if_pos (decide_eq_true rfl)]
        · rw [stI_nk e2, i3 w (Nat.le_refl _), if_neg (fun z => e2 (of_decide_eq_true z).symm), Nat.add_zero]
          exact z2 w b hj hb
      · rw [stI_ne (by omega)]
        exact i2 w b (by omega) hb
    · rw [stI_fn (by omega)]
      exact i3 w (by omega)) (fun t hI => by
    have q16 : t.1 16 = s.1 16 := by rw [hI.1.fn (fun k => by omega), e0 16 (by omega)]
    refine ⟨t, ?_, hI.1, hI.2.1⟩
    unfold gE_tally_h12
    dsimp only
    rw [q16, hR.1.2.2.2.2.2.2.1, if_pos (nI_le (Nat.le_refl _) (by omega))]) (s := t0) ⟨Fp.rfl', fun w b hw => absurd hw (Nat.not_lt_zero _), fun w _ => e0 _ (by omega)⟩ (i := (0 : Int32)) rfl FU (FU_gt (by omega))
  refine ⟨s', ?_, ?_, ?_, f3⟩
  · unfold gE_tally
    rw [z1, nI_1, show nI (fiN D n R k + 1) = nI (fiN D n R (k + 1)) by rw [fi_s, if_pos ht], ← ht0, f1]
    rfl
  · have : Fp (fun a k => (a = 225 ∧ k = 3) ∨ (227 ≤ a ∧ a ≤ 231)) s t0 := by rw [ht0]; exact Fp.st (Or.inl ⟨rfl, rfl⟩)
    exact this.tr (f2.wid (fun a k z => Or.inr z))
  · rw [f2.fn (a := 225) (fun k => by omega), ht0, stI_eq]
theorem sn_no (ht : ftB D n R (TL D (lkN D k)) = false) (hS : SNc D n R k s) : SNc D n R (k + 1) s := by
  obtain ⟨z1, z2⟩ := hS
  refine ⟨?_, fun w b hw hb => ?_⟩
  · rw [fi_s, ht, if_neg (by decide)]
    exact z1
  · rw [cw_s, ht, Bool.false_and, if_neg (by decide)]
    exact z2 w b hw hb
end SEEN2
