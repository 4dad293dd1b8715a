/-! SURVEY: the model's -/
def mzO : Option Nat → Int32
  | none => 1000000000
  | some v => nI v
def mnU (v : Nat) : Option Nat → Nat
  | none => v
  | some u => min u v
def MSv (D : RD) (b j : Nat) (s : mT) : Prop := s.1 294 28 = nI (wyN D b j) ∧ s.1 294 29 = mzO (fwO D b j) ∧ s.1 294 30 = mzO (snO D b j) ∧ s.1 294 31 = nI (frN D b j) ∧ s.1 294 32 = nI (bmN (fun c => decide (0 < wyN D c j)) (D 5 0)) ∧ ∀ w v, w < D 6 0 → plN D b w j = some v → s.1 309 w = nI v
def pKl (a j : Nat) : Prop := a = 309 ∨ (a = 294 ∧ 28 ≤ j ∧ j ≤ 32)
section MSU
variable {n w o b a k m l wd i j W c lw : Nat} {s s' s'' t : mT} {D D' : RD} {xs : Nat → Int32} {f g h : Nat → Nat} {st nd fo lu : Nat → Nat} {sl : Nat → Nat → Bool} {T : SU}
theorem or_c {p : Nat → Bool} {B : Nat} (hc : c < B) (hB : B ≤ 20) : nI (bmN p B) ||| ((1 : Int32) <<< (nI c &&& 31)) = nI (bmN (fun i => p i || decide (i = c)) B) := by
  rw [sh_1 (by omega), nI_or]
  congr 1
  apply Nat.eq_of_testBit_eq
  intro i
  rw [Nat.testBit_or, bm_tb, bm_tb, Nat.testBit_two_pow]
  by_cases e : i = c
  · subst e
    simp [hc]
  · simp [e, Ne.symm e]
theorem mz_min {x : Option Nat} {v : Nat} (hv : v ≤ 60) (hx : ∀ u, x = some u → u ≤ 60) : imin (mzO x) (nI v) = mzO (some (mnU v x)) := by
  cases x with
  | none =>
    show imin (nI 1000000000) (nI v) = nI v
    rw [imin_n (by omega) (by omega), Nat.min_eq_right (by omega)]
  | some u =>
    have := hx u rfl
    exact imin_n (by omega) (by omega)
theorem MQq.cg (h : MQq D T s) (hf : ∀ a, (a = 295 ∨ a = 302 ∨ (305 ≤ a ∧ a ≤ 308)) → s'.1 a = s.1 a) : MQq D T s' := by
  obtain ⟨h1, h2, ⟨m1, m2, m3, m4⟩, h4, h5⟩ := h
  refine ⟨h1, by rw [hf 295 (by omega)]; exact h2, ⟨fun n b hn hb => by rw [hf 305 (by omega)]; exact m1 n b hn hb, fun n b hn hb => by rw [hf 306 (by omega)]; exact m2 n b hn hb, fun n b hn hb => by rw [hf 307 (by omega)]; exact m3 n b hn hb, fun n hn => by rw [hf 308 (by omega)]; exact m4 n hn⟩, h4, fun b hb => by rw [hf 302 (by omega)]; exact h5 b hb⟩
theorem m_others (hV : VD D) (hM : MA (s.1 295) D) (hf : ∀ w, w < D 6 0 → s.1 303 w = nI (f w) ∧ f w ≤ 4) : gM_othersNow s = some (nI (otN D f)) := by
  have hd := hV.1
  have e5 : rdI (s.1 295) 79 (5 : Int32) = some (nI (D 6 0)) := (rd_n (k := 5) (by omega) (by omega)).trans (congrArg some hM.1.2.2.2.2.2.1)
  have e : wh FU (gM_othersNow_h4 s) ((0 : Int32), (0 : Int32)) = some (nI (otN D f)) := by
    refine wh_for (fun k => (nI (cntB (fun w => decide (f w ≠ D 14 w)) k), nI k)) (D 6 0) (fun k hk => ?_) ?_ FU (FU_gt (by omega))
    · have h1 := hf k hk
      have h3 := hV.2.2.1 k hk
      unfold gM_othersNow_h4
      dsimp only
      rw [e5, Option.bind_some, if_neg (nle (by omega) (by omega) (by omega)), rd_n (by omega) (by omega), Option.bind_some, of_3 hV hM hk, Option.bind_some, h1.1, ite_iff (nI_eq (a := f k) (b := D 14 k) (by omega) (by omega)), cnt_s]
      by_cases e : f k = D 14 k
      · rw [if_pos e, if_neg (fun z => (of_decide_eq_true z) e), Option.bind_some, nI_1, show (0 : Int32) = nI 0 from rfl, nI_add]
      · rw [if_neg e, if_pos (decide_eq_true e), Option.bind_some, nI_1, nI_1]
    · unfold gM_othersNow_h4
      dsimp only
      rw [e5, Option.bind_some, if_pos (nI_le (Nat.le_refl _) (by omega))]
      rfl
  unfold gM_othersNow
  rw [e]
  rfl
theorem m_copy : ∃ s', wh FU gM_keepLooks_h86 ((0 : Int32), s) = some s' ∧ Fp (fun a _ => a = 309) s s' ∧ ∀ w, w < 5 → s'.1 309 w = s.1 303 w := by
  have := wh_cnt (f := gM_keepLooks_h86) (fun j t => Fp (fun a _ => a = 309) s t ∧ ∀ w, w < j → t.1 309 w = s.1 303 w) (fun t => Fp (fun a _ => a = 309) s t ∧ ∀ w, w < 5 → t.1 309 w = s.1 303 w) 0 5 (by omega) (fun j _ hj t hI => by
    obtain ⟨i1, i2⟩ := hI
    refine ⟨stI t 309 j (s.1 303 j), ?_, i1.tr (Fp.st rfl), fun w hw => ?_⟩
    · unfold gM_keepLooks_h86
      dsimp only
      rw [show (5 : Int32) = nI 5 from rfl, if_neg (nle (by omega) (by omega) (by omega)), rd_n (by omega) (by omega), Option.bind_some, wr_n (by omega) (by omega), Option.bind_some, nI_1, i1.fn (a := 303) (fun k => by omega)]
    · by_cases e : w = j
      · subst e; exact stI_eq
      · rw [stI_nk e]; exact i2 w (by omega)) (fun t hI => ⟨t, rfl, hI⟩) (s := s) ⟨Fp.rfl', fun w hw => absurd hw (Nat.not_lt_zero _)⟩ (i := (0 : Int32)) rfl FU (FU_gt (by omega))
  exact this
theorem m_kl (hk : k < QN D) (hf : ∀ w, w < D 6 0 → s.1 303 w = nI (lkN D k w)) (hq : MQq D (TL D (lkN D k)) s) (hb : b < D 5 0) (hS : MSv D b k s) : ∃ s', gM_keepLooks (nI b) s = some s' ∧ Fp pKl s s' ∧ MSv D b (k + 1) s' := by
  have hV := hq.1
  have hd := hV.1
  have hQ := QN_le hV
  obtain ⟨z1, z2, z3, z4, z5, z6⟩ := hS
  have wl := wy_le (D := D) (b := b) (k := k)
  have ol := ot_le (f := lkN D k) hV
  obtain ⟨x3, y1, y2⟩ : ∃ x3, (if oz (wnI D k) = (-1 : Int32) then some (0 : Int32) else some ((1 : Int32) <<< (oz (wnI D k) &&& 31))) = some x3 ∧ nI (bmN (fun c => decide (0 < wyN D c k)) (D 5 0)) ||| x3 = nI (bmN (fun c => decide (0 < wyN D c (k + 1))) (D 5 0)) := by
    cases hw : wnI D k with
    | none =>
      refine ⟨0, if_pos rfl, ?_⟩
      rw [show (0 : Int32) = nI 0 from rfl, nI_or, Nat.or_zero]
      refine congrArg nI (bmN_congr (fun c _ => ?_))
      rw [wy_s, hw, if_neg (fun z => by cases z), Nat.add_zero]
    | some c =>
      have hc : c < D 5 0 := winO_lt hw
      refine ⟨(1 : Int32) <<< (nI c &&& 31), if_neg (m1_n (by omega)), ?_⟩
      rw [or_c hc (by omega)]
      refine congrArg nI (bmN_congr (fun i _ => ?_))
      rw [wy_s, hw]
      by_cases e : i = c
      · subst e
        rw [if_pos rfl, decide_eq_true (show 0 < wyN D i k + 1 by omega), decide_eq_true rfl, Bool.or_true]
      · rw [if_neg (fun z => e (Option.some.inj z).symm), Nat.add_zero, decide_eq_false e, Bool.or_false]
  obtain ⟨t1, ht1⟩ : ∃ t1, t1 = stI s 294 32 (nI (bmN (fun c => decide (0 < wyN D c (k + 1))) (D 5 0))) := ⟨_, rfl⟩
  have q1 : MQq D (TL D (lkN D k)) t1 := hq.cg (fun a ha => by rw [ht1, stI_fn (by omega)])
  have hh : gM_homeOf (nI b) t1 = some (oz (hmI D b k)) := mq_home q1 hb
  obtain ⟨t2, w1, w2, w3⟩ : ∃ t2, (if oz (hmI D b k) = (-1 : Int32) then some t1 else (gM_homeOf (nI b) t1).bind fun p8 => (some (stI t1 294 30 (imin (t1.1 294 30) p8))).bind fun s10 => some s10) = some t2 ∧ Fp (fun a j => a = 294 ∧ j = 30) t1 t2 ∧ t2.1 294 30 = mzO (snO D b (k + 1)) := by
    have e30 : t1.1 294 30 = mzO (snO D b k) := by rw [ht1, stI_nk (by omega)]; exact z3
    rw [hh, sn_s]
    cases hx : hmI D b k with
    | none => exact ⟨t1, if_pos rfl, Fp.rfl', e30⟩
    | some x =>
      have hx2 := hm_le hV hx
      refine ⟨stI t1 294 30 (mzO (some (match snO D b k with
        | none => x
        | some v => min v x))), ?_, Fp.st ⟨rfl, rfl⟩, stI_eq⟩
      rw [oz_some, if_neg (m1_n (by omega)), Option.bind_some, Option.bind_some, e30, mz_min (by omega) (fun u hu => by have := sn_le hV hu; omega)]
      cases snO D b k <;> rfl
  have q2 : MQq D (TL D (lkN D k)) t2 := q1.cg (fun a ha => w2.fn (fun k => by omega))
  have fr := fr_le (D := D) (b := b) (k := k) hV
  have pl := rP_le (D := D) (T := TL D (lkN D k)) (D 0 0) b
  obtain ⟨t3, ht3⟩ : ∃ t3, t3 = stI t2 294 31 (nI (frN D b (k + 1))) := ⟨_, rfl⟩
  have e31 : t2.1 294 31 = nI (frN D b k) := by rw [w2.1 294 31 (by omega), ht1, stI_nk (by omega)]; exact z4
  have f3 : ∀ a j, ¬ (a = 294 ∧ (j = 30 ∨ j = 31 ∨ j = 32)) → t3.1 a j = s.1 a j := fun a j hn => by
    rw [ht3, stI_at, if_neg (by omega), w2.1 a j (by omega), ht1, stI_at, if_neg (by omega)]
  have v30 : t3.1 294 30 = mzO (snO D b (k + 1)) := by rw [ht3, stI_nk (by omega)]; exact w3
  have v31 : t3.1 294 31 = nI (frN D b (k + 1)) := by rw [ht3, stI_eq]
  have v32 : t3.1 294 32 = nI (bmN (fun c => decide (0 < wyN D c (k + 1))) (D 5 0)) := by rw [ht3, stI_nk (by omega), w2.1 294 32 (by omega), ht1, stI_eq]
  have k3 : Fp pKl s t3 := ⟨fun a j hn => f3 a j (by unfold pKl at hn; omega), by rw [ht3]; show t2.2 = s.2; rw [w2.2, ht1]; rfl⟩
  have head : gM_keepLooks (nI b) s = if oz (wnI D k) = nI b then ((if t3.1 294 28 = 0 then (wh FU gM_keepLooks_h86 ((0 : Int32), t3)).bind fun x19 => some x19 else some t3).bind fun x18 => (gM_othersNow (stI x18 294 28 ((x18.1 294 28) + (1 : Int32)))).bind fun p23 => (some (stI (stI x18 294 28 ((x18.1 294 28) + (1 : Int32))) 294 29 (imin ((stI x18 294 28 ((x18.1 294 28) + (1 : Int32))).1 294 29) p23))).bind fun s25 => some s25) else some t3 := by
    unfold gM_keepLooks
    rw [show gM_winsOf s = some (oz (wnI D k)) from mq_win hq, Option.bind_some, y1, Option.bind_some, z5, y2, ← ht1, hh, Option.bind_some]
    rw [hh] at w1
    rw [w1, Option.bind_some, mq_N q2, Option.bind_some, mq_pl q2 (Nat.le_refl _) hb, Option.bind_some, e31, imax_n (by omega) (by omega), ← fr_s, ← ht3]
  by_cases hw : wnI D k = some b
  · obtain ⟨t4, u1, u2, u3⟩ : ∃ t4, (if t3.1 294 28 = 0 then (wh FU gM_keepLooks_h86 ((0 : Int32), t3)).bind fun x19 => some x19 else some t3) = some t4 ∧ Fp (fun a _ => a = 309) t3 t4 ∧ ∀ w v, w < D 6 0 → plN D b w (k + 1) = some v → t4.1 309 w = nI v := by
      rw [f3 294 28 (by omega), z1]
      by_cases e0 : wyN D b k = 0
      · obtain ⟨t4, a1, a2, a3⟩ := m_copy (s := t3)
        refine ⟨t4, by rw [e0, if_pos (show nI 0 = (0 : Int32) from rfl), a1, Option.bind_some], a2, fun w v hww hp => ?_⟩
        rw [pl_s, if_pos hw, if_pos e0] at hp
        cases hp
        rw [a3 w (by omega), f3 303 w (by omega), hf w hww]
      · refine ⟨t3, if_neg (show ¬ nI (wyN D b k) = (0 : Int32) from fun z => e0 ((nI_eq (b := 0) (by omega) (by omega)).mp z)), Fp.rfl', fun w v hww hp => ?_⟩
        rw [pl_s, if_pos hw, if_neg e0] at hp
        rw [f3 309 w (by omega)]
        exact z6 w v hww hp
    have g4 : ∀ j, t4.1 294 j = t3.1 294 j := fun j => by rw [u2.fn (a := 294) (fun k => by omega)]
    obtain ⟨t5, ht5⟩ : ∃ t5, t5 = stI t4 294 28 (nI (wyN D b k + 1)) := ⟨_, rfl⟩
    have g5 : ∀ a, a ≠ 294 → a ≠ 309 → t5.1 a = t3.1 a := fun a h1 h2 => by rw [ht5, stI_fn h1, u2.fn (fun k => h2)]
    have ot := m_others (s := t5) (f := lkN D k) hV (by rw [g5 295 (by omega) (by omega), ht3, stI_fn (by omega)]; exact q2.2.1) (fun w hww => ⟨by rw [g5 303 (by omega) (by omega), f3 303 w (by omega)]; exact hf w hww, (lk_fo hV hk w hww).2⟩)
    have e29 : t5.1 294 29 = mzO (fwO D b k) := by rw [ht5, stI_nk (by omega), g4, f3 294 29 (by omega)]; exact z2
    refine ⟨stI t5 294 29 (mzO (fwO D b (k + 1))), ?_, ?_, ?_, stI_eq, ?_, ?_, ?_, ?_⟩
    · rw [head, hw, oz_some, if_pos rfl, u1, Option.bind_some, g4, f3 294 28 (by omega), z1, nI_1, ← ht5, ot, Option.bind_some, Option.bind_some, e29, mz_min (by omega) (fun u hu => by have := fw_le hV hu; omega), fw_s, if_pos hw]
      cases fwO D b k <;> rfl
    · refine k3.tr ((u2.wid (fun a j z => Or.inl z)).tr ?_)
      rw [ht5]
      exact (Fp.st (P := pKl) (Or.inr ⟨rfl, by omega, by omega⟩)).tr (Fp.st (Or.inr ⟨rfl, by omega, by omega⟩))
    · rw [stI_nk (by omega), ht5, stI_eq, wy_s, if_pos hw]
    · rw [stI_nk (by omega), ht5, stI_nk (by omega), g4]; exact v30
    · rw [stI_nk (by omega), ht5, stI_nk (by omega), g4]; exact v31
    · rw [stI_nk (by omega), ht5, stI_nk (by omega), g4]; exact v32
    · intro w v hww hp
      rw [stI_ne (by omega), ht5, stI_ne (by omega)]
      exact u3 w v hww hp
  · have hne : ¬ oz (wnI D k) = nI b := fun z => hw (by
      cases hc : wnI D k with
      | none => rw [hc] at z; exact absurd z (m1_n' (by omega))
      | some c =>
        rw [hc] at z
        have hcb : c < D 5 0 := winO_lt hc
        exact congrArg some ((nI_eq (by omega) (by omega)).mp z))
    refine ⟨t3, by rw [head, if_neg hne], k3, ?_, ?_, v30, v31, v32, fun w v hww hp => ?_⟩
    · rw [f3 294 28 (by omega), wy_s, if_neg hw]; exact z1
    · rw [f3 294 29 (by omega), fw_s, if_neg hw]; exact z2
    · rw [pl_s, if_neg hw] at hp
      rw [f3 309 w (by omega)]
      exact z6 w v hww hp
theorem m_first (hV : VD D) (hM : MA (s.1 295) D) : ∃ s', gM_firstLooks s = some s' ∧ Fp (fun a _ => a = 303) s s' ∧ ∀ w, w < D 6 0 → s'.1 303 w = nI (D 12 w) := by
  have hd := hV.1
  obtain ⟨s', f1, f2⟩ := wh_cnt (f := gM_firstLooks_h2) (fun j t => Fp (fun a _ => a = 303) s t ∧ ∀ w, w < j → t.1 303 w = nI (D 12 w)) (fun t => Fp (fun a _ => a = 303) s t ∧ ∀ w, w < D 6 0 → t.1 303 w = nI (D 12 w)) 0 (D 6 0) (by omega) (fun j _ hj t hI => by
    obtain ⟨i1, i2⟩ := hI
    have mt : MA (t.1 295) D := by rw [i1.fn (fun k => by omega)]; exact hM
    refine ⟨stI t 303 j (nI (D 12 j)), ?_, i1.tr (Fp.st rfl), fun w hw => ?_⟩
    · unfold gM_firstLooks_h2
      dsimp only
      rw [show rdI (t.1 295) 79 (5 : Int32) = some (nI (D 6 0)) from (rd_n (k := 5) (by omega) (by omega)).trans (congrArg some mt.1.2.2.2.2.2.1), Option.bind_some, if_neg (nle (by omega) (by omega) (by omega)), of_1 hV mt hj, Option.bind_some, wr_n (by omega) (by omega), Option.bind_some, nI_1]
    · by_cases e : w = j
      · subst e; exact stI_eq
      · rw [stI_nk e]; exact i2 w (by omega)) (fun t hI => by
    have mt : MA (t.1 295) D := by rw [hI.1.fn (fun k => by omega)]; exact hM
    refine ⟨t, ?_, hI⟩
    unfold gM_firstLooks_h2
    dsimp only
    rw [show rdI (t.1 295) 79 (5 : Int32) = some (nI (D 6 0)) from (rd_n (k := 5) (by omega) (by omega)).trans (congrArg some mt.1.2.2.2.2.2.1), Option.bind_some, if_pos (nI_le (Nat.le_refl _) (by omega))]) (s := s) ⟨Fp.rfl', fun w hw => absurd hw (Nat.not_lt_zero _)⟩ (i := (0 : Int32)) rfl FU (FU_gt (by omega))
  exact ⟨s', by unfold gM_firstLooks; rw [f1]; rfl, f2⟩
theorem m_survey (h : IV xs D s) (hP : MPB D (D 1 0) (D 9) (D 10) (D 14) (l0 D) 0 s) (hb : b < D 5 0) : ∃ s', gM_layLooks (nI b) s = some s' ∧ IV xs D s' ∧ MSv D b (QN D) s' := by
  have hV := h.V
  have hd := hV.1
  have hq := QN_le hV
  obtain ⟨t0, ht0⟩ : ∃ t0, t0 = stI (stI (stI (stI (stI s 294 28 (0 : Int32)) 294 29 (1000000000 : Int32)) 294 30 (1000000000 : Int32)) 294 31 (0 : Int32)) 294 32 (0 : Int32) := ⟨_, rfl⟩
  have f0 : Fp pKl s t0 := by
    rw [ht0]
    exact ((Fp.st (P := pKl) (Or.inr ⟨rfl, by omega, by omega⟩)).tr (Fp.st (Or.inr ⟨rfl, by omega, by omega⟩))).tr (((Fp.st (Or.inr ⟨rfl, by omega, by omega⟩)).tr (Fp.st (Or.inr ⟨rfl, by omega, by omega⟩))).tr (Fp.st (Or.inr ⟨rfl, by omega, by omega⟩)))
  have pKl_K : ∀ a j, pKl a j → pK a j := fun a j z => by unfold pKl at z; unfold pK; omega
  have i0 : IV xs D t0 := h.kp (KP.of f0 pKl_K)
  have p0 := hP.fp f0 (fun a j z => by unfold pKl at z; unfold pA; omega)
  have s0 : MSv D b 0 t0 := by
    rw [ht0]
    have eb : bmN (fun c => decide (0 < wyN D c 0)) (D 5 0) = 0 := by
      have : ∀ B, bmN (fun c => decide (0 < wyN D c 0)) B = 0 := fun B => by
        induction B with
        | zero => rfl
        | succ B ih => rw [bm_s, ih, show wyN D B 0 = 0 from rfl]; rfl
      exact this _
    refine ⟨?_, ?_, ?_, ?_, ?_, fun w v _ hp => by cases hp⟩
    · rw [stI_nk (by omega), stI_nk (by omega), stI_nk (by omega), stI_nk (by omega), stI_eq]; rfl
    · rw [stI_nk (by omega), stI_nk (by omega), stI_nk (by omega), stI_eq]; rfl
    · rw [stI_nk (by omega), stI_nk (by omega), stI_eq]; rfl
    · rw [stI_nk (by omega), stI_eq]; rfl
    · rw [stI_eq, eb]; rfl
  obtain ⟨t1, x1, x2, x3⟩ := m_first (s := t0) hV i0.M
  have i1 : IV xs D t1 := i0.kp (KP.of x2 (fun a k z => by unfold pK; omega))
  have p1 : MPB D (D 1 0) (D 9) (D 10) (lkN D 0) (l0 D) 0 t1 := p0.wfos (fun a k _ h2 => x2.1 a k h2) (fun w hw => ⟨x3 w hw, (lk_fo hV hq.2 w hw).1⟩)
  have mcg : ∀ {j : Nat} {u v : mT}, MSv D b j u → (∀ a k, pKl a k → v.1 a k = u.1 a k) → MSv D b j v := fun hm hf => by
    obtain ⟨z1, z2, z3, z4, z5, z6⟩ := hm
    exact ⟨(hf 294 28 (Or.inr ⟨rfl, by omega, by omega⟩)).trans z1, (hf 294 29 (Or.inr ⟨rfl, by omega, by omega⟩)).trans z2, (hf 294 30 (Or.inr ⟨rfl, by omega, by omega⟩)).trans z3, (hf 294 31 (Or.inr ⟨rfl, by omega, by omega⟩)).trans z4, (hf 294 32 (Or.inr ⟨rfl, by omega, by omega⟩)).trans z5, fun w v hw hp => (hf 309 w (Or.inl rfl)).trans (z6 w v hw hp)⟩
  obtain ⟨t2, w1, w2, w3⟩ := wh_inv (f := gM_layLooks_h35 (nI b)) (fun k q => k ≤ QN D ∧ q.1 = bz (decide (k < QN D)) ∧ IV xs D q.2 ∧ MSv D b k q.2 ∧ (k < QN D → MPB D (D 1 0) (D 9) (D 10) (lkN D k) (l0 D) 0 q.2)) (fun r => IV xs D r ∧ MSv D b (QN D) r) (QN D) (fun k hk q hI => by
    obtain ⟨c1, u⟩ := q
    obtain ⟨j0, j1, j2, j3, j4⟩ := hI
    dsimp only at j1 j2 j3 j4
    subst j1
    have pk := j4 hk
    have hs := s0_0 (ex := fun _ => false) hV
    obtain ⟨u1, y1, y2, y3, y4, y5⟩ := j2.go pk hs
    have fr := fp_go j2 pk hs y1
    have ms1 : MSv D b k u1 := mcg j3 (fun a k z => fr.1 a k (by unfold pKl at z; unfold pG; omega))
    obtain ⟨u2, g1, g2, g3⟩ := m_kl hk (fun w hw => (y4.2.2.1 w hw).1) y5 hb ms1
    have i2 := y3.kp (KP.of g2 pKl_K)
    have p2 := y4.fp g2 (fun a j z => by unfold pKl at z; unfold pA; omega)
    obtain ⟨u3, v1, v2, v3⟩ := m_next hV i2.M hk (fun w hw => (p2.2.2.1 w hw).1)
    have i3 := i2.kp (KP.of v2 (fun a k z => by unfold pK; omega))
    refine ⟨(bz (decide (k + 1 < QN D)), u3), ?_, by omega, rfl, i3, mcg g3 (fun a k z => v2.1 a k (by unfold pKl at z; omega)), fun hk2 => p2.wfos (fun a k _ h2 => v2.1 a k h2) (fun w hw => ⟨v3 hk2 w hw, (lk_fo hV hk2 w hw).1⟩)⟩
    unfold gM_layLooks_h35
    dsimp only
    rw [decide_eq_true hk, bz_t, if_neg (by decide), y1, Option.bind_some, g1, Option.bind_some, v1, Option.bind_some]) (fun q hI => by
    obtain ⟨c1, u⟩ := q
    obtain ⟨j0, j1, j2, j3, j4⟩ := hI
    dsimp only at j1 j2 j3 j4
    subst j1
    refine ⟨u, ?_, j2, j3⟩
    unfold gM_layLooks_h35
    dsimp only
    rw [decide_eq_false (Nat.lt_irrefl _), bz_f, if_pos rfl]) (q := ((1 : Int32), t1)) ⟨Nat.zero_le _, by rw [decide_eq_true hq.2]; rfl, i1, mcg s0 (fun a k z => x2.1 a k (by unfold pKl at z; omega)), fun _ => p1⟩ FU (FU_gt (by omega))
  refine ⟨t2, ?_, w2, w3⟩
  unfold gM_layLooks
  rw [Option.bind_some, ← ht0, x1, Option.bind_some, w1, Option.bind_some]
end MSU
