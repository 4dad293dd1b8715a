/-! SURVEY: one look more, the class's -/
section SUR2
variable {n w o b a k m l wd i j W c lw : Nat} {s s' s'' t : mT} {D D' : RD} {xs : Nat → Int32} {f g h : Nat → Nat} {st nd fo lu : Nat → Nat} {sl : Nat → Nat → Bool}
theorem c_nw (hV : VD D) (hR : RR 16 D s) (hk : k < QN D) (hf : ∀ w, w < D 6 0 → s.1 124 w = nI (lkN D k w)) (hS : SW D k s) : ∃ s', gV_noteWinner (oz (wnI D k)) s = some s' ∧ Fp (fun a _ => a = 215 ∨ a = 216 ∨ (220 ≤ a ∧ a ≤ 224)) s s' ∧ SW D (k + 1) s' := by
  have hd := hV.1
  have hq := QN_le hV
  cases hw : wnI D k with
  | none =>
    refine ⟨s, ?_, Fp.rfl', fun b hb => ?_⟩
    · unfold gV_noteWinner
      rw [oz_none, if_pos (by decide)]
    · rw [wy_s, fw_s, hw, if_neg (fun z => by cases z), if_neg (fun z => by cases z)]
      refine ⟨(hS b hb).1, (hS b hb).2.1, fun w hww => ?_⟩
      rw [pl_s, hw, if_neg (fun z => by cases z)]
      exact (hS b hb).2.2 w hww
  | some b =>
    have hb : b < D 5 0 := winO_lt hw
    obtain ⟨z1, z2, z3⟩ := hS b hb
    have wl := wy_le (D := D) (b := b) (k := k)
    have ol := ot_le (f := lkN D k) hV
    obtain ⟨t1, x1, x2, x3⟩ : ∃ t1, (if nI (wyN D b k) = 0 then if ¬ (nI b < 0 ∨ 5 ≤ (nI b).toNatClampNeg) then (cpI s 124 5 (0 : Int32) (220 + (nI b).toNatClampNeg) 5 (0 : Int32) (5 : Int32)).bind fun s11 => some s11 else none else some s) = some t1 ∧ Fp (fun a _ => a = 220 + b) s t1 ∧ ∀ w, w < D 6 0 → t1.1 (220 + b) w = oz (plN D b w (k + 1)) := by
      by_cases e0 : wyN D b k = 0
      · obtain ⟨t1, y1, y2, y3⟩ := cp_n (s := s) (a := 124) (b := 220 + b) (n := 5) (by omega)
        refine ⟨t1, ?_, ⟨fun a j ha => by rw [y2.1 a (by omega)], y2.2⟩, fun w hww => ?_⟩
        · rw [e0, if_pos (show nI 0 = (0 : Int32) from rfl), ix_ite (by omega) (by omega), nI_clamp (by omega), show (5 : Int32) = nI 5 from rfl, y1, Option.bind_some]
        · rw [y3 w (by omega), hf w hww, pl_s, if_pos hw, if_pos e0, oz_some]
      · refine ⟨s, ?_, Fp.rfl', fun w hww => ?_⟩
        · rw [if_neg (show ¬ nI (wyN D b k) = (0 : Int32) from fun z => e0 ((nI_eq (b := 0) (by omega) (by omega)).mp z))]
        · rw [pl_s, if_pos hw, if_neg e0]
          exact z3 w hww
    obtain ⟨t2, ht2⟩ : ∃ t2, t2 = stI t1 215 b (nI (wyN D b k + 1)) := ⟨_, rfl⟩
    have r2 : RR 16 D t2 := hR.cg (fun a _ _ => by rw [ht2, stI_fn (by omega), x2.fn (fun k => by omega)])
    have o2 := c_others (s := t2) (f := lkN D k) hV r2 (fun w hww => ⟨by rw [ht2, stI_ne (by omega), x2.fn (a := 124) (fun k => by omega)]; exact hf w hww, (lk_fo hV hk w hww).2⟩)
    have e216 : t2.1 216 b = oz (fwO D b k) := by rw [ht2, stI_ne (by omega), x2.fn (a := 216) (fun k => by omega)]; exact z2
    obtain ⟨t3, u1, u2, u3⟩ : ∃ t3, (if t2.1 216 b = (-1 : Int32) then (wrI t2 216 5 (nI b) (nI (otN D (lkN D k)))).bind fun s20 => some s20 else (some (t2.1 216 b)).bind fun x22 => if x22 ≤ nI (otN D (lkN D k)) then some t2 else (wrI t2 216 5 (nI b) (nI (otN D (lkN D k)))).bind fun s25 => some s25) = some t3 ∧ Fp (fun a j => a = 216 ∧ j = b) t2 t3 ∧ t3.1 216 b = oz (fwO D b (k + 1)) := by
      rw [e216, wr_n (by omega) (by omega), Option.bind_some, Option.bind_some, fw_s, if_pos hw]
      cases hfw : fwO D b k with
      | none => exact ⟨_, if_pos rfl, Fp.st ⟨rfl, rfl⟩, stI_eq⟩
      | some v =>
        have hv := fw_le hV hfw
        rw [oz_some, if_neg (m1_n (by omega))]
        dsimp only
        by_cases e : v ≤ otN D (lkN D k)
        · rw [if_pos (nI_le e (by omega))]
          exact ⟨t2, rfl, Fp.rfl', by rw [e216, hfw, Nat.min_eq_left e]⟩
        · rw [if_neg (nle (by omega) (by omega) e)]
          exact ⟨_, rfl, Fp.st ⟨rfl, rfl⟩, by rw [stI_eq, Nat.min_eq_right (by omega), oz_some]⟩
    have ff : ∀ a j, ¬ ((a = 215 ∧ j = b) ∨ (a = 216 ∧ j = b) ∨ a = 220 + b) → t3.1 a j = s.1 a j := fun a j hn => by
      rw [u2.1 a j (by omega), ht2, stI_at, if_neg (by omega), x2.1 a j (by omega)]
    refine ⟨t3, ?_, ⟨fun a j hn => ff a j (by omega), by rw [u2.2, ht2]; exact x2.2⟩, fun c hc => ?_⟩
    · unfold gV_noteWinner
      rw [oz_some, if_neg (nI_pos (by omega)), show (5 : Int32) = nI 5 from rfl, if_pos (nI_lt (by omega) (by omega)), rd_n (by omega) (by omega), Option.bind_some, z1, show nI 5 = (5 : Int32) from rfl, x1, Option.bind_some, rd_n (by omega) (by omega), Option.bind_some, x2.fn (a := 215) (fun k => by omega), z1, nI_1, wr_n (by omega) (by omega), Option.bind_some, ← ht2, o2, Option.bind_some, rd_n (by omega) (by omega), Option.bind_some, u1, Option.bind_some]
    · by_cases e : c = b
      · subst e
        refine ⟨?_, u3, fun w hww => ?_⟩
        · rw [u2.1 215 c (by omega), ht2, stI_eq, wy_s, if_pos hw]
        · rw [u2.1 _ w (by omega), ht2, stI_ne (by omega)]
          exact x3 w hww
      · have ne : ¬ wnI D k = some c := fun z => e (Option.some.inj (z.symm.trans hw))
        rw [wy_s, fw_s, if_neg ne, if_neg ne]
        refine ⟨?_, ?_, fun w hww => ?_⟩
        · rw [ff 215 c (by omega)]; exact (hS c hc).1
        · rw [ff 216 c (by omega)]; exact (hS c hc).2.1
        · rw [pl_s, if_neg ne, ff _ w (by omega)]; exact (hS c hc).2.2 w hww
theorem c_nh (hV : VD D) (hR : RR 16 D s) (hP : PR 121 D (TL D (lkN D k)) s) (hW : RW 121 D (TL D (lkN D k)) (D 0 0) s) (hS : SH D k s) : ∃ s', gV_noteHomes s = some s' ∧ Fp (fun a _ => a = 217 ∨ a = 218) s s' ∧ SH D (k + 1) s' := by
  have hd := hV.1
  obtain ⟨s', f1, f2, f3⟩ := wh_cnt (f := gV_noteHomes_h2) (fun j t => Fp (fun a _ => a = 217 ∨ a = 218) s t ∧ (∀ b, b < j → t.1 217 b = oz (snO D b (k + 1)) ∧ t.1 218 b = nI (frN D b (k + 1))) ∧ ∀ b, j ≤ b → t.1 217 b = s.1 217 b ∧ t.1 218 b = s.1 218 b) (fun t => Fp (fun a _ => a = 217 ∨ a = 218) s t ∧ SH D (k + 1) t) 0 (D 5 0) (by omega) (fun j _ hj t hI => by
    obtain ⟨i1, i2, i3⟩ := hI
    have fr := fr_le (D := D) (b := j) (k := k) hV
    have pl := rP_le (D := D) (T := TL D (lkN D k)) (D 0 0) j
    obtain ⟨t2, ht2⟩ : ∃ t2, t2 = stI t 218 j (nI (frN D j (k + 1))) := ⟨_, rfl⟩
    have e2 : ∀ a, a < 214 → t2.1 a = s.1 a := fun a ha => by rw [ht2, stI_fn (by omega), i1.fn (fun k => by omega)]
    have r2 : RR 16 D t2 := hR.cg (fun a _ _ => e2 a (by omega))
    have p2 : PR 121 D (TL D (lkN D k)) t2 := hP.cg hV (fun a _ _ => e2 a (by omega))
    have w2 : RW 121 D (TL D (lkN D k)) (D 0 0) t2 := hW.cg hd.1 (fun a _ _ => e2 a (by omega))
    have cv := CV.mk' hV r2 p2 w2 (Nat.le_refl _) (p2.K hV)
    have hh : gC_homeStep 121 (nI j) t2 = some (oz (hmI D j k)) := kC_home cv hj
    have e217 : t2.1 217 j = oz (snO D j k) := by rw [ht2, stI_ne (by omega), (i3 j (Nat.le_refl _)).1]; exact (hS j hj).1
    have s31 : ∀ v, hmI D j k = some v → v < 2 ^ 31 := fun v hv => by have := hm_le hV hv; omega
    obtain ⟨t3, u1, u2, u3⟩ : ∃ t3, (if oz (hmI D j k) = (-1 : Int32) then some t2 else if t2.1 217 j = (-1 : Int32) then (wrI t2 217 5 (nI j) (oz (hmI D j k))).bind fun s22 => some s22 else (some (t2.1 217 j)).bind fun x24 => if x24 ≤ oz (hmI D j k) then some t2 else (wrI t2 217 5 (nI j) (oz (hmI D j k))).bind fun s27 => some s27) = some t3 ∧ Fp (fun a b => a = 217 ∧ b = j) t2 t3 ∧ t3.1 217 j = oz (snO D j (k + 1)) := by
      rw [e217]
      simp only [Option.bind_some]
      rw [sn_s]
      cases hhm : hmI D j k with
      | none => exact ⟨t2, if_pos rfl, Fp.rfl', e217⟩
      | some x =>
        have hx := hm_le hV hhm
        rw [oz_some, if_neg (m1_n (by omega)), wr_n (by omega) (by omega), Option.bind_some]
        cases hsn : snO D j k with
        | none => exact ⟨_, if_pos rfl, Fp.st ⟨rfl, rfl⟩, stI_eq⟩
        | some v =>
          have hv := sn_le hV hsn
          rw [oz_some, if_neg (m1_n (by omega))]
          dsimp only
          by_cases e : v ≤ x
          · rw [if_pos (nI_le e (by omega))]
            exact ⟨t2, rfl, Fp.rfl', by rw [e217, hsn, Nat.min_eq_left e]⟩
          · rw [if_neg (nle (by omega) (by omega) e)]
            exact ⟨_, rfl, Fp.st ⟨rfl, rfl⟩, by rw [stI_eq, Nat.min_eq_right (by omega), oz_some]⟩
    refine ⟨t3, ?_, (i1.tr (by rw [ht2]; exact Fp.st (Or.inr rfl))).tr (u2.wid (fun a b z => Or.inl z.1)), fun b hb => ?_, fun b hb => ?_⟩
    · unfold gV_noteHomes_h2
      dsimp only
      have q16 : t.1 16 = s.1 16 := i1.fn (fun k => by omega)
      rw [q16, hR.1.2.2.2.2.2.1, if_neg (nle (by omega) (by omega) (by omega)), rd_n (by omega) (by omega), Option.bind_some, hR.1.1, ix_ite (by omega) (by omega), nI_clamp (by omega), rd_n (by omega) (by omega), Option.bind_some, (i3 j (Nat.le_refl _)).2, (hS j hj).2, i1.fn (a := 149 + D 0 0) (fun k => by omega), show s.1 (149 + D 0 0) j = nI (rP D (TL D (lkN D k)) (D 0 0) j) from hW.1 (D 0 0) j (Nat.le_refl _) hj, imax_n (by omega) (by omega), wr_n (by omega) (by omega), Option.bind_some, ← fr_s, ← ht2, hh, Option.bind_some, rd_n (by omega) (by omega), Option.bind_some, u1, Option.bind_some, nI_1]
    · by_cases e : b = j
      · subst e
        refine ⟨u3, ?_⟩
        rw [u2.1 218 b (by omega), ht2, stI_eq]
      · rw [u2.1 217 b (by omega), u2.1 218 b (by omega), ht2, stI_ne (by omega), stI_nk e]
        exact i2 b (by omega)
    · rw [u2.1 217 b (by omega), u2.1 218 b (by omega), ht2, stI_ne (by omega), stI_nk (by omega)]
      exact i3 b (by omega)) (fun t hI => by
    refine ⟨t, ?_, hI.1, fun b hb => hI.2.1 b hb⟩
    have q16 : t.1 16 = s.1 16 := hI.1.fn (fun k => by omega)
    unfold gV_noteHomes_h2
    dsimp only
    rw [q16, hR.1.2.2.2.2.2.1, if_pos (nI_le (Nat.le_refl _) (by omega))]) (s := s) ⟨Fp.rfl', fun b hb => absurd hb (Nat.not_lt_zero _), fun b _ => ⟨rfl, rfl⟩⟩ (i := (0 : Int32)) rfl FU (FU_gt (by omega))
  exact ⟨s', by unfold gV_noteHomes; rw [f1]; rfl, f2, f3⟩
def pVq (a : Nat) : Prop := (121 ≤ a ∧ a < 214) ∨ (215 ≤ a ∧ a ≤ 224)
theorem c_sv1 (hV : VD D) (hR : RR 16 D s) (hk : k < QN D) (hP : PR 121 D (TL D (lkN D k)) s) (h1 : SW D k s) (h2 : SH D k s) : ∃ s', gV_makeIfStale_h35 ((1 : Int32), nI k, s) = some (.inl (bz (decide (k + 1 < QN D)), nI (k + 1), s')) ∧ Fp (fun a _ => pVq a) s s' ∧ RR 16 D s' ∧ SW D (k + 1) s' ∧ SH D (k + 1) s' ∧ (k + 1 < QN D → PR 121 D (TL D (lkN D (k + 1))) s') := by
  have hd := hV.1
  have hq := QN_le hV
  obtain ⟨s1, f1, f2, f3⟩ := sail_is (c := 121) (M := D 0 0) (Or.inr rfl) hV hR hP hd.2.1 (Nat.le_refl _)
  have r1 : RR 16 D s1 := hR.cg (fun a _ _ => f2.1 a (by omega))
  have p1 : PR 121 D (TL D (lkN D k)) s1 := hP.cg hV (fun a _ _ => f2.1 a (by omega))
  have cv := CV.mk' hV r1 p1 f3 (Nat.le_refl _) (p1.K hV)
  obtain ⟨s2, g1, g2, g3⟩ := c_nw hV r1 hk (fun w hw => (p1.2.2.1 w hw).1) (h1.cg hd.2.2.2.2.2.1 (fun a ha => f2.1 a (by omega)))
  have e2 : ∀ a, a < 214 → s2.1 a = s1.1 a := fun a ha => g2.fn (fun k => by omega)
  have r2 : RR 16 D s2 := r1.cg (fun a _ _ => e2 a (by omega))
  have p2 : PR 121 D (TL D (lkN D k)) s2 := p1.cg hV (fun a _ _ => e2 a (by omega))
  have w2 : RW 121 D (TL D (lkN D k)) (D 0 0) s2 := f3.cg hd.1 (fun a _ _ => e2 a (by omega))
  obtain ⟨s3, x1, x2, x3⟩ := c_nh hV r2 p2 w2 (h2.cg (fun a ha => by rw [g2.fn (fun k => by omega), f2.1 a (by omega)]))
  have e3 : ∀ a, a < 214 → s3.1 a = s2.1 a := fun a ha => x2.fn (fun k => by omega)
  have r3 : RR 16 D s3 := r2.cg (fun a _ _ => e3 a (by omega))
  have p3 : PR 121 D (TL D (lkN D k)) s3 := p2.cg hV (fun a _ _ => e3 a (by omega))
  obtain ⟨s4, y1, y2, y3⟩ := c_next hV r3 hk (fun w hw => (p3.2.2.1 w hw).1)
  refine ⟨s4, ?_, ?_, r3.cg (fun a _ _ => y2.1 a (by omega)), SW.cg (s := s2) g3 hd.2.2.2.2.2.1 (fun a ha => by rw [y2.1 a (by omega), x2.fn (fun k => by omega)]), x3.cg (fun a ha => y2.1 a (by omega)), fun hk2 => ?_⟩
  · unfold gV_makeIfStale_h35 gC_sailToWinner
    dsimp only
    rw [show (3125 : Int32) = nI 3125 from rfl, if_neg (nle (by omega) (by omega) (by omega)), if_neg (by decide), hR.1.1, f1, Option.bind_some, kC_winner cv, Option.bind_some, Option.bind_some]
    dsimp only
    rw [show oz (winO (D 0 0) (D 5 0) (D 2 0) (rP D (TL D (lkN D k)))) = oz (wnI D k) from rfl, g1, Option.bind_some, x1, Option.bind_some, y1, Option.bind_some, nI_1]
  · refine ⟨fun a j hn => ?_, by rw [y2.2, x2.2, g2.2, f2.2]⟩
    unfold pVq at hn
    rw [y2.1 a (by omega), x2.1 a j (by omega), g2.1 a j (by omega), f2.1 a (by omega)]
  · exact p3.wfos hV (fun a h1 h2 h3 => y2.1 a (by omega)) (fun w hw => ⟨y3 hk2 w hw, (lk_fo hV hk2 w hw).1⟩)
theorem IV.cgV (h : IV xs D s) (hf : ∀ a, a < 121 ∨ 246 < a → s'.1 a = s.1 a) (h2 : s'.2 = s.2) (hs : SVI D s') (hn : SNI D s') : IV xs D s' := by
  obtain ⟨⟨i1, i2, i3⟩, ⟨i4, i5⟩, i6, i7, i8, i9, i10, i11, i12⟩ := h
  have eXB : XB = 1000000 := rfl
  refine ⟨⟨i1, i2.cg (fun a h1 h2 => hf a (by omega)), ?_⟩, ⟨i4.cg i1 (fun a h1 h2 => hf a (by omega)), i5.cg i1.1.1 (fun a h1 h2 => hf a (by omega))⟩, ?_, ?_, fun k hk => ?_, fun l hl => ?_, hs, hn, fun a ha => ?_⟩
  · rw [hf 295 (by omega)]; exact i3
  · unfold TPI
    rw [hf 294 (by omega), hf 1 (by omega), hf 2 (by omega), hf 298 (by omega)]
    exact i6
  · rw [hf 294 (by omega), hf 3 (by omega)]; exact i7
  · rcases i8 k hk with h | ⟨h1, h2, D', h3, h4, h5⟩
    · left
      rw [hf 248 (by omega), hf 297 (by omega)]; exact h
    · right
      rw [hf 248 (by omega), hf 297 (by omega), hf 296 (by omega)]
      exact ⟨h1, h2, D', h3, h4.cg (fun a z1 z2 => hf a (by omega)), h5⟩
  · exact (i9 l hl).cg (hf _ (by omega)) (by rw [hf 313 (by omega)]) (by rw [hf 314 (by omega)]) (fun i hi => by rw [h2]; exact ⟨rfl, rfl⟩)
  · rw [hf a (by omega)]; exact i12 a ha
def SVF (D : RD) (s : mT) : Prop := ∀ b, b < D 5 0 → s.1 215 b = nI (wyN D b (QN D)) ∧ s.1 216 b = oz (fwO D b (QN D)) ∧ s.1 217 b = oz (snO D b (QN D)) ∧ s.1 218 b = nI (frN D b (QN D)) ∧ ∀ w, w < D 6 0 → s.1 (220 + b) w = oz (plN D b w (QN D))
theorem c_survey (h : IV xs D s) : ∃ s', gV_makeIfStale s = some s' ∧ (∀ a, a < 121 ∨ 224 < a → s'.1 a = s.1 a) ∧ IV xs D s' ∧ SVF D s' := by
  have hV := h.V
  have hd := hV.1
  have hq := QN_le hV
  by_cases e0 : s.1 214 2 = 0
  · refine ⟨s, ?_, fun a _ => rfl, h, ?_⟩
    · unfold gV_makeIfStale
      rw [if_pos e0]
    · rcases h.2.2.2.2.2.2.1 with z | ⟨z1, z2⟩
      · rw [e0] at z; cases z
      · exact z2
  · obtain ⟨t0, ht0⟩ : ∃ t0, t0 = stI s 214 2 (0 : Int32) := ⟨_, rfl⟩
    obtain ⟨t1, x1, x2, x3⟩ := c_forget (s := t0)
    have e1 : ∀ a, a ≠ 214 → ¬ (215 ≤ a ∧ a ≤ 224) → t1.1 a = s.1 a := fun a h1 h2 => by rw [x2.fn (fun k => h2), ht0, stI_fn h1]
    have r1 : RR 16 D t1 := h.R.cg (fun a _ _ => e1 a (by omega) (by omega))
    obtain ⟨t2, y1, y2, y3⟩ := prepW_is (c := 121) (v := (-1 : Int32)) (ex := fun _ => false) (Or.inr rfl) hV r1 (fun k hk => ⟨fun z => absurd z (m1_n (by omega)), fun z => by cases z⟩)
    obtain ⟨t3, z1, z2, z3⟩ := cp_n (s := t2) (a := 20) (b := 124) (n := 5) (by omega)
    have e3 : ∀ a, a < 121 → t3.1 a = s.1 a := fun a ha => by rw [z2.1 a (by omega), y2.1 a (by omega), e1 a (by omega) (by omega)]
    have e3' : ∀ a, 148 ≤ a → t3.1 a = t1.1 a := fun a ha => by rw [z2.1 a (by omega), y2.1 a (by omega)]
    have r3 : RR 16 D t3 := h.R.cg (fun a _ _ => e3 a (by omega))
    have p3 : PR 121 D (TL D (lkN D 0)) t3 := PR.wfos (fo := D 14) (lw := D 1 0) (st := D 9) (nd := D 10) (sl := sh0 D) y3 hV (fun a h1 h2 h3 => z2.1 a (by omega)) (fun w hw => by
      have := hV.2.2.1 w hw
      refine ⟨?_, ?_⟩
      · show t3.1 124 w = nI (D 12 w)
        rw [z3 w (by omega), y2.1 20 (by omega), e1 20 (by omega) (by omega)]
        exact (h.R.2.2.1 w hw).2.1
      · show D 12 w < D 5 0
        omega)
    have q1 : SW D 0 t3 := fun b hb => by
      rw [e3' 215 (by omega), e3' 216 (by omega), e3' (220 + b) (by omega)]
      obtain ⟨a1, a2, a3, a4, a5⟩ := x3 b (by omega)
      exact ⟨a1, a2, fun w hw => a5 w (by omega)⟩
    have q2 : SH D 0 t3 := fun b hb => by
      rw [e3' 217 (by omega), e3' 218 (by omega)]
      obtain ⟨a1, a2, a3, a4, a5⟩ := x3 b (by omega)
      exact ⟨a3, a4⟩
    obtain ⟨t4, w1, w2, w3, w4, w5⟩ := wh_inv (f := gV_makeIfStale_h35) (fun k q => k ≤ QN D ∧ q.1 = bz (decide (k < QN D)) ∧ q.2.1 = nI k ∧ Fp (fun a _ => pVq a) t3 q.2.2 ∧ RR 16 D q.2.2 ∧ SW D k q.2.2 ∧ SH D k q.2.2 ∧ (k < QN D → PR 121 D (TL D (lkN D k)) q.2.2)) (fun r => Fp (fun a _ => pVq a) t3 r ∧ RR 16 D r ∧ SW D (QN D) r ∧ SH D (QN D) r) (QN D) (fun k hk q hI => by
      obtain ⟨c1, c2, u⟩ := q
      obtain ⟨j0, j1, j2, j3, j4, j5, j6, j7⟩ := hI
      dsimp only at j1 j2 j3 j4 j5 j6 j7
      subst j1 j2
      obtain ⟨u', v1, v2, v3, v4, v5, v6⟩ := c_sv1 hV j4 hk (j7 hk) j5 j6
      refine ⟨(bz (decide (k + 1 < QN D)), nI (k + 1), u'), ?_, by omega, rfl, rfl, j3.tr v2, v3, v4, v5, v6⟩
      rw [decide_eq_true hk, bz_t]
      exact v1) (fun q hI => by
      obtain ⟨c1, c2, u⟩ := q
      obtain ⟨j0, j1, j2, j3, j4, j5, j6, j7⟩ := hI
      dsimp only at j1 j2 j3 j4 j5 j6 j7
      subst j1 j2
      refine ⟨u, ?_, j3, j4, j5, j6⟩
      unfold gV_makeIfStale_h35
      dsimp only
      rw [decide_eq_false (Nat.lt_irrefl _), bz_f]
      by_cases e : (3125 : Int32) ≤ nI (QN D)
      · rw [if_pos e]
      · rw [if_neg e, if_pos rfl]) (q := ((1 : Int32), (0 : Int32), t3)) ⟨Nat.zero_le _, by rw [decide_eq_true hq.2]; rfl, rfl, Fp.rfl', r3, q1, q2, fun _ => p3⟩ FU (FU_gt (by omega))
    have e4 : ∀ a, a < 121 ∨ 224 < a → t4.1 a = s.1 a := fun a ha => by
      rw [w2.fn (fun k => by unfold pVq; omega)]
      rcases ha with ha | ha
      · exact e3 a ha
      · rw [e3' a (by omega), e1 a (by omega) (by omega)]
    have sv : SVF D t4 := fun b hb => ⟨(w4 b hb).1, (w4 b hb).2.1, (w5 b hb).1, (w5 b hb).2, (w4 b hb).2.2⟩
    have t42 : t4.2 = s.2 := by rw [w2.2, z2.2, y2.2, x2.2, ht0]; rfl
    refine ⟨t4, ?_, e4, h.cgV (fun a ha => e4 a (by omega)) t42 (Or.inr ⟨?_, sv⟩) ?_, sv⟩
    · unfold gV_makeIfStale gC_prepare gC_startLooks
      rw [if_neg e0, ← ht0, x1, Option.bind_some, y1, Option.bind_some, Option.bind_some, show (5 : Int32) = nI 5 from rfl, z1, Option.bind_some, Option.bind_some, w1, Option.bind_some]
    · rw [w2.1 214 2 (by unfold pVq; omega), e3' 214 (by omega), x2.1 214 2 (by omega), ht0, stI_eq]
    · have hn := h.2.2.2.2.2.2.2.1
      unfold SNI at hn ⊢
      rw [e4 225 (by omega), t42]
      rcases hn with h | ⟨l, n, hl, h1, h2, h3, h4, h5⟩
      · exact Or.inl h
      · refine Or.inr ⟨l, n, hl, h1, h2, ?_⟩
        rw [e4 (286 + 2 * l) (by omega)]
        refine ⟨h3, h4, fun w b hw hb => ?_⟩
        rw [e4 (227 + w) (by omega)]
        exact h5 w b hw hb
end SUR2
