/-! LOOK, SNEEZE -/
section LOOK
variable {n w o b a k m v : Nat} {s s' s'' : mT} {D D' : RD} {xs : Nat → Int32}
theorem c_addAct (hR : RR 16 D s) (h30 : D 8 0 < 30) {x y z : Int32} : gR_addAct 16 x y z s = some (stI (stI (stI (stI s 25 (D 8 0) x) 26 (D 8 0) y) 27 (D 8 0) z) 16 8 (nI (D 8 0 + 1))) := by
  have e8 := hR.1.2.2.2.2.2.2.2.2
  unfold gR_addAct
  rw [e8, show (30 : Int32) = nI 30 from rfl, if_neg (nle (by omega) (by omega) (by omega)), wr_n (by omega) (by omega), Option.bind_some, stI_ne (by omega), e8, wr_n (by omega) (by omega), Option.bind_some, stI_ne (by omega), stI_ne (by omega), e8, wr_n (by omega) (by omega), Option.bind_some, stI_ne (by omega), stI_ne (by omega), stI_ne (by omega), e8, nI_1]
  rfl
theorem m_keep (hV : VD D) (hM : MA (s.1 295) D) (h4 : 0 < D 4 0) (h30 : D 8 0 < 30) (hw : w < D 6 0) (hb : b ≤ D 5 0) (hn : n ≤ D 0 0) {x : Int32} (hx : x = nI (acN (dAd D w b n) (D 8 0))) : ∃ s', gM_keepAct x s = some (0, s') ∧ Fp pM s s' ∧ MA (s'.1 295) (dAd D w b n) ∧ s'.1 294 25 = nI (rK D (T0 D) n w) ∧ s'.1 294 26 = bz ((T0 D).2.2.2.2.2 n w) := by
  have hV' := VDa hV hw hb hn h30
  have m2 := MAa (w := w) (b := b) (n := n) hM hV h30
  obtain ⟨s1, f1, f2, f3, f4, f5⟩ := asksRace_is hV' m2
  obtain ⟨o1, o2⟩ := ow_look hV hV' hw (f5 (show 0 < D 4 0 from h4)).2
  refine ⟨s1, ?_, ?_, f3, o1, o2⟩
  · unfold gM_keepAct
    rw [mA1 hM, Option.bind_some, if_neg (show ¬ nI (D 8 0) = (30 : Int32) from fun z => absurd ((nI_eq (b := 30) (by omega) (by omega)).mp z) (by omega)), Option.bind_some, show (49 : Int32) = nI 49 from rfl, nI_add, wr_n (by omega) (by omega), Option.bind_some, show (7 : Int32) = nI 7 from rfl, rd_n (by omega) (by omega), Option.bind_some, stI_nk (by omega), hM.1.2.2.2.2.2.2.2.1, nI_1, wr_n (by omega) (by omega), Option.bind_some, hx, f1, Option.bind_some]
  · refine ((Fp.st (Or.inl rfl)).tr (Fp.st (Or.inl rfl))).tr (f2.wid (fun a k z => ?_))
    unfold pA pG at z
    unfold pM
    omega
theorem a_look (v1 v2 v3 : Int32) : AS (gL_look v1 v2 v3) (gM_look v1 v2 v3) := fun xs D s h => by
  have hd := h.V.1
  by_cases g : (0 ≤ v1.toInt ∧ v1.toInt < (D 6 0 : Int)) ∧ (0 ≤ v2.toInt ∧ v2.toInt < (D 5 0 : Int)) ∧ (0 < D 4 0 ∧ 0 ≤ v3.toInt ∧ v3.toInt < (D 0 0 : Int) + 1)
  · obtain ⟨g1, g2, g3⟩ := g
    obtain ⟨w, hw, rfl⟩ := of_in g1
    obtain ⟨b, hb, rfl⟩ := of_in g2
    obtain ⟨n, hn, rfl⟩ := of_inS g3.2
    by_cases h30 : D 8 0 < 30
    · have ec : nI (b + 1) - 1 = nI b := pk_sub (b := 1) (by omega)
      have er := RRa (w := w) (b := b + 1) (n := n) h.R
      rw [ec] at er
      refine AS_chg (D' := dAd D w (b + 1) n) (r := nI (rK D (T0 D) n w)) (t := stI (stI (stI (stI s 25 (D 8 0) (nI w)) 26 (D 8 0) (nI b)) 27 (D 8 0) (nI n)) 16 8 (nI (D 8 0 + 1))) h (VDa h.V hw (by omega) hn h30) ((KZ.st (by unfold pZq; omega)).tr ((KZ.st (by unfold pZq; omega)).tr ((KZ.st (by unfold pZq; omega)).tr (KZ.st (by unfold pZq; omega))))) (by rw [stI_fn (by omega), stI_fn (by omega), stI_fn (by omega), stI_fn (by omega)]) er (fun s1 f1 f2 => ?_) (fun s1 hs => ?_)
      · unfold gL_look
        rw [h.hasW, Option.bind_some, bz_if, if_pos g1, h.hasB, Option.bind_some, bz_if, if_pos g2, h.hasS, Option.bind_some, bz_if, if_pos g3, h.R.1.2.2.2.2.2.2.2.2, show (30 : Int32) = nI 30 from rfl, if_pos (nI_lt (by omega) (by omega)), ix_ite (by omega) (by omega), nI_clamp (by omega), rd_n (by omega) (by omega), Option.bind_some, show s.1 (78 + n) w = nI (rK D (T0 D) n w) from h.2.1.2.2.1 n w hn hw, c_addAct h.R h30, Option.bind_some, f1, Option.bind_some]
      · have m1 : MA (s1.1 295) D := by rw [hs 295 (by omega), stI_fn (by omega), stI_fn (by omega), stI_fn (by omega), stI_fn (by omega)]; exact h.M
        obtain ⟨s2, y1, y2, y3, y4, y5⟩ := m_keep (x := (((1000 : Int32) * nI w) + ((100 : Int32) * nI b)) + nI n) h.V m1 g3.1 h30 hw (b := b + 1) (by omega) hn (by
          rw [show (1000 : Int32) = nI 1000 from rfl, show (100 : Int32) = nI 100 from rfl, pk_mul, pk_mul, nI_add, nI_add]
          show _ = nI (if upN (D 18) (D 8 0) (b + 1) (D 8 0) = 0 then _ else 1000 * upN (D 17) (D 8 0) w (D 8 0) + 100 * (upN (D 18) (D 8 0) (b + 1) (D 8 0) - 1) + upN (D 19) (D 8 0) n (D 8 0))
          rw [upN_eq, upN_eq, upN_eq, if_neg (by omega), Nat.add_sub_cancel])
        refine ⟨s2, ?_, y2, y3⟩
        have hmb := m_isBoat (s := s1) (v := (nI b).toInt64) m1.1.2.2.2.2.1 h.V.1.2.2.2.2.2.1
        have hms := m_isStep (s := s1) (v := (nI n).toInt64) m1.1.2.2.2.2.2.2.2.2 h.l31 m1.1.1 h.V.1.1
        rw [Int32.toInt_toInt64] at hmb hms
        unfold gM_look
        rw [m_isW m1.1.2.2.2.2.2.1 h.V.1.2.2.2.2.2.2.1, Option.bind_some, bz_if, if_pos g1, hmb, Option.bind_some, bz_if, if_pos g2, hms, Option.bind_some, bz_if, if_pos g3, y1, Option.bind_some]
        dsimp only
        rw [if_pos (by decide), y4, Option.bind_some]
    · have h3 : D 8 0 = 30 := by omega
      refine AS_err (r := -5) h ?_ ?_
      · unfold gL_look
        rw [h.hasW, Option.bind_some, bz_if, if_pos g1, h.hasB, Option.bind_some, bz_if, if_pos g2, h.hasS, Option.bind_some, bz_if, if_pos g3, h.R.1.2.2.2.2.2.2.2.2, h3, if_neg (by decide)]
      · unfold gM_look gM_keepAct
        rw [h.mW, Option.bind_some, bz_if, if_pos g1, h.mB, Option.bind_some, bz_if, if_pos g2, h.mS, Option.bind_some, bz_if, if_pos g3, mA1 h.M, Option.bind_some, h3, if_pos (show nI 30 = (30 : Int32) from rfl), Option.bind_some]
        rfl
  · refine AS_err (r := -2) h ?_ ?_
    · unfold gL_look
      rw [h.hasW, Option.bind_some, bz_if, h.hasB, Option.bind_some, bz_if, h.hasS, Option.bind_some, bz_if]
      by_cases g1 : 0 ≤ v1.toInt ∧ v1.toInt < (D 6 0 : Int)
      · rw [if_pos g1]
        by_cases g2 : 0 ≤ v2.toInt ∧ v2.toInt < (D 5 0 : Int)
        · rw [if_pos g2, if_neg (fun z => g ⟨g1, g2, z⟩)]
        · rw [if_neg g2]
      · rw [if_neg g1]
    · unfold gM_look
      rw [h.mW, Option.bind_some, bz_if, h.mB, Option.bind_some, bz_if, h.mS, Option.bind_some, bz_if]
      by_cases g1 : 0 ≤ v1.toInt ∧ v1.toInt < (D 6 0 : Int)
      · rw [if_pos g1]
        by_cases g2 : 0 ≤ v2.toInt ∧ v2.toInt < (D 5 0 : Int)
        · rw [if_pos g2, if_neg (fun z => g ⟨g1, g2, z⟩)]
        · rw [if_neg g2]
      · rw [if_neg g1]
theorem a_sneeze (v1 v2 : Int32) : AS (gL_sneeze v1 v2) (gM_sneeze v1 v2) := fun xs D s h => by
  have hd := h.V.1
  by_cases g : (0 ≤ v1.toInt ∧ v1.toInt < (D 6 0 : Int)) ∧ (0 < D 4 0 ∧ 0 ≤ v2.toInt ∧ v2.toInt < (D 0 0 : Int))
  · obtain ⟨g1, g3⟩ := g
    obtain ⟨w, hw, rfl⟩ := of_in g1
    obtain ⟨n, hn, rfl⟩ := of_in g3.2
    by_cases h30 : D 8 0 < 30
    · have er := RRa (w := w) (b := 0) (n := n) h.R
      rw [show nI 0 - 1 = (-1 : Int32) from rfl] at er
      have hbm : nI (bmN ((T0 D).2.2.2.2.2 n) (D 6 0) / 2 ^ w % 2) = bz ((T0 D).2.2.2.2.2 n w) := by
        rw [bmN_bit hw]
        cases (T0 D).2.2.2.2.2 n w <;> rfl
      have hlt : bmN ((T0 D).2.2.2.2.2 n) (D 6 0) < 2 ^ 31 := Nat.lt_of_lt_of_le (bmN_lt _ _) (Nat.pow_le_pow_right (by omega) (by omega))
      refine AS_chg (D' := dAd D w 0 n) (r := bz ((T0 D).2.2.2.2.2 n w)) (t := stI (stI (stI (stI s 25 (D 8 0) (nI w)) 26 (D 8 0) (-1 : Int32)) 27 (D 8 0) (nI n)) 16 8 (nI (D 8 0 + 1))) h (VDa h.V hw (by omega) (by omega) h30) ((KZ.st (by unfold pZq; omega)).tr ((KZ.st (by unfold pZq; omega)).tr ((KZ.st (by unfold pZq; omega)).tr (KZ.st (by unfold pZq; omega))))) (by rw [stI_fn (by omega), stI_fn (by omega), stI_fn (by omega), stI_fn (by omega)]) er (fun s1 f1 f2 => ?_) (fun s1 hs => ?_)
      · unfold gL_sneeze
        rw [h.hasW, Option.bind_some, bz_if, if_pos g1, h.hasE, Option.bind_some, bz_if, if_pos g3, h.R.1.2.2.2.2.2.2.2.2, show (30 : Int32) = nI 30 from rfl, if_pos (nI_lt (by omega) (by omega)), rd_n (by omega) (by omega), Option.bind_some, show s.1 54 n = nI (bmN ((T0 D).2.2.2.2.2 n) (D 6 0)) from h.2.1.1.2.2.2.2 n (by omega), c_addAct h.R h30, Option.bind_some, f1, Option.bind_some, shr_b hlt (by omega), hbm]
      · have m1 : MA (s1.1 295) D := by rw [hs 295 (by omega), stI_fn (by omega), stI_fn (by omega), stI_fn (by omega), stI_fn (by omega)]; exact h.M
        obtain ⟨s2, y1, y2, y3, y4, y5⟩ := m_keep (x := ((100000 : Int32) + ((100 : Int32) * nI w)) + nI n) h.V m1 g3.1 h30 hw (b := 0) (by omega) (n := n) (by omega) (by
          rw [show (100000 : Int32) = nI 100000 from rfl, show (100 : Int32) = nI 100 from rfl, pk_mul, nI_add, nI_add]
          show _ = nI (if upN (D 18) (D 8 0) 0 (D 8 0) = 0 then 100000 + 100 * upN (D 17) (D 8 0) w (D 8 0) + upN (D 19) (D 8 0) n (D 8 0) else _)
          rw [upN_eq, upN_eq, upN_eq, if_pos rfl])
        refine ⟨s2, ?_, y2, y3⟩
        unfold gM_sneeze
        rw [m_isW m1.1.2.2.2.2.2.1 h.V.1.2.2.2.2.2.2.1, Option.bind_some, bz_if, if_pos g1, m_isAhead m1.1.2.2.2.2.2.2.2.2 h.l31 m1.1.1 h.V.1.1, Option.bind_some, bz_if, if_pos g3, y1, Option.bind_some]
        dsimp only
        rw [if_pos (by decide), y5, Option.bind_some]
    · have h3 : D 8 0 = 30 := by omega
      refine AS_err (r := -5) h ?_ ?_
      · unfold gL_sneeze
        rw [h.hasW, Option.bind_some, bz_if, if_pos g1, h.hasE, Option.bind_some, bz_if, if_pos g3, h.R.1.2.2.2.2.2.2.2.2, h3, if_neg (by decide)]
      · unfold gM_sneeze gM_keepAct
        rw [h.mW, Option.bind_some, bz_if, if_pos g1, h.mE, Option.bind_some, bz_if, if_pos g3, mA1 h.M, Option.bind_some, h3, if_pos (show nI 30 = (30 : Int32) from rfl), Option.bind_some]
        rfl
  · refine AS_err (r := -2) h ?_ ?_
    · unfold gL_sneeze
      rw [h.hasW, Option.bind_some, bz_if, h.hasE, Option.bind_some, bz_if]
      by_cases g1 : 0 ≤ v1.toInt ∧ v1.toInt < (D 6 0 : Int)
      · rw [if_pos g1, if_neg (fun z => g ⟨g1, z⟩)]
      · rw [if_neg g1]
    · unfold gM_sneeze
      rw [h.mW, Option.bind_some, bz_if, h.mE, Option.bind_some, bz_if]
      by_cases g1 : 0 ≤ v1.toInt ∧ v1.toInt < (D 6 0 : Int)
      · rw [if_pos g1, if_neg (fun z => g ⟨g1, z⟩)]
      · rw [if_neg g1]
end LOOK
