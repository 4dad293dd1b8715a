/-! THE MODEL'S COURSE: eyes, places, the whole -/
theorem eyN_congr {D : RD} {a a' : Nat → Bool} {k k' : Nat → Nat} {b n : Nat} (ha : ∀ w, w < n → a w = a' w) (hk : ∀ w, w < n → k w = k' w) : eyN D a k b n = eyN D a' k' b n := sumN_congr (fun w hw => by rw [ha w hw, hk w hw])
section MG2
variable {n w b : Nat} {s : mT} {D : RD} {T : SU} {lu : Nat → Nat} {m : Nat}
theorem m_last1 (hM : MA (s.1 295) D) : gM_last s = some (nI (D 0 0)) := m_last hM.1.1
theorem m_eyes1 {a : Nat → Bool} {k : Nat → Nat} (hV : VD D) (hM : MA (s.1 295) D) (hn : n ≤ 20) (hb : b ≤ 4) (ha : s.1 308 n = nI (bmN a (D 6 0))) (hk : ∀ w, w < D 6 0 → s.1 306 (5 * n + w) = nI (k w) ∧ k w < 9) : wh FU (gM_goAll_h78 (nI n) (nI b) s) ((0 : Int32), (0 : Int32)) = some (nI (eyN D a k b (D 6 0))) := by
  have hV2 := hV
  obtain ⟨⟨v1, v2, v3, v4, v5, v6, v7, v8, v9⟩, vB, vW, vS, vA, v0⟩ := hV
  have hWn := hM.1.2.2.2.2.2.1
  have b1 := bmN_lt a (D 6 0)
  have b2 : 2 ^ D 6 0 ≤ 2 ^ 5 := Nat.pow_le_pow_right (by omega) (by omega)
  refine wh_for (fun j => (nI (eyN D a k b j), nI j)) (D 6 0) (fun j hj => ?_) ?_ FU (FU_gt (by omega))
  · have e9 : ¬ D 6 0 ≤ j := by omega
    have o0 := of_0 hV2 hM hj
    have k1 := hk j hj
    have b3 := bmN_bit (p := a) hj
    have hs : eyN D a k b (j + 1) = eyN D a k b j + (if a j = true ∧ k j = b then D 11 j else 0) := rfl
    simp (disch := omega) only [gM_goAll_h78, gM_bit, show (5 : Int32) = nI 5 from rfl, rd_n, hWn, Option.bind_some, nI_leI, e9, if_false, ha, shr_b, b3, on_is, k1.1, nI_eq, o0, nI_1, hs]
    by_cases h1 : a j = true
    · rw [if_pos h1, if_pos (show nI 1 = (1 : Int32) from rfl)]
      by_cases h2 : k j = b
      · rw [if_pos h2, if_pos ⟨h1, h2⟩, Option.bind_some, nI_add]
      · rw [if_neg h2, if_neg (fun z => h2 z.2), Option.bind_some, Nat.add_zero, ← nI_0, nI_add, Nat.add_zero]
    · rw [if_neg h1, if_neg (by decide), if_neg (fun z => h1 z.1), Option.bind_some, Nat.add_zero, ← nI_0, nI_add, Nat.add_zero]
  · simp (disch := omega) only [gM_goAll_h78, show (5 : Int32) = nI 5 from rfl, rd_n, hWn, Option.bind_some, nI_leI, Nat.le_refl, if_true]
theorem m_boats {a : Nat → Bool} {k p nd : Nat → Nat} (hV : VD D) (hM : MA (s.1 295) D) (hn : n ≤ D 0 0) (ha : s.1 308 n = nI (bmN a (D 6 0))) (hk : ∀ w, w < D 6 0 → s.1 306 (5 * n + w) = nI (k w) ∧ k w < 9) (hp : ∀ b, b < D 5 0 → s.1 305 (5 * n + b) = nI (p b) ∧ p b ≤ 60) (hd : ∀ b, b < D 5 0 → s.1 302 b = nI (nd b) ∧ 1 ≤ nd b ∧ nd b ≤ 9) : ∃ s', wh FU (gM_goAll_h63 (nI n)) ((0 : Int32), s) = some s' ∧ Fp (pB n) s s' ∧ (∀ b, b < D 5 0 → s'.1 307 (5 * n + b) = nI (eyN D a k b (D 6 0))) ∧ (n < D 0 0 → ∀ b, b < D 5 0 → s'.1 305 (5 * (n + 1) + b) = nI (min (p b + min 3 (eyN D a k b (D 6 0) / nd b)) (D 2 0))) := by
  have hV2 := hV
  obtain ⟨⟨v1, v2, v3, v4, v5, v6, v7, v8, v9⟩, vB, vW, vS, vA, v0⟩ := hV
  have hBn := hM.1.2.2.2.2.1
  have hG := hM.1.2.2.1
  refine wh_cnt (f := gM_goAll_h63 (nI n)) (fun j s1 => Fp (pB n) s s1 ∧ (∀ b, b < j → s1.1 307 (5 * n + b) = nI (eyN D a k b (D 6 0))) ∧ (n < D 0 0 → ∀ b, b < j → s1.1 305 (5 * (n + 1) + b) = nI (min (p b + min 3 (eyN D a k b (D 6 0) / nd b)) (D 2 0)))) _ 0 (D 5 0) (Nat.zero_le _) (fun j _ hj s1 hI => ?_) (fun s1 hI => ?_) ⟨Fp.rfl', fun w hw => absurd hw (Nat.not_lt_zero _), fun _ w hw => absurd hw (Nat.not_lt_zero _)⟩ rfl FU (FU_gt (by omega))
  · obtain ⟨q1, q2, q3⟩ := hI
    have e295 : s1.1 295 = s.1 295 := q1.fn (fun k => by unfold pB; omega)
    have hM1 : MA (s1.1 295) D := by rw [e295]; exact hM
    have e9 : ¬ D 5 0 ≤ j := by omega
    have hey := m_eyes1 (n := n) (b := j) (s := s1) (a := a) (k := k) hV2 hM1 (by omega) (by omega) ((q1.1 308 n (by unfold pB; omega)).trans ha) (fun w hw => ⟨(q1.1 306 (5 * n + w) (by unfold pB; omega)).trans (hk w hw).1, (hk w hw).2⟩)
    have hle : eyN D a k j (D 6 0) ≤ 9 * D 6 0 := eyN_le (fun w hw => (vW w hw).2.1)
    obtain ⟨d1, d2, d3⟩ := hd j hj
    obtain ⟨p1, p2⟩ := hp j hj
    obtain ⟨e, he⟩ : ∃ e, e = eyN D a k j (D 6 0) := ⟨_, rfl⟩
    rw [← he] at hey hle
    have hdiv : e / nd j < 2 ^ 31 := Nat.lt_of_le_of_lt (Nat.div_le_self _ _) (by omega)
    have hM3 : (stI s1 307 (5 * n + j) (nI e)).1 295 = s.1 295 := by funext i; rw [stI_ne (by omega), e295]
    have hl2 := m_last1 (s := stI s1 307 (5 * n + j) (nI e)) (D := D) (by rw [hM3]; exact hM)
    have h302 : (stI s1 307 (5 * n + j) (nI e)).1 302 j = nI (nd j) := by rw [stI_ne (by omega), q1.1 302 j (by unfold pB; omega)]; exact d1
    have h305 : (stI s1 307 (5 * n + j) (nI e)).1 305 (5 * n + j) = nI (p j) := by rw [stI_ne (by omega), q1.1 305 _ (by unfold pB; omega)]; exact p1
    have hdn0 : ¬ nI (nd j) = 0 := nI_ne0 (by omega) (by omega)
    by_cases hnN : n < D 0 0
    · refine ⟨stI (stI s1 307 (5 * n + j) (nI e)) 305 (5 * (n + 1) + j) (nI (min (D 2 0) (p j + min 3 (e / nd j)))), ?_, q1.tr ((Fp.st (by unfold pB; omega)).tr (Fp.st (by unfold pB; omega))), fun b hb => ?_, fun _ b hb => ?_⟩
      · have e10 : ¬ D 0 0 ≤ n := by omega
        unfold gM_goAll_h63
        dsimp only
        rw [show (4 : Int32) = nI 4 from rfl, rd_n (by omega) (by omega), e295, hBn, Option.bind_some, if_neg (fun z => e9 ((nI_leI (by omega) (by omega)).mp z)), hey, Option.bind_some, show (5 : Int32) = nI 5 from rfl, pk_mul, nI_add, wr_n (by omega) (by omega), Option.bind_some, hl2, Option.bind_some, if_neg (fun z => e10 ((nI_leI (by omega) (by omega)).mp z)), show (2 : Int32) = nI 2 from rfl, rd_n (by omega) (by omega), Option.bind_some, hM3, hG, pl_is (by omega) (by omega), h305, Option.bind_some, rd_n (by omega) (by omega), h302, Option.bind_some, if_neg hdn0, pk_div (by omega) (by omega) (by omega), show (3 : Int32) = nI 3 from rfl, imin_n (by omega) hdiv, nI_add, imin_n (by omega) (by omega), nI_1, pk_mul, nI_add, wr_n (by omega) (by omega), Option.bind_some, Option.bind_some, nI_1]
      · rw [stI_ne (by omega), stI_at]
        by_cases hbj : b = j
        · subst hbj; rw [if_pos ⟨rfl, rfl⟩, he]
        · rw [if_neg (by omega)]
          exact q2 b (by omega)
      · rw [stI_at]
        by_cases hbj : b = j
        · subst hbj; rw [if_pos ⟨rfl, rfl⟩, he, Nat.min_comm]
        · rw [if_neg (by omega), stI_ne (by omega)]
          exact q3 hnN b (by omega)
    · refine ⟨stI s1 307 (5 * n + j) (nI e), ?_, q1.tr (Fp.st (by unfold pB; omega)), fun b hb => ?_, fun z => absurd z hnN⟩
      · have e10 : D 0 0 ≤ n := by omega
        unfold gM_goAll_h63
        dsimp only
        rw [show (4 : Int32) = nI 4 from rfl, rd_n (by omega) (by omega), e295, hBn, Option.bind_some, if_neg (fun z => e9 ((nI_leI (by omega) (by omega)).mp z)), hey, Option.bind_some, show (5 : Int32) = nI 5 from rfl, pk_mul, nI_add, wr_n (by omega) (by omega), Option.bind_some, hl2, Option.bind_some, if_pos ((nI_leI (by omega) (by omega)).mpr e10), Option.bind_some, nI_1]
      · rw [stI_at]
        by_cases hbj : b = j
        · subst hbj; rw [if_pos ⟨rfl, rfl⟩, he]
        · rw [if_neg (by omega)]
          exact q2 b (by omega)
  · obtain ⟨q1, q2, q3⟩ := hI
    have e295 : s1.1 295 = s.1 295 := q1.fn (fun k => by unfold pB; omega)
    refine ⟨s1, ?_, q1, q2, q3⟩
    unfold gM_goAll_h63
    dsimp only
    rw [show (4 : Int32) = nI 4 from rfl, rd_n (by omega) (by omega), e295, hBn, Option.bind_some, if_pos (nI_le (Nat.le_refl _) (by omega))]
/-- what the model's own facts of the last act say -/
def OWN (D : RD) (T : SU) (lu : Nat → Nat) (m : Nat) (s : mT) : Prop := 0 < D 8 0 → OW D lu m (bsT D T (D 19 (D 8 0 - 1))) (D 19 (D 8 0 - 1)) s
theorem goAll_is (hV : VD D) (hM : MA (s.1 295) D) (hP : MP D T lu m s) : ∃ s', gM_goAll s = some s' ∧ Fp pG s s' ∧ MW D T s' ∧ OWN D T lu m s' := by
  have hV2 := hV
  obtain ⟨⟨v1, v2, v3, v4, v5, v6, v7, v8, v9⟩, vB, vW, vS, vA, v0⟩ := hV
  obtain ⟨⟨hl, hl3⟩, hB, hF, hAl, hLu, hm, hAw⟩ := hP
  have hBn := hM.1.2.2.2.2.1
  have hG := hM.1.2.2.1
  have hKlt := rK_lt (D := D) (T := T) hV2 (fun w hw => (hF w hw).2) (fun n w hn hw b hb => by
    rw [hAl n w hn hw] at hb
    exact alK_lt hV2 (D 8 0) (Nat.le_refl _) n w b hb)
  obtain ⟨s1, f1, g1, g2⟩ := wh_cnt (f := gM_goAll_h2) (fun j s1 => Fp pG s s1 ∧ ∀ b, b < j → s1.1 305 b = nI (rP D T 0 b)) (fun s1 => Fp pG s s1 ∧ ∀ b, b < D 5 0 → s1.1 305 b = nI (rP D T 0 b)) 0 (D 5 0) (Nat.zero_le _) (fun j _ hj s1 hI => by
    obtain ⟨q1, q2⟩ := hI
    have e295 : s1.1 295 = s.1 295 := q1.fn (fun k => by unfold pG; omega)
    have e9 : ¬ D 5 0 ≤ j := by omega
    obtain ⟨⟨d1, d2⟩, -⟩ := hB j hj
    have e301 := (q1.1 301 j (by unfold pG; omega)).trans d1
    refine ⟨stI s1 305 j (nI (min (T.2.1 j) (D 2 0))), ?_, q1.tr (Fp.st (by unfold pG; omega)), fun b hb => ?_⟩
    · unfold gM_goAll_h2
      dsimp only
      rw [show (4 : Int32) = nI 4 from rfl, rd_n (by omega) (by omega), e295, hBn, Option.bind_some, if_neg (fun z => e9 ((nI_leI (by omega) (by omega)).mp z)), rd_n (by omega) (by omega), e301, Option.bind_some, show (2 : Int32) = nI 2 from rfl, rd_n (by omega) (by omega), hG, Option.bind_some, imin_n (by omega) (by omega), wr_n (by omega) (by omega), Option.bind_some, nI_1]
    · rw [stI_at]
      by_cases hbj : b = j
      · subst hbj; rw [if_pos ⟨rfl, rfl⟩]; rfl
      · rw [if_neg (by omega)]
        exact q2 b (by omega)) (fun s1 hI => by
    obtain ⟨q1, q2⟩ := hI
    have e295 : s1.1 295 = s.1 295 := q1.fn (fun k => by unfold pG; omega)
    refine ⟨s1, ?_, q1, q2⟩
    unfold gM_goAll_h2
    dsimp only
    rw [show (4 : Int32) = nI 4 from rfl, rd_n (by omega) (by omega), e295, hBn, Option.bind_some, if_pos (nI_le (Nat.le_refl _) (by omega))]) (s := s) ⟨Fp.rfl', fun w hw => absurd hw (Nat.not_lt_zero _)⟩ (i := (0 : Int32)) rfl FU (FU_gt (by omega))
  obtain ⟨s2, f2, g3⟩ := wh_cnt (f := gM_goAll_h41) (fun j s2 => Fp pG s s2 ∧ (∀ n b, n ≤ j → n ≤ D 0 0 → b < D 5 0 → s2.1 305 (5 * n + b) = nI (rP D T n b)) ∧ (∀ n w, n < j → w < D 6 0 → s2.1 306 (5 * n + w) = nI (rK D T n w)) ∧ (∀ n b, n < j → n < D 0 0 → b < D 5 0 → s2.1 307 (5 * n + b) = nI (rE D T n b)) ∧ (∀ n, n < j → n < D 0 0 → s2.1 308 n = nI (bmN (T.2.2.2.2.2 n) (D 6 0))) ∧ (0 < D 8 0 → D 19 (D 8 0 - 1) < j → OW D lu m (bsT D T (D 19 (D 8 0 - 1))) (D 19 (D 8 0 - 1)) s2)) (fun s2 => Fp pG s s2 ∧ MW D T s2 ∧ OWN D T lu m s2) 0 (D 0 0 + 1) (Nat.zero_le _) (fun j _ hj s2 hI => by
    obtain ⟨q1, q2, q3, q4, q5, q6⟩ := hI
    have e295 : s2.1 295 = s.1 295 := q1.fn (fun k => by unfold pG; omega)
    have hM2 : MA (s2.1 295) D := by rw [e295]; exact hM
    have hl2 := m_last1 hM2
    have e9 : ¬ D 0 0 < j := by omega
    obtain ⟨t0, ht0⟩ : ∃ t0, t0 = stI s2 308 j (0 : Int32) := ⟨_, rfl⟩
    have F0 : Fp pG s2 t0 := by rw [ht0]; exact Fp.st (by unfold pG; omega)
    have F1 := q1.tr F0
    have x0 : ∀ a k, a ≠ 308 → t0.1 a k = s2.1 a k := fun a k h => by rw [ht0, stI_ne h]
    have e295b : t0.1 295 = s.1 295 := F1.fn (fun k => by unfold pG; omega)
    have hM3 : MA (t0.1 295) D := by rw [e295b]; exact hM
    obtain ⟨t1, z1, z2, z3, z4, z5, z6⟩ := goLooks_is (n := j) (s := t0) (D := D) (lu := lu) (m := m) (lw := T.1) (p := rP D T j) (bs := bsT D T j) hV2 hM3 ((F1.1 294 19 (by unfold pG; omega)).trans hl) hl3 (by omega) ⟨(F1.1 304 j (by unfold pG; omega)).trans (hLu j (by omega)).1, (hLu j (by omega)).2⟩ ⟨(F1.1 294 20 (by unfold pG; omega)).trans hm.1, hm.2⟩ (fun b hb => ⟨(x0 305 _ (by omega)).trans (q2 j b (Nat.le_refl _) (by omega) hb), by have := rP_le (D := D) (T := T) j b; omega⟩) (fun h w hw => by
      rw [F1.1 303 w (by unfold pG; omega), (hF w hw).1]
      unfold bsT
      rw [if_pos h]) (fun h w hw => ⟨rK D T (j - 1) w, by have := hKlt (j - 1) (by omega) w hw; omega, (x0 306 _ (by omega)).trans (q3 (j - 1) w (by omega) hw), by unfold bsT; rw [if_neg h]⟩) (by rw [ht0, stI_eq])
    have hK : ∀ w, w < D 6 0 → (alK D (D 8 0) j w).getD (bsT D T j w) = rK D T j w := fun w hw => by
      rw [← hAl j w (by omega) hw]
      unfold bsT
      by_cases h : j = 0
      · subst h; rw [if_pos rfl]; rfl
      · obtain ⟨i, rfl⟩ : ∃ i, j = i + 1 := ⟨j - 1, by omega⟩
        rw [if_neg h]; rfl
    have F2 : Fp pG s t1 := F1.tr (z2.wid (fun a k h => by unfold pLo at h; unfold pG; omega))
    have e295c : t1.1 295 = s.1 295 := F2.fn (fun k => by unfold pG; omega)
    obtain ⟨t2, y1, y2, y3, y4⟩ := m_boats (n := j) (s := t1) (D := D) (a := awN D lu m j) (k := rK D T j) (p := rP D T j) (nd := T.2.2.1) hV2 (by rw [e295c]; exact hM) (by omega) z4 (fun w hw => ⟨by rw [z3 w hw, hK w hw], by have := hKlt j (by omega) w hw; omega⟩) (fun b hb => ⟨(z2.1 305 _ (by unfold pLo; omega)).trans ((x0 305 _ (by omega)).trans (q2 j b (Nat.le_refl _) (by omega) hb)), by have := rP_le (D := D) (T := T) j b; omega⟩) (fun b hb => ⟨(F2.1 302 b (by unfold pG; omega)).trans (hB b hb).2.1, (hB b hb).2.2⟩)
    have hE : ∀ b, j < D 0 0 → eyN D (awN D lu m j) (rK D T j) b (D 6 0) = rE D T j b := fun b hjN => eyN_congr (fun w hw => (hAw j w hjN hw).symm) (fun w hw => rfl)
    refine ⟨t2, ?_, F2.tr (y2.wid (fun a k h => by unfold pB at h; unfold pG; omega)), fun n b hn hnN hb => ?_, fun n w hn hw => ?_, fun n b hn hnN hb => ?_, fun n hn hnN => ?_, fun h1 h2 => ?_⟩
    · unfold gM_goAll_h41
      dsimp only
      rw [hl2, Option.bind_some, if_neg (fun z => e9 ((nI_ltI (by omega) (by omega)).mp z)), wr_n (by omega) (by omega), Option.bind_some, ← ht0, z1, Option.bind_some, y1, Option.bind_some, nI_1]
    · by_cases hnj : n = j + 1
      · subst hnj
        rw [y4 (by omega) b hb, hE b (by omega)]
        rfl
      · rw [y2.1 305 _ (by unfold pB; omega), z2.1 305 _ (by unfold pLo; omega), x0 305 _ (by omega)]
        exact q2 n b (by omega) hnN hb
    · by_cases hnj : n = j
      · subst hnj
        rw [y2.1 306 _ (by unfold pB; omega), z3 w hw, hK w hw]
      · rw [y2.1 306 _ (by unfold pB; omega), z2.1 306 _ (by unfold pLo; omega), x0 306 _ (by omega)]
        exact q3 n w (by omega) hw
    · by_cases hnj : n = j
      · subst hnj
        rw [y3 b hb, hE b hnN]
      · rw [y2.1 307 _ (by unfold pB; omega), z2.1 307 _ (by unfold pLo; omega), x0 307 _ (by omega)]
        exact q4 n b (by omega) hnN hb
    · by_cases hnj : n = j
      · subst hnj
        rw [y2.1 308 _ (by unfold pB; omega), z4]
        exact congrArg nI (bmN_congr (fun w hw => (hAw n w hnN hw).symm))
      · rw [y2.1 308 _ (by unfold pB; omega), z2.1 308 _ (by unfold pLo; omega), ht0, stI_nk hnj]
        exact q5 n (by omega) hnN
    · have e25 : t2.1 294 25 = t1.1 294 25 := y2.1 294 25 (by unfold pB; omega)
      have e26 : t2.1 294 26 = t1.1 294 26 := y2.1 294 26 (by unfold pB; omega)
      unfold OW
      rw [e25, e26]
      by_cases hnj : D 19 (D 8 0 - 1) = j
      · have := z5 h1 hnj
        rw [hnj]
        exact this
      · obtain ⟨w1, w2⟩ := z6 (fun z => hnj z.2)
        rw [w1, w2, x0 294 25 (by omega), x0 294 26 (by omega)]
        exact q6 h1 (by omega)) (fun s2 hI => by
    obtain ⟨q1, q2, q3, q4, q5, q6⟩ := hI
    have e295 : s2.1 295 = s.1 295 := q1.fn (fun k => by unfold pG; omega)
    have hM2 : MA (s2.1 295) D := by rw [e295]; exact hM
    refine ⟨s2, ?_, q1, ⟨fun n b hn hb => q2 n b (by omega) hn hb, fun n w hn hw => q3 n w (by omega) hw, fun n b hn hb => q4 n b (by omega) hn hb, fun n hn => q5 n (by omega) hn⟩, fun h => q6 h (by have := (vA (D 8 0 - 1) (by omega)).2.2; omega)⟩
    unfold gM_goAll_h41
    dsimp only
    rw [m_last1 hM2, Option.bind_some, if_pos (nI_lt (by omega) (by omega))]) (s := s1) ⟨g1, fun n b hn _ hb => by
      obtain rfl : n = 0 := by omega
      rw [Nat.mul_zero, Nat.zero_add]
      exact g2 b hb, fun n w hn _ => absurd hn (Nat.not_lt_zero _), fun n b hn _ _ => absurd hn (Nat.not_lt_zero _), fun n hn _ => absurd hn (Nat.not_lt_zero _), fun _ z => absurd z (Nat.not_lt_zero _)⟩ (i := (0 : Int32)) rfl FU (FU_gt (by omega))
  refine ⟨s2, ?_, g3⟩
  unfold gM_goAll
  rw [f1, Option.bind_some, f2]
  rfl
end MG2
