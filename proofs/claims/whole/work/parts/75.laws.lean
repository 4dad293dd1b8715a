/-! SEEN: laws -/
section LAWS
variable {n w o b a k m l wd i j W c lw M : Nat} {s s' s'' t : mT} {D D' : RD} {xs : Nat → Int32} {R : Nat → Int64} {T : SU}
abbrev TLw (D : RD) (k : Nat) : SU := tX D k (D 9) (D 10) (D 14) (sh0 D)
theorem bit_or {p : Nat → Bool} (hk : k < 31) (v : Bool) (hv : p k = v) : (if bz v = 0 then some (nI (bmN p k)) else some (nI (bmN p k) ||| ((1 : Int32) <<< (nI k &&& 31)))) = some (nI (bmN p (k + 1))) := by
  cases v with
  | false => rw [bz_f, if_pos rfl, bm_s, hv, if_neg (by decide), Nat.add_zero]
  | true => rw [bz_t, if_neg (by decide), or_new hk, bm_s, hv, if_pos rfl]
theorem bit_or2 {p : Nat → Bool} (hk : k < 31) (v : Bool) (hv : p k = v) : ∃ x, (if bz v = 0 then some (0 : Int32) else some ((1 : Int32) <<< (nI k &&& 31))) = some x ∧ nI (bmN p k) ||| x = nI (bmN p (k + 1)) := by
  cases v with
  | false => exact ⟨0, rfl, by rw [show (0 : Int32) = nI 0 from rfl, nI_or, Nat.or_zero, bm_s, hv, if_neg (by decide), Nat.add_zero]⟩
  | true => exact ⟨_, by rw [bz_t, if_neg (by decide)], by rw [or_new hk, bm_s, hv, if_pos rfl]⟩
theorem a_laws (v1 : Int32) : AS (gL_laws v1) (gM_laws v1) := fun xs D s h => by
  have eXB : XB = 1000000 := rfl
  have hV := h.V
  have hd := hV.1
  rcases seen_is h v1 with ⟨r, r1, r2, r3, r4⟩ | ⟨l, n, hl, rfl, h4, hs, ht, hw⟩
  · refine AS_err (r := r) h ?_ ?_
    · unfold gL_laws
      rw [r3, Option.bind_some, if_neg r1]
    · unfold gM_laws
      rw [r4, Option.bind_some]
      dsimp only
      rw [if_neg r2]
  · obtain ⟨R, hR⟩ : ∃ R, R = s.2 (287 + 2 * l) := ⟨_, rfl⟩
    rw [← hR] at ht
    obtain ⟨q1, q2, q3, q4, q5⟩ := hs
    obtain ⟨t1, f1, f2, f3, f4⟩ := h.prep
    obtain ⟨⟨ra, rs⟩, g1, g2, g3, g4⟩ := wh_inv (f := gL_laws_h24 (nI l)) (fun k q => k ≤ 4 ∧ q.1 = nI (bmN (fun k => ftB D n R (TLw D k)) k) ∧ q.2.1 = nI k ∧ IV xs D q.2.2 ∧ KP s q.2.2 ∧ ∃ x, PR 121 D (TLw D x) q.2.2) (fun r => r.1 = nI (bmN (fun k => ftB D n R (TLw D k)) 4) ∧ IV xs D r.2 ∧ KP s r.2) 4 (fun k hk q hI => by
      obtain ⟨c1, c2, u⟩ := q
      obtain ⟨j0, j1, j2, j3, j4, x, j5⟩ := hI
      dsimp only at j1 j2 j3 j4 j5
      subst j1 j2
      obtain ⟨u0, hu0⟩ : ∃ u0, u0 = stI u 121 1 (nI k) := ⟨_, rfl⟩
      have p0 : PR 121 D (TLw D k) u0 := by rw [hu0]; exact j5.wlw hV
      have k0 : KP u u0 := by rw [hu0]; exact KP.st (by unfold pK; omega)
      have i0 := j3.kp k0
      obtain ⟨u1, y1, y2, y3⟩ := sail_is (c := 121) (M := D 0 0) (Or.inr rfl) hV i0.R p0 (by show k ≤ 3; omega) (Nat.le_refl _)
      have k1 : KP u0 u1 := KP.ofr y2 (fun a k h1 h2 => by unfold pK; omega)
      have i1 := i0.kp k1
      have p1 : PR 121 D (TLw D k) u1 := p0.cg hV (fun a _ _ => y2.1 a (by omega))
      have ks := j4.tr (k0.tr k1)
      have ag := c_agrees (s := u1) (l := l) (R := R) hV y3 (by omega) ht (stp_le ht) (by rw [ks.c (a := 286 + 2 * l) (fun k => by unfold pK; omega)]; exact q2) q4 (by rw [ks.2 _ (by omega) (by omega)]; exact hR.symm)
      refine ⟨(nI (bmN (fun k => ftB D n R (TLw D k)) (k + 1)), nI (k + 1), u1), ?_, by omega, rfl, rfl, i1, ks, k, p1⟩
      unfold gL_laws_h24
      dsimp only
      rw [show (4 : Int32) = nI 4 from rfl, if_neg (nle (by omega) (by omega) (by omega)), ← hu0, i0.N, y1, Option.bind_some, ix_ite (by omega) (by omega), nI_clamp (by omega), ag, Option.bind_some, bit_or (p := fun k => ftB D n R (TLw D k)) (by omega) _ rfl, Option.bind_some, nI_1]) (fun q hI => by
      obtain ⟨c1, c2, u⟩ := q
      obtain ⟨j0, j1, j2, j3, j4, j5⟩ := hI
      dsimp only at j1 j2 j3 j4 j5
      subst j1 j2
      refine ⟨(nI (bmN (fun k => ftB D n R (TLw D k)) 4), u), ?_, rfl, j3, j4⟩
      unfold gL_laws_h24
      dsimp only
      rw [if_pos (by decide)]) (q := ((0 : Int32), (0 : Int32), t1)) ⟨by omega, rfl, rfl, f3, f2, _, f4⟩ FU (FU_gt (by omega))
    dsimp only at g2 g3 g4
    subst g2
    have hs1 : SLD l n rs := by
      unfold SLD
      rw [g4.c (a := 286 + 2 * l) (fun k => by unfold pK; omega), g4.c (a := 313) (fun k => by unfold pK; omega), g4.2 _ (by omega) (by omega), g4.2 315 (by omega) (by omega)]
      exact ⟨q1, q2, q3, q4, q5⟩
    obtain ⟨t2, y1, y2, y3, y4⟩ := (m_tells g3 h4 hl hs1).1 (by rw [g4.2 _ (by omega) (by omega), ← hR]; exact ht)
    obtain ⟨t3, ht3⟩ : ∃ t3, t3 = stI t2 294 19 (nI 0) := ⟨_, rfl⟩
    have k3 : KP t2 t3 := by rw [ht3]; exact KP.st (by unfold pK; omega)
    obtain ⟨⟨rb, ru⟩, w1, w2, w3⟩ := wh_inv (f := gM_laws_h19 (nI l)) (fun k q => k ≤ 4 ∧ q.1 = nI (bmN (fun k => ftB D n R (TLw D k)) k) ∧ q.2.1 294 19 = nI k ∧ IV xs D q.2 ∧ KP s q.2 ∧ (k < 4 → MPB D k (D 9) (D 10) (D 14) (l0 D) 0 q.2)) (fun r => r.1 = nI (bmN (fun k => ftB D n R (TLw D k)) 4) ∧ IV xs D r.2) 4 (fun k hk q hI => by
      obtain ⟨c1, u⟩ := q
      obtain ⟨j0, j1, j2, j3, j4, j5⟩ := hI
      dsimp only at j1 j2 j3 j4 j5
      subst j1
      have pk := j5 hk
      have hs0 := s0_0 (ex := fun _ => false) hV
      obtain ⟨u1, x1, x2, x3, x4, x5⟩ := j3.go pk hs0
      have ku := j4.tr x2
      have sn := m_seen (s := u1) (l := l) (R := R) x5 ht (fun i hi => by rw [ku.2 315 (by omega) (by omega), hR]; exact (q5 i hi).symm) (by rw [ku.1 313 l (by unfold pK; omega)]; exact q3) q4 hl
      obtain ⟨x, b1, b2⟩ := bit_or2 (p := fun k => ftB D n R (TLw D k)) (k := k) (by omega) _ rfl
      refine ⟨(nI (bmN (fun k => ftB D n R (TLw D k)) (k + 1)), stI u1 294 19 (nI (k + 1))), ?_, by omega, rfl, stI_eq, x3.wr (by unfold pK; omega), ku.tr (KP.st (by unfold pK; omega)), fun hk2 => x4.wlw (by omega)⟩
      unfold gM_laws_h19 gM_isSeen
      dsimp only
      rw [j2, show (4 : Int32) = nI 4 from rfl, if_neg (nle (by omega) (by omega) (by omega)), x1, Option.bind_some, sn, Option.bind_some]
      dsimp only
      rw [x4.1.1, b1, Option.bind_some, b2, nI_1]) (fun q hI => by
      obtain ⟨c1, u⟩ := q
      obtain ⟨j0, j1, j2, j3, j4, j5⟩ := hI
      dsimp only at j1 j2 j3 j4 j5
      subst j1
      refine ⟨(nI (bmN (fun k => ftB D n R (TLw D k)) 4), u), ?_, rfl, j3⟩
      unfold gM_laws_h19
      dsimp only
      rw [j2, if_pos (by decide)]) (q := ((0 : Int32), t3)) ⟨by omega, rfl, by rw [ht3]; exact stI_eq, y3.kp k3, g4.tr (y2.tr k3), fun _ => by rw [ht3]; exact y4.wlw (by omega)⟩ FU (FU_gt (by omega))
    dsimp only at w2 w3
    subst w2
    refine ⟨nI (bmN (fun k => ftB D n R (TLw D k)) 4), rs, ru, D, ?_, fun a ha => g4.c (fun k => by unfold pK; omega), ?_, w3⟩
    · unfold gL_laws
      rw [hw, Option.bind_some, if_pos rfl, f1, Option.bind_some, g1, Option.bind_some]
    · unfold gM_laws
      rw [y1, Option.bind_some]
      dsimp only
      rw [if_pos (by decide), show (0 : Int32) = nI 0 from rfl, ← ht3, show nI 0 = (0 : Int32) from rfl, w1, Option.bind_some]
end LAWS
