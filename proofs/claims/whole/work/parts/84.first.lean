/-! READING: the first line -/
abbrev dL (D : RD) (v : Nat) : RD := fun k => if k = 4 then fun _ => v else D k
def VDR (D : RD) : Prop := VD D ∧ D 4 0 ≤ 1 + D 5 0 + D 6 0 + D 7 0 ∧ D 8 0 = 0
def pCd (a k : Nat) : Prop := pC3 a k ∨ (4 ≤ a ∧ a ≤ 15)
def pMd (a k : Nat) : Prop := pM3 a k ∨ a = 300
section FIRST
variable {l p q n k i a b : Nat} {T : Nat → Nat} {s s' t t' : mT} {xs : Nat → Int32} {D : RD}
theorem w_mono {x : Nat} (h : gD_takeWord x s = some s') (h0 : s'.1 3 2 = 0) : s.1 3 2 = 0 := Classical.byContradiction (fun z => by
  unfold gD_takeWord at h
  rw [if_neg z] at h
  cases h
  exact z h0)
theorem n_mono {x y v : Int32} (h : gD_takeNumber x y s = some (v, s')) (h0 : s'.1 3 2 = 0) : s.1 3 2 = 0 := Classical.byContradiction (fun z => by
  unfold gD_takeNumber at h
  rw [if_neg z] at h
  cases h
  exact z h0)
theorem qd_gd (h : QD xs l T s t) (h0 : s.1 3 2 = 0) : GD xs l T s t := h.elim id (fun z => absurd h0 z.2.2.1)
theorem or_gd {P : Prop} (h : (GD xs l T s t ∧ P) ∨ BDq xs l T s t) (h0 : s.1 3 2 = 0) : GD xs l T s t ∧ P := h.elim id (fun z => absurd h0 z.2.2.1)
theorem both_q (h : GD xs l T s t) : ∃ q, ∀ a b, a < 28 → b < 28 → xT a = xT b → gD_isAtWord (XB + 10 + 2 * a) s = some (bz (wmB l T q a)) ∧ gM_is (XB + 10 + 2 * b) t = some (bz (wmB l T q a)) := by
  obtain ⟨q, q1, q2, -, -, -⟩ := c_at h (a := 0) (by omega)
  have h600 := h.1.1.1
  refine ⟨q, fun a b ha hb he => ?_⟩
  obtain ⟨q', q1', q2', -, -, q5'⟩ := c_at h ha
  have e : q' = q := (nI_eq (by omega) (by omega)).mp (q2'.symm.trans q2)
  subst e
  obtain ⟨v, v1, v2⟩ := both_at h ha hb he
  have e2 := Option.some.inj (v1.symm.trans q5')
  exact ⟨q5', by rw [v2, e2]⟩
theorem i_in {v : Int32} {lo hi : Nat} (hh : hi < 2 ^ 31) (h1 : (lo : Int) ≤ v.toInt) (h2 : v.toInt ≤ (hi : Int)) : ∃ n, v = nI n ∧ lo ≤ n ∧ n ≤ hi := by
  have e : v = nI v.toInt.toNat := by
    apply Int32.toInt_inj.mp
    rw [nI_toInt (by omega)]
    omega
  exact ⟨v.toInt.toNat, e, by omega, by omega⟩
theorem first_line (h : GD xs l T s t) (h5 : s.1 4 5 = 0 ∧ s.1 4 6 = 0 ∧ s.1 4 7 = 0 ∧ s.1 4 8 = 0 ∧ s.1 4 4 = 0) (m5 : t.1 300 4 = 0 ∧ t.1 300 5 = 0 ∧ t.1 300 6 = 0 ∧ t.1 300 7 = 0 ∧ t.1 300 8 = 0) : ∃ s' t', gD_readRaceLine s = some s' ∧ gM_readFirst t = some t' ∧ Fp pCd s s' ∧ Fp pMd t t' ∧ QD xs l T s' t' ∧ (s'.1 3 2 = 0 → ∃ D, VDR D ∧ D 4 0 = 1 ∧ RR 4 (dL D 0) s' ∧ MA (t'.1 300) (dL D 0)) ∧ t'.1 300 8 = 0 := by
  obtain ⟨s1, t1, a1, a2, a3, a4, a5⟩ := w_step (a := 0) (b := 14) (Or.inl h) (by omega) (by omega) (by decide)
  obtain ⟨v1, s2', s2, t2, b1, b2, b3, b4, b5, b6, b7⟩ := t_step (a := 1) (b := 15) (v1 := 1) (v2 := 20) a3 (by omega) (by omega) (by decide) (by decide) (by decide) (by decide)
  have c1 : Fp (fun a _ => a = 4) s2 (stI s2 4 0 v1) := Fp.st rfl
  have c2 : Fp (fun a _ => a = 300) t2 (stI t2 300 0 v1) := Fp.st rfl
  obtain ⟨v2, s3', s3, t3, d1, d2, d3, d4, d5, d6, d7⟩ := t_step (a := 2) (b := 16) (v1 := 0) (v2 := 3) (qd_fp (qd_of b4) c1 c2 (fun a k z => by omega) (fun a k z => by omega)) (by omega) (by omega) (by decide) (by decide) (by decide) (by decide)
  have e1 : Fp (fun a _ => a = 4) s3 (stI s3 4 1 v2) := Fp.st rfl
  have e2 : Fp (fun a _ => a = 300) t3 (stI t3 300 1 v2) := Fp.st rfl
  obtain ⟨v3, s4', s4, t4, f1, f2, f3, f4, f5, f6, f7⟩ := t_step (a := 3) (b := 17) (v1 := 1) (v2 := 60) (qd_fp (qd_of d4) e1 e2 (fun a k z => by omega) (fun a k z => by omega)) (by omega) (by omega) (by decide) (by decide) (by decide) (by decide)
  have g1 : Fp (fun a _ => a = 4) s4 (stI s4 4 2 v3) := Fp.st rfl
  have g2 : Fp (fun a _ => a = 300) t4 (stI t4 300 2 v3) := Fp.st rfl
  obtain ⟨v4, s5', s5, t5, j1, j2, j3, j4, j5, j6, j7⟩ := t_step (a := 4) (b := 18) (v1 := 0) (v2 := 10) (qd_fp (qd_of f4) g1 g2 (fun a k z => by omega) (fun a k z => by omega)) (by omega) (by omega) (by decide) (by decide) (by decide) (by decide)
  have k1 : Fp (fun a _ => a = 4) s5 (stI s5 4 3 v4) := Fp.st rfl
  have k2 : Fp (fun a _ => a = 300) t5 (stI t5 300 3 v4) := Fp.st rfl
  have q5 := qd_fp (qd_of j4) k1 k2 (fun a k z => by omega) (fun a k z => by omega)
  have C3 : ∀ {u v : mT}, Fp pC3 u v → Fp pCd u v := fun h => h.wid (fun a k z => Or.inl z)
  have C4 : ∀ {u v : mT}, Fp (fun a _ => a = 4) u v → Fp pCd u v := fun h => h.wid (fun a k z => Or.inr (by omega))
  have M3 : ∀ {u v : mT}, Fp pM3 u v → Fp pMd u v := fun h => h.wid (fun a k z => Or.inl z)
  have M4 : ∀ {u v : mT}, Fp (fun a _ => a = 300) u v → Fp pMd u v := fun h => h.wid (fun a k z => Or.inr z)
  have cs : ∀ {u v : mT} {k : Nat}, Fp pC3 u v → v.1 4 k = u.1 4 k := fun h => h.1 4 _ (fun z => by unfold pC3 at z; omega)
  have ms : ∀ {u v : mT} {k : Nat}, Fp pM3 u v → v.1 300 k = u.1 300 k := fun h => h.1 300 _ (fun z => by unfold pM3 at z; omega)
  have cv : ∀ k, 4 ≤ k → (stI s5 4 3 v4).1 4 k = s.1 4 k := fun k hk => by
    rw [stI_nk (by omega), cs j6, stI_nk (by omega), cs f6, stI_nk (by omega), cs d6, stI_nk (by omega), cs b6, cs a4]
  have mv : ∀ k, 4 ≤ k → (stI t5 300 3 v4).1 300 k = t.1 300 k := fun k hk => by
    rw [stI_nk (by omega), ms j7, stI_nk (by omega), ms f7, stI_nk (by omega), ms d7, stI_nk (by omega), ms b7, ms a5]
  refine ⟨stI s5 4 3 v4, stI t5 300 3 v4, ?_, ?_, (C3 a4).tr ((C3 b6).tr ((C4 c1).tr ((C3 d6).tr ((C4 e1).tr ((C3 f6).tr ((C4 g1).tr ((C3 j6).tr (C4 k1)))))))), (M3 a5).tr ((M3 b7).tr ((M4 c2).tr ((M3 d7).tr ((M4 e2).tr ((M3 f7).tr ((M4 g2).tr ((M3 j7).tr (M4 k2)))))))), q5, fun h0 => ?_, by rw [mv 8 (by omega)]; exact m5.2.2.2.2⟩
  · unfold gD_readRaceLine
    rw [show gD_takeWord (XB + 10) s = some s1 from a1, Option.bind_some, show gD_takeWord (XB + 12) s1 = some s2' from b1, Option.bind_some, b2, Option.bind_some, show gD_takeWord (XB + 14) (stI s2 4 0 v1) = some s3' from d1, Option.bind_some, d2, Option.bind_some, show gD_takeWord (XB + 16) (stI s3 4 1 v2) = some s4' from f1, Option.bind_some, f2, Option.bind_some, show gD_takeWord (XB + 18) (stI s4 4 2 v3) = some s5' from j1, Option.bind_some, j2, Option.bind_some]
  · unfold gM_readFirst
    rw [show gM_needs (XB + 38) t = some t1 from a2, Option.bind_some, show gM_told (XB + 40) (1 : Int32) (20 : Int32) t1 = some (v1, t2) from b3, Option.bind_some, show (0 : Int32) = nI 0 from rfl, wr_n (by omega) (by omega), Option.bind_some, show gM_told (XB + 42) (nI 0) (3 : Int32) (stI t2 300 0 v1) = some (v2, t3) from d3, Option.bind_some, show (1 : Int32) = nI 1 from rfl, wr_n (by omega) (by omega), Option.bind_some, show gM_told (XB + 44) (nI 1) (60 : Int32) (stI t3 300 1 v2) = some (v3, t4) from f3, Option.bind_some, show (2 : Int32) = nI 2 from rfl, wr_n (by omega) (by omega), Option.bind_some, show gM_told (XB + 46) (nI 0) (10 : Int32) (stI t4 300 2 v3) = some (v4, t5) from j3, Option.bind_some, show (3 : Int32) = nI 3 from rfl, wr_n (by omega) (by omega), Option.bind_some]
  · have h5' : s5.1 3 2 = 0 := by rw [stI_ne (by omega)] at h0; exact h0
    obtain ⟨-, r4⟩ := or_gd j4 h5'
    have h4' : s4.1 3 2 = 0 := by
      have := w_mono j1 (n_mono j2 h5')
      rw [stI_ne (by omega)] at this; exact this
    obtain ⟨-, r3⟩ := or_gd f4 h4'
    have h3' : s3.1 3 2 = 0 := by
      have := w_mono f1 (n_mono f2 h4')
      rw [stI_ne (by omega)] at this; exact this
    obtain ⟨-, r2⟩ := or_gd d4 h3'
    have h2' : s2.1 3 2 = 0 := by
      have := w_mono d1 (n_mono d2 h3')
      rw [stI_ne (by omega)] at this; exact this
    obtain ⟨-, r1⟩ := or_gd b4 h2'
    obtain ⟨n1, rfl, n1a, n1b⟩ := i_in (lo := 1) (hi := 20) (by omega) r1.1 r1.2
    obtain ⟨n2, rfl, n2a, n2b⟩ := i_in (lo := 0) (hi := 3) (by omega) r2.1 r2.2
    obtain ⟨n3, rfl, n3a, n3b⟩ := i_in (lo := 1) (hi := 60) (by omega) r3.1 r3.2
    obtain ⟨n4, rfl, n4a, n4b⟩ := i_in (lo := 0) (hi := 10) (by omega) r4.1 r4.2
    refine ⟨fun k => if k = 0 then fun _ => n1 else if k = 1 then fun _ => n2 else if k = 2 then fun _ => n3 else if k = 3 then fun _ => n4 else if k = 4 then fun _ => 1 else fun _ => 0, ⟨⟨⟨n1b, n2b, n3b, n4b, by show 1 ≤ 200; omega, Nat.zero_le _, Nat.zero_le _, Nat.zero_le _, Nat.zero_le _⟩, fun b hb => absurd hb (Nat.not_lt_zero _), fun b hb => absurd hb (Nat.not_lt_zero _), fun b hb => absurd hb (Nat.not_lt_zero _), fun b hb => absurd hb (Nat.not_lt_zero _), fun z => by cases z⟩, Nat.le_refl _, rfl⟩, rfl, ⟨⟨?_, ?_, ?_, ?_, ?_, ?_, ?_, ?_, ?_⟩, fun b hb => absurd hb (Nat.not_lt_zero _), fun b hb => absurd hb (Nat.not_lt_zero _), fun b hb => absurd hb (Nat.not_lt_zero _), fun b hb => absurd hb (Nat.not_lt_zero _)⟩, ⟨⟨?_, ?_, ?_, ?_, ?_, ?_, ?_, ?_, ?_⟩, fun b hb => absurd hb (Nat.not_lt_zero _), fun b hb => absurd hb (Nat.not_lt_zero _), fun b hb => absurd hb (Nat.not_lt_zero _), fun b hb => absurd hb (Nat.not_lt_zero _)⟩⟩
    · rw [stI_nk (by omega), cs j6, stI_nk (by omega), cs f6, stI_nk (by omega), cs d6, stI_eq]
      rfl
    · rw [stI_nk (by omega), cs j6, stI_nk (by omega), cs f6, stI_eq]
      rfl
    · rw [stI_nk (by omega), cs j6, stI_eq]
      rfl
    · rw [stI_eq]
      rfl
    · rw [cv 4 (by omega), h5.2.2.2.2]; rfl
    · rw [cv 5 (by omega), h5.1]; rfl
    · rw [cv 6 (by omega), h5.2.1]; rfl
    · rw [cv 7 (by omega), h5.2.2.1]; rfl
    · rw [cv 8 (by omega), h5.2.2.2.1]; rfl
    · rw [stI_nk (by omega), ms j7, stI_nk (by omega), ms f7, stI_nk (by omega), ms d7, stI_eq]
      rfl
    · rw [stI_nk (by omega), ms j7, stI_nk (by omega), ms f7, stI_eq]
      rfl
    · rw [stI_nk (by omega), ms j7, stI_eq]
      rfl
    · rw [stI_eq]
      rfl
    · rw [mv 4 (by omega), m5.1]; rfl
    · rw [mv 5 (by omega), m5.2.1]; rfl
    · rw [mv 6 (by omega), m5.2.2.1]; rfl
    · rw [mv 7 (by omega), m5.2.2.2.1]; rfl
    · rw [mv 8 (by omega), m5.2.2.2.2]; rfl
end FIRST
