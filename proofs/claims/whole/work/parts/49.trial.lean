/-! WHAT IF: the class's trial, the model told otherwise -/
def AS {R : Type} (A B : mT → Option (R × mT)) : Prop := ∀ xs D s, IV xs D s → ∃ r s1 s2 D', A s = some (r, s1) ∧ (∀ a, XB ≤ a → s1.1 a = s.1 a) ∧ B s1 = some (r, s2) ∧ IV xs D' s2
theorem AS_of {R : Type} {A B : mT → Option (R × mT)} (h : ∀ xs D s, IV xs D s → ∃ r s1, A s = some (r, s1) ∧ KP s s1 ∧ ∀ t, IV xs D t → ∃ t', B t = some (r, t') ∧ IV xs D t') : AS A B := fun xs D s hi => by
  obtain ⟨r, s1, h1, h2, h3⟩ := h xs D s hi
  obtain ⟨t', h4, h5⟩ := h3 s1 (hi.kp h2)
  refine ⟨r, s1, t', D, h1, fun a ha => ?_, h4, h5⟩
  have eXB : XB = 1000000 := rfl
  exact h2.c (fun k => by unfold pK; omega)
def upN (f : Nat → Nat) (b v : Nat) : Nat → Nat := fun i => if i = b then v else f i
theorem upN_eq (f : Nat → Nat) (b v : Nat) : upN f b v b = v := if_pos rfl
theorem upN_ne {f : Nat → Nat} {b v i : Nat} (h : i ≠ b) : upN f b v i = f i := if_neg h
theorem upN_up (f : Nat → Nat) (b v u : Nat) : upN (upN f b u) b v = upN f b v := by
  funext i
  unfold upN
  by_cases h : i = b
  · rw [if_pos h, if_pos h]
  · rw [if_neg h, if_neg h, if_neg h]
def drS (D : RD) (sl : Nat → Nat → Bool) (n v : Nat) : Nat → Nat → Bool := fun i w => sl i w || (decide (i = n) && decide (D 11 w ≤ v))
def huS (sl : Nat → Nat → Bool) (as : Nat → Bool) : Nat → Nat → Bool := fun i w => sl i w || as w
section TRI
variable {n w b k c lw m v : Nat} {s s' : mT} {D : RD} {xs : Nat → Int32} {T : SU} {st nd fo lu : Nat → Nat} {sl : Nat → Nat → Bool}
theorem PR.K (h : PR c D T s) (hV : VD D) : ∀ n w, n ≤ D 0 0 → w < D 6 0 → rK D T n w < D 5 0 := fun n w hn hw => rK_lt hV (fun w hw => (h.2.2.1 w hw).2) (fun n w hn hw => (h.2.2.2.1 n w hn hw).2) n hn w hw
/-- the trial sails to its winner -/
theorem IV.sail (h : IV xs D s) (hP : PR 121 D T s) (hl : T.1 ≤ 3) {M : Nat} (hM : M ≤ D 0 0) : ∃ s', gC_sail 121 (nI M) s = some s' ∧ KP s s' ∧ IV xs D s' ∧ PR 121 D T s' ∧ CV 121 s' M (D 0 0) (D 5 0) (D 6 0) (D 2 0) (rP D T) (rK D T) (rE D T) T.2.2.1 := by
  obtain ⟨s', f1, f2, f3⟩ := sail_is (c := 121) (Or.inr rfl) h.V h.R hP hl hM
  have hk : KP s s' := KP.ofr f2 (fun a k h1 h2 => by unfold pK; omega)
  have i := h.kp hk
  have p : PR 121 D T s' := hP.fr h.V f2 (by omega)
  exact ⟨s', f1, hk, i, p, CV.mk' h.V i.R p f3 hM (p.K h.V)⟩
theorem IV.win (h : IV xs D s) (hP : PR 121 D T s) (hl : T.1 ≤ 3) : ∃ s', gC_sailToWinner 121 s = some (oz (winO (D 0 0) (D 5 0) (D 2 0) (rP D T)), s') ∧ KP s s' ∧ IV xs D s' ∧ PR 121 D T s' ∧ CV 121 s' (D 0 0) (D 0 0) (D 5 0) (D 6 0) (D 2 0) (rP D T) (rK D T) (rE D T) T.2.2.1 := by
  obtain ⟨s', f1, f2, f3, f4, f5⟩ := h.sail hP hl (Nat.le_refl _)
  refine ⟨s', ?_, f2, f3, f4, f5⟩
  unfold gC_sailToWinner
  rw [h.N, f1, Option.bind_some, kC_winner f5, Option.bind_some]
theorem IV.prepW {v : Int32} {ex : Nat → Bool} (h : IV xs D s) (hex : ∀ k, k < D 7 0 → (nI k = v ↔ ex k = true)) : ∃ s', gC_prepareWithout 121 v s = some s' ∧ KP s s' ∧ IV xs D s' ∧ PR 121 D (tX D (D 1 0) (D 9) (D 10) (D 14) (fun n w => shK D ex (D 7 0) n w)) s' := by
  obtain ⟨s', f1, f2, f3⟩ := prepW_is (c := 121) (Or.inr rfl) h.V h.R hex
  have hk : KP s s' := KP.ofr f2 (fun a k h1 h2 => by unfold pK; omega)
  exact ⟨s', f1, hk, h.kp hk, f3⟩
theorem IV.prep (h : IV xs D s) : ∃ s', gC_prepare 121 s = some s' ∧ KP s s' ∧ IV xs D s' ∧ PR 121 D (tX D (D 1 0) (D 9) (D 10) (D 14) (sh0 D)) s' := by
  obtain ⟨s', f1, f2⟩ := h.prepW (v := (-1 : Int32)) (ex := fun _ => false) (fun k hk => ⟨fun z => absurd z (m1_n (by have := h.bd; omega)), fun z => by cases z⟩)
  refine ⟨s', ?_, f2⟩
  unfold gC_prepare
  rw [f1]
  rfl
theorem PR.wnd (h : PR c D (tX D lw st nd fo sl) s) (h1 : 1 ≤ v) (h9 : v ≤ 9) (hV : VD D) : PR c D (tX D lw st (upN nd b v) fo sl) (stI s (c + 2) b (nI v)) := by
  obtain ⟨q1, q2, q3, q4, q5⟩ := h
  have := hV.1.1
  refine ⟨by rw [stI_ne (by omega)]; exact q1, fun i hi => ⟨by rw [stI_ne (by omega)]; exact (q2 i hi).1, ?_⟩, fun w hw => by rw [stI_ne (by omega)]; exact q3 w hw, fun n w hn hw => by rw [stI_ne (by omega)]; exact q4 n w hn hw, fun n hn => by rw [stI_ne (by omega)]; exact q5 n hn⟩
  show (stI s (c + 2) b (nI v)).1 (c + 2) i = nI (upN nd b v i) ∧ 1 ≤ upN nd b v i ∧ upN nd b v i ≤ 9
  by_cases e : i = b
  · subst e; rw [stI_eq, upN_eq]; exact ⟨rfl, h1, h9⟩
  · rw [stI_nk e, upN_ne e]; exact (q2 i hi).2
theorem PR.wst (h : PR c D (tX D lw st nd fo sl) s) (h9 : v ≤ 30) (hV : VD D) : PR c D (tX D lw (upN st b v) nd fo sl) (stI s (c + 1) b (nI v)) := by
  obtain ⟨q1, q2, q3, q4, q5⟩ := h
  have := hV.1.1
  refine ⟨by rw [stI_ne (by omega)]; exact q1, fun i hi => ⟨?_, by rw [stI_ne (by omega)]; exact (q2 i hi).2⟩, fun w hw => by rw [stI_ne (by omega)]; exact q3 w hw, fun n w hn hw => by rw [stI_ne (by omega)]; exact q4 n w hn hw, fun n hn => by rw [stI_ne (by omega)]; exact q5 n hn⟩
  show (stI s (c + 1) b (nI v)).1 (c + 1) i = nI (upN st b v i) ∧ upN st b v i ≤ 30
  by_cases e : i = b
  · subst e; rw [stI_eq, upN_eq]; exact ⟨rfl, h9⟩
  · rw [stI_nk e, upN_ne e]; exact (q2 i hi).1
theorem PR.wlw {l2 : Nat} (h : PR c D (tX D lw st nd fo sl) s) (hV : VD D) : PR c D (tX D l2 st nd fo sl) (stI s c 1 (nI l2)) := by
  obtain ⟨q1, q2, q3, q4, q5⟩ := h
  have := hV.1.1
  exact ⟨stI_eq, fun i hi => by rw [stI_ne (by omega), stI_ne (by omega)]; exact q2 i hi, fun w hw => by rw [stI_ne (by omega)]; exact q3 w hw, fun n w hn hw => by rw [stI_ne (by omega)]; exact q4 n w hn hw, fun n hn => by rw [stI_ne (by omega)]; exact q5 n hn⟩
theorem PR.wfo (h : PR c D (tX D lw st nd fo sl) s) (hb : v < D 5 0) (hV : VD D) : PR c D (tX D lw st nd (upN fo b v) sl) (stI s (c + 3) b (nI v)) := by
  obtain ⟨q1, q2, q3, q4, q5⟩ := h
  have := hV.1.1
  refine ⟨by rw [stI_ne (by omega)]; exact q1, fun i hi => by rw [stI_ne (by omega), stI_ne (by omega)]; exact q2 i hi, fun w hw => ?_, fun n w hn hw => by rw [stI_ne (by omega)]; exact q4 n w hn hw, fun n hn => by rw [stI_ne (by omega)]; exact q5 n hn⟩
  show (stI s (c + 3) b (nI v)).1 (c + 3) w = nI (upN fo b v w) ∧ upN fo b v w < D 5 0
  by_cases e : w = b
  · subst e; rw [stI_eq, upN_eq]; exact ⟨rfl, hb⟩
  · rw [stI_nk e, upN_ne e]; exact q3 w hw
theorem IV.draw (h : IV xs D s) (hP : PR 121 D (tX D lw st nd fo sl) s) (hn : n ≤ 20) (hv : v ≤ 9) : ∃ s', gC_draw 121 (nI n) (nI v) s = some s' ∧ KP s s' ∧ IV xs D s' ∧ PR 121 D (tX D lw st nd fo (drS D sl n v)) s' := by
  obtain ⟨q1, q2, q3, q4, q5⟩ := hP
  obtain ⟨s', f1, f2, f3, f4⟩ := draw_is (c := 121) (lu := v) (Or.inr rfl) h.V h.R hn hv (q5 n hn)
  have hk : KP s s' := KP.ofr f2 (fun a k h1 h2 => by unfold pK; omega)
  have hN := h.bd.1
  refine ⟨s', f1, hk, h.kp hk, ⟨by rw [f2.1 121 (by omega)]; exact q1, fun i hi => by rw [f2.1 (121 + 1) (by omega), f2.1 (121 + 2) (by omega)]; exact q2 i hi, fun w hw => by rw [f2.1 (121 + 3) (by omega)]; exact q3 w hw, fun i w hi hw => by rw [f2.1 (121 + 5 + i) (by omega)]; exact q4 i w hi hw, fun i hi => ?_⟩⟩
  by_cases e : i = n
  · subst e
    rw [f3]
    refine congrArg nI (bmN_congr (fun w hw => ?_))
    show (!sl i w && !snK D (D 8 0) i w && !decide (D 11 w ≤ v)) = (!(sl i w || (decide (i = i) && decide (D 11 w ≤ v))) && !snK D (D 8 0) i w)
    rw [decide_eq_true (rfl : i = i)]
    cases sl i w <;> cases snK D (D 8 0) i w <;> cases decide (D 11 w ≤ v) <;> rfl
  · rw [f4 i e, q5 i hi]
    refine congrArg nI (bmN_congr (fun w hw => ?_))
    show (!sl i w && !snK D (D 8 0) i w) = (!(sl i w || (decide (i = n) && decide (D 11 w ≤ v))) && !snK D (D 8 0) i w)
    rw [decide_eq_false e, Bool.false_and, Bool.or_false]
theorem IV.hush {x : Int32} {as : Nat → Bool} (h : IV xs D s) (hP : PR 121 D (tX D lw st nd fo sl) s) (hx : ∀ p : Nat → Bool, nI (bmN p (D 6 0)) &&& (x ^^^ (-1 : Int32)) = nI (bmN (fun w => p w && !as w) (D 6 0))) : ∃ s', gC_hush 121 x s = some s' ∧ KP s s' ∧ IV xs D s' ∧ PR 121 D (tX D lw st nd fo (huS sl as)) s' := by
  obtain ⟨q1, q2, q3, q4, q5⟩ := hP
  have hN := h.bd.1
  obtain ⟨s', f1, f2, f3⟩ := wh_cnt (f := gC_hush_h2 121 x) (fun j s1 => Fr 147 148 s s1 ∧ (∀ i, i < j → s1.1 147 i = nI (bmN (fun w => (!sl i w && !snK D (D 8 0) i w) && !as w) (D 6 0))) ∧ ∀ i, j ≤ i → s1.1 147 i = s.1 147 i) (fun s1 => Fr 147 148 s s1 ∧ ∀ i, i ≤ 20 → s1.1 147 i = nI (bmN (fun w => (!sl i w && !snK D (D 8 0) i w) && !as w) (D 6 0))) 0 21 (by omega) (fun j _ hj s1 hI => by
    obtain ⟨z1, z2, z3⟩ := hI
    refine ⟨stI s1 147 j (nI (bmN (fun w => (!sl j w && !snK D (D 8 0) j w) && !as w) (D 6 0))), ?_, z1.tr (Fr.st (by omega) (by omega)), fun i hi => ?_, fun i hi => ?_⟩
    · unfold gC_hush_h2
      dsimp only
      rw [show (20 : Int32) = nI 20 from rfl, if_neg (nlt (by omega) (by omega) (by omega)), rd_n (by omega) (by omega), Option.bind_some, show s1.1 (121 + 26) j = s1.1 147 j from rfl, z3 j (Nat.le_refl _), show s.1 147 j = nI (bmN (fun w => !sl j w && !snK D (D 8 0) j w) (D 6 0)) from q5 j (by omega), hx, wr_n (by omega) (by omega), Option.bind_some, nI_1]
    · rw [stI_at]
      by_cases e : i = j
      · subst e; rw [if_pos ⟨rfl, rfl⟩]
      · rw [if_neg (by omega)]; exact z2 i (by omega)
    · rw [stI_nk (by omega)]; exact z3 i (by omega)) (fun s1 hI => ⟨s1, rfl, hI.1, fun i hi => hI.2.1 i (by omega)⟩) (s := s) ⟨Fr.rfl', fun i hi => absurd hi (Nat.not_lt_zero _), fun i _ => rfl⟩ (i := (0 : Int32)) rfl FU (FU_gt (by omega))
  have hk : KP s s' := KP.ofr f2 (fun a k h1 h2 => by unfold pK; omega)
  refine ⟨s', by unfold gC_hush; rw [f1]; rfl, hk, h.kp hk, ⟨by rw [f2.1 121 (by omega)]; exact q1, fun i hi => by rw [f2.1 (121 + 1) (by omega), f2.1 (121 + 2) (by omega)]; exact q2 i hi, fun w hw => by rw [f2.1 (121 + 3) (by omega)]; exact q3 w hw, fun i w hi hw => by rw [f2.1 (121 + 5 + i) (by omega)]; exact q4 i w hi hw, fun i hi => ?_⟩⟩
  rw [show s'.1 (121 + 26) i = s'.1 147 i from rfl, f3 i hi]
  refine congrArg nI (bmN_congr (fun w hw => ?_))
  show (!sl i w && !snK D (D 8 0) i w && !as w) = (!(sl i w || as w) && !snK D (D 8 0) i w)
  cases sl i w <;> cases snK D (D 8 0) i w <;> cases as w <;> rfl
/-! the model's side -/
theorem IV.go (h : IV xs D s) (hP : MPB D lw st nd fo lu m s) (hs : ∀ n w, n < D 0 0 → w < D 6 0 → sl n w = s0N D lu m n w) : ∃ s', gM_goAll s = some s' ∧ KP s s' ∧ IV xs D s' ∧ MPB D lw st nd fo lu m s' ∧ MQq D (tX D lw st nd fo sl) s' := by
  obtain ⟨s', f1, f2, f3, f4, f5, f6⟩ := goX h.V h.M hP hs
  have hk : KP s s' := KP.of f2 (fun a k z => pAG_K a k (Or.inr z))
  exact ⟨s', f1, hk, h.kp hk, f4, MQq.mk' h.V f3 f4 f5⟩
theorem IV.wr {a k : Nat} {x : Int32} (h : IV xs D s) (hp : pK a k) : IV xs D (stI s a k x) := h.kp (KP.st hp)
theorem MPB.wnd (h : MPB D lw st nd fo lu m s) (h1 : 1 ≤ v) (h9 : v ≤ 9) : MPB D lw st (upN nd b v) fo lu m (stI s 302 b (nI v)) := by
  obtain ⟨q1, q2, q3, q4, q5⟩ := h
  refine ⟨by rw [stI_ne (by omega)]; exact q1, fun i hi => ⟨by rw [stI_ne (by omega)]; exact (q2 i hi).1, ?_⟩, fun w hw => by rw [stI_ne (by omega)]; exact q3 w hw, fun n hn => by rw [stI_ne (by omega)]; exact q4 n hn, by rw [stI_ne (by omega)]; exact q5⟩
  by_cases e : i = b
  · subst e; rw [stI_eq, upN_eq]; exact ⟨rfl, h1, h9⟩
  · rw [stI_nk e, upN_ne e]; exact (q2 i hi).2
theorem MPB.wst (h : MPB D lw st nd fo lu m s) (h9 : v ≤ 30) : MPB D lw (upN st b v) nd fo lu m (stI s 301 b (nI v)) := by
  obtain ⟨q1, q2, q3, q4, q5⟩ := h
  refine ⟨by rw [stI_ne (by omega)]; exact q1, fun i hi => ⟨?_, by rw [stI_ne (by omega)]; exact (q2 i hi).2⟩, fun w hw => by rw [stI_ne (by omega)]; exact q3 w hw, fun n hn => by rw [stI_ne (by omega)]; exact q4 n hn, by rw [stI_ne (by omega)]; exact q5⟩
  by_cases e : i = b
  · subst e; rw [stI_eq, upN_eq]; exact ⟨rfl, h9⟩
  · rw [stI_nk e, upN_ne e]; exact (q2 i hi).1
theorem MPB.wlw {l2 : Nat} (h : MPB D lw st nd fo lu m s) (h3 : l2 ≤ 3) : MPB D l2 st nd fo lu m (stI s 294 19 (nI l2)) := by
  obtain ⟨q1, q2, q3, q4, q5⟩ := h
  exact ⟨⟨stI_eq, h3⟩, fun i hi => by rw [stI_ne (by omega), stI_ne (by omega)]; exact q2 i hi, fun w hw => by rw [stI_ne (by omega)]; exact q3 w hw, fun n hn => by rw [stI_ne (by omega)]; exact q4 n hn, by rw [stI_nk (by omega)]; exact q5⟩
theorem MPB.wfo (h : MPB D lw st nd fo lu m s) (hb : v < D 5 0) : MPB D lw st nd (upN fo b v) lu m (stI s 303 b (nI v)) := by
  obtain ⟨q1, q2, q3, q4, q5⟩ := h
  refine ⟨by rw [stI_ne (by omega)]; exact q1, fun i hi => by rw [stI_ne (by omega), stI_ne (by omega)]; exact q2 i hi, fun w hw => ?_, fun n hn => by rw [stI_ne (by omega)]; exact q4 n hn, by rw [stI_ne (by omega)]; exact q5⟩
  by_cases e : w = b
  · subst e; rw [stI_eq, upN_eq]; exact ⟨rfl, hb⟩
  · rw [stI_nk e, upN_ne e]; exact q3 w hw
theorem MPB.wlu (h : MPB D lw st nd fo lu m s) (hv : v ≤ 9) : MPB D lw st nd fo (upN lu n v) m (stI s 304 n (nI v)) := by
  obtain ⟨q1, q2, q3, q4, q5⟩ := h
  refine ⟨by rw [stI_ne (by omega)]; exact q1, fun i hi => by rw [stI_ne (by omega), stI_ne (by omega)]; exact q2 i hi, fun w hw => by rw [stI_ne (by omega)]; exact q3 w hw, fun i hi => ?_, by rw [stI_ne (by omega)]; exact q5⟩
  by_cases e : i = n
  · subst e; rw [stI_eq, upN_eq]; exact ⟨rfl, hv⟩
  · rw [stI_nk e, upN_ne e]; exact q4 i hi
theorem MPB.wasl {m2 : Nat} (h : MPB D lw st nd fo lu m s) (hm : m2 < 2 ^ 31) : MPB D lw st nd fo lu m2 (stI s 294 20 (nI m2)) := by
  obtain ⟨q1, q2, q3, q4, q5⟩ := h
  exact ⟨by rw [stI_nk (by omega)]; exact q1, fun i hi => by rw [stI_ne (by omega), stI_ne (by omega)]; exact q2 i hi, fun w hw => by rw [stI_ne (by omega)]; exact q3 w hw, fun n hn => by rw [stI_ne (by omega)]; exact q4 n hn, stI_eq, hm⟩
theorem s0_0 {ex : Nat → Bool} (hV : VD D) : ∀ n w, n < D 0 0 → w < D 6 0 → shK D ex (D 7 0) n w = s0N D (luN D ex (D 7 0)) 0 n w := fun n w _ hw => shs0 hV hw
theorem s0_dr (hs : ∀ n w, n < D 0 0 → w < D 6 0 → sl n w = s0N D lu m n w) : ∀ i w, i < D 0 0 → w < D 6 0 → drS D sl n v i w = s0N D (upN lu n (max (lu n) v)) m i w := fun i w hi hw => by
  unfold drS
  rw [hs i w hi hw]
  unfold s0N
  by_cases e : i = n
  · subst e
    rw [upN_eq, decide_eq_true rfl, Bool.true_and, Bool.or_assoc]
    congr 1
    by_cases h1 : D 11 w ≤ lu i <;> by_cases h2 : D 11 w ≤ v <;> simp [h1, h2] <;> omega
  · rw [upN_ne e, decide_eq_false e, Bool.false_and, Bool.or_false]
theorem s0_hu {as : Nat → Bool} {m2 : Nat} (hs : ∀ n w, n < D 0 0 → w < D 6 0 → sl n w = s0N D lu 0 n w) (ha : ∀ w, w < D 6 0 → as w = decide (m2 / 2 ^ w % 2 = 1)) : ∀ i w, i < D 0 0 → w < D 6 0 → huS sl as i w = s0N D lu m2 i w := fun i w hi hw => by
  unfold huS
  rw [hs i w hi hw, ha w hw]
  unfold s0N
  rw [Nat.zero_div, Bool.or_comm]
  congr 1
end TRI
