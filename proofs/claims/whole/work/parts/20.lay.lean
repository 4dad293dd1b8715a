/-! THE SMALL MACHINE over the program's own layout: the cells that the constructors make (wip/whole/gen_lay.py writes this): ints and longs alone change -/
abbrev mT : Type := (Nat → Nat → Int32) × (Nat → Nat → Int64)
def kT : List (Nat × Nat) := [(9, 12), (8, 2), (20, 600), (3, 8), (2, 20), (20, 5), (20, 5), (20, 5), (20, 5), (20, 5), (20, 5), (20, 5), (20, 5), (20, 30), (20, 30), (20, 30), (2, 20), (20, 5), (20, 5), (20, 5), (20, 5), (20, 5), (20, 5), (20, 5), (20, 5), (20, 30), (20, 30), (20, 30), (0, 10), (20, 5), (20, 5), (20, 5), (26, 21), (20, 5), (20, 5), (20, 5), (20, 5), (20, 5), (20, 5), (20, 5), (20, 5), (20, 5), (20, 5), (20, 5), (20, 5), (20, 5), (20, 5), (20, 5), (20, 5), (20, 5), (20, 5), (20, 5), (20, 5), (20, 5), (20, 21), (26, 21), (20, 5), (20, 5), (20, 5), (20, 5), (20, 5), (20, 5), (20, 5), (20, 5), (20, 5), (20, 5), (20, 5), (20, 5), (20, 5), (20, 5), (20, 5), (20, 5), (20, 5), (20, 5), (20, 5), (20, 5), (20, 5), (26, 21), (20, 5), (20, 5), (20, 5), (20, 5), (20, 5), (20, 5), (20, 5), (20, 5), (20, 5), (20, 5), (20, 5), (20, 5), (20, 5), (20, 5), (20, 5), (20, 5), (20, 5), (20, 5), (20, 5), (20, 5), (20, 5), (26, 21), (20, 5), (20, 5), (20, 5), (20, 5), (20, 5), (20, 5), (20, 5), (20, 5), (20, 5), (20, 5), (20, 5), (20, 5), (20, 5), (20, 5), (20, 5), (20, 5), (20, 5), (20, 5), (20, 5), (20, 5), (20, 5), (0, 10), (20, 5), (20, 5), (20, 5), (26, 21), (20, 5), (20, 5), (20, 5), (20, 5), (20, 5), (20, 5), (20, 5), (20, 5), (20, 5), (20, 5), (20, 5), (20, 5), (20, 5), (20, 5), (20, 5), (20, 5), (20, 5), (20, 5), (20, 5), (20, 5), (20, 5), (20, 21), (26, 21), (20, 5), (20, 5), (20, 5), (20, 5), (20, 5), (20, 5), (20, 5), (20, 5), (20, 5), (20, 5), (20, 5), (20, 5), (20, 5), (20, 5), (20, 5), (20, 5), (20, 5), (20, 5), (20, 5), (20, 5), (20, 5), (26, 21), (20, 5), (20, 5), (20, 5), (20, 5), (20, 5), (20, 5), (20, 5), (20, 5), (20, 5), (20, 5), (20, 5), (20, 5), (20, 5), (20, 5), (20, 5), (20, 5), (20, 5), (20, 5), (20, 5), (20, 5), (20, 5), (26, 21), (20, 5), (20, 5), (20, 5), (20, 5), (20, 5), (20, 5), (20, 5), (20, 5), (20, 5), (20, 5), (20, 5), (20, 5), (20, 5), (20, 5), (20, 5), (20, 5), (20, 5), (20, 5), (20, 5), (20, 5), (20, 5), (7, 8), (20, 5), (20, 5), (20, 5), (20, 5), (26, 5), (20, 5), (20, 5), (20, 5), (20, 5), (20, 5), (5, 5), (26, 5), (20, 5), (20, 5), (20, 5), (20, 5), (20, 5), (6, 3), (20, 32), (1, 6), (26, 5), (20, 5), (20, 5), (20, 5), (20, 5), (20, 5), (26, 5), (20, 5), (20, 5), (20, 5), (20, 5), (20, 5), (24, 3), (22, 3), (2, 20), (20, 5), (20, 5), (20, 5), (20, 5), (20, 5), (20, 5), (20, 5), (20, 5), (20, 30), (20, 30), (20, 30), (2, 20), (20, 5), (20, 5), (20, 5), (20, 5), (20, 5), (20, 5), (20, 5), (20, 5), (20, 30), (20, 30), (20, 30), (2, 20), (20, 5), (20, 5), (20, 5), (20, 5), (20, 5), (20, 5), (20, 5), (20, 5), (20, 30), (20, 30), (20, 30), (25, 4), (4, 4), (23, 60), (4, 4), (23, 60), (4, 4), (23, 60), (4, 4), (23, 60), (10, 47), (20, 79), (20, 237), (22, 3), (21, 600), (20, 5), (20, 79), (20, 5), (20, 5), (20, 5), (20, 21), (20, 105), (20, 105), (20, 105), (20, 21), (20, 5), (21, 15625), (20, 32), (20, 50), (20, 4), (20, 4), (23, 240), (23, 60)]
def kt (a : Nat) : Nat × Nat := kT.getD a (99, 0)
def KKL (L a : Nat) : Nat × Nat := if a < 317 then kt a else xK L a
def rT : List (Nat × Nat × Nat) := [(0, 0, 1), (0, 1, 3), (0, 2, 16), (0, 3, 247), (0, 4, 248), (0, 5, 28), (0, 6, 121), (0, 7, 214), (0, 8, 225), (0, 9, 232), (0, 10, 234), (0, 11, 285), (1, 0, 2), (3, 0, 1), (3, 1, 4), (4, 9, 5), (4, 10, 6), (4, 11, 7), (4, 12, 8), (4, 13, 9), (4, 14, 10), (4, 15, 11), (4, 16, 12), (4, 17, 13), (4, 18, 14), (4, 19, 15), (16, 9, 17), (16, 10, 18), (16, 11, 19), (16, 12, 20), (16, 13, 21), (16, 14, 22), (16, 15, 23), (16, 16, 24), (16, 17, 25), (16, 18, 26), (16, 19, 27), (28, 0, 16), (28, 2, 29), (28, 3, 30), (28, 4, 31), (28, 5, 32), (28, 6, 54), (28, 7, 55), (28, 8, 77), (28, 9, 99), (121, 0, 16), (121, 2, 122), (121, 3, 123), (121, 4, 124), (121, 5, 125), (121, 6, 147), (121, 7, 148), (121, 8, 170), (121, 9, 192), (214, 0, 16), (214, 1, 121), (214, 3, 215), (214, 4, 216), (214, 5, 217), (214, 6, 218), (214, 7, 219), (225, 0, 16), (225, 1, 121), (225, 4, 226), (232, 0, 16), (232, 1, 121), (232, 2, 233), (234, 0, 16), (234, 1, 121), (234, 2, 235), (234, 3, 241), (247, 0, 249), (247, 1, 261), (247, 2, 273), (249, 9, 250), (249, 10, 251), (249, 11, 252), (249, 12, 253), (249, 13, 254), (249, 14, 255), (249, 15, 256), (249, 16, 257), (249, 17, 258), (249, 18, 259), (249, 19, 260), (261, 9, 262), (261, 10, 263), (261, 11, 264), (261, 12, 265), (261, 13, 266), (261, 14, 267), (261, 15, 268), (261, 16, 269), (261, 17, 270), (261, 18, 271), (261, 19, 272), (273, 9, 274), (273, 10, 275), (273, 11, 276), (273, 12, 277), (273, 13, 278), (273, 14, 279), (273, 15, 280), (273, 16, 281), (273, 17, 282), (273, 18, 283), (273, 19, 284), (285, 0, 286), (285, 1, 288), (285, 2, 290), (285, 3, 292), (286, 0, 287), (288, 0, 289), (290, 0, 291), (292, 0, 293), (294, 1, 295), (294, 2, 296), (294, 3, 297), (294, 4, 298), (294, 6, 299), (294, 14, 300), (294, 15, 301), (294, 16, 302), (294, 17, 303), (294, 18, 304), (294, 21, 305), (294, 22, 306), (294, 23, 307), (294, 24, 308), (294, 27, 309), (294, 33, 310), (294, 36, 311), (294, 37, 312), (294, 43, 313), (294, 44, 314), (294, 45, 315), (294, 46, 316)]
def rA : List (Nat × Nat) := [(32, 21), (55, 21), (77, 21), (99, 21), (125, 21), (148, 21), (170, 21), (192, 21), (219, 5), (226, 5), (235, 5), (241, 5)]
def rt (a i : Nat) : Option Nat := match rA.find? (fun q => q.1 == a) with
  | some q => if i < q.2 then some (a + 1 + i) else none
  | none => (rT.find? (fun q => q.1 == a && q.2.1 == i)).map (fun q => q.2.2)
def uS (L : Nat) (s : mT) : mS := (317, KKL L, s.1, s.2, rt, 20374)
abbrev isRa (r : Nat) : Prop := r = 4 ∨ r = 16 ∨ r = 249 ∨ r = 261 ∨ r = 273
abbrev isCo (c : Nat) : Prop := c = 28 ∨ c = 121
abbrev isRw (w : Nat) : Prop := w = 286 ∨ w = 288 ∨ w = 290 ∨ w = 292
abbrev isSt (a : Nat) : Prop := XB + 10 ≤ a ∧ a < XB + 66 ∧ a % 2 = 0
abbrev isBy (a : Nat) : Prop := XB + 10 ≤ a ∧ a < XB + 66 ∧ a % 2 = 1
def bLen (b : Nat) : Nat := (xK 0 b).2
/-- writes, reads -/
def stIs (s : mT) (a : Nat) (f : Nat → Int32) : mT := (va_up s.1 a f, s.2)
def stI (s : mT) (a k : Nat) (x : Int32) : mT := (va_up s.1 a (upd (s.1 a) k x), s.2)
def stLs (s : mT) (a : Nat) (f : Nat → Int64) : mT := (s.1, va_up s.2 a f)
def stL (s : mT) (a k : Nat) (x : Int64) : mT := (s.1, va_up s.2 a (vp_updL (s.2 a) k x))
def rdI (f : Nat → Int32) (n : Nat) (i : Int32) : Option Int32 := if ¬ (i < 0 ∨ n ≤ i.toNatClampNeg) then some (f i.toNatClampNeg) else none
def rdL (f : Nat → Int64) (n : Nat) (i : Int32) : Option Int64 := if ¬ (i < 0 ∨ n ≤ i.toNatClampNeg) then some (f i.toNatClampNeg) else none
def wrI (s : mT) (a n : Nat) (i x : Int32) : Option mT := if ¬ (i < 0 ∨ n ≤ i.toNatClampNeg) then some (stI s a i.toNatClampNeg x) else none
def wrL (s : mT) (a n : Nat) (i : Int32) (x : Int64) : Option mT := if ¬ (i < 0 ∨ n ≤ i.toNatClampNeg) then some (stL s a i.toNatClampNeg x) else none
def cpI (s : mT) (a na : Nat) (sp : Int32) (b nb : Nat) (dp n : Int32) : Option mT := if ¬ sp < 0 ∧ ¬ dp < 0 ∧ ¬ n < 0 ∧ sp.toNatClampNeg + n.toNatClampNeg ≤ na ∧ dp.toNatClampNeg + n.toNatClampNeg ≤ nb then some (stIs s b (va_cpy (s.1 a) (s.1 b) sp.toNatClampNeg dp.toNatClampNeg n.toNatClampNeg)) else none
def cpL (s : mT) (a na : Nat) (sp : Int32) (b nb : Nat) (dp n : Int32) : Option mT := if ¬ sp < 0 ∧ ¬ dp < 0 ∧ ¬ n < 0 ∧ sp.toNatClampNeg + n.toNatClampNeg ≤ na ∧ dp.toNatClampNeg + n.toNatClampNeg ≤ nb then some (stLs s b (va_cpy (s.2 a) (s.2 b) sp.toNatClampNeg dp.toNatClampNeg n.toNatClampNeg)) else none
/-- a loop -/
def wh {S R : Type} : Nat → (S → Option (S ⊕ R)) → S → Option R
  | 0, _, _ => none
  | n + 1, f, s => (f s).bind fun x => match x with
    | .inl s' => wh n f s'
    | .inr r => some r
def FU : Nat := 100000
def sK {S R : Type} (E : S → Prop) (C : R → Prop) : S ⊕ R → Prop
  | .inl s => E s
  | .inr r => C r
theorem wh_ev {S R O : Type} {f : S → Option (S ⊕ R)} {E : S → O → Prop} {C : R → O → Prop} (hb : ∀ s x, f s = some x → ∀ o, sK (fun q => E q o) (fun r => C r o) x → E s o) : ∀ n s r, wh n f s = some r → ∀ o, C r o → E s o
  | 0, _, _, h, _, _ => by cases h
  | n + 1, s, r, h, o, hc => by
    unfold wh at h
    obtain ⟨x, hx, h⟩ := bd h
    refine hb s x hx o ?_
    cases x with
    | inl s' => exact wh_ev hb n s' r h o hc
    | inr r' =>
      cases h
      exact hc
/-! what the layout says -/
section LAY
variable {L : Nat} {s s' : mT} {a b ci n k j kd nb : Nat} {i x y : Int32}
theorem KK_is {q : Nat × Nat} (h : kt a = q ∧ a < 317) : mK (uS L s) a = q := by
  show KKL L a = q
  unfold KKL
  rw [if_pos h.2, h.1]
theorem KK_x (h : 317 ≤ a) : mK (uS L s) a = xK L a := by
  show KKL L a = xK L a
  unfold KKL
  rw [if_neg (by omega)]
theorem S_oI (h : kt a = (ci, n) ∧ a < 317) : oI (uS L s) ci a j = some (s.1 a j) := if_pos ⟨h.2, by rw [KK_is h]⟩
theorem S_oL (h : kt a = (ci, n) ∧ a < 317) : oL (uS L s) ci a j = some (s.2 a j) := if_pos ⟨h.2, by rw [KK_is h]⟩
theorem S_oR (h : kt a = (ci, n) ∧ a < 317) (hr : rt a j = some b) : oR (uS L s) ci a j = some b := (if_pos ⟨h.2, by rw [KK_is h]⟩ : oR (uS L s) ci a j = mR (uS L s) a j).trans hr
theorem S_pI (h : kt a = (ci, n) ∧ a < 317) : pI (uS L s) ci a j x = some (uS L (stI s a j x)) := if_pos ⟨h.2, by rw [KK_is h]⟩
theorem S_pZ (h : kt a = (ci, n) ∧ a < 317) (hx : x = 0 ∨ x = 1) : pZ (uS L s) ci a j x = some (uS L (stI s a j x)) := if_pos ⟨⟨h.2, by rw [KK_is h]⟩, hx⟩
theorem S_pL {x : Int64} (h : kt a = (ci, n) ∧ a < 317) : pL (uS L s) ci a j x = some (uS L (stL s a j x)) := if_pos ⟨h.2, by rw [KK_is h]⟩
theorem S_pIb (h : kt a = (ci, n) ∧ a < 317) (e : some (stI s a j x) = some s') : pI (uS L s) ci a j x = some (uS L s') := by cases e; exact S_pI h
theorem S_pZb (h : kt a = (ci, n) ∧ a < 317) (hx : x = 0 ∨ x = 1) (e : some (stI s a j x) = some s') : pZ (uS L s) ci a j x = some (uS L s') := by cases e; exact S_pZ h hx
theorem S_pLb {x : Int64} (h : kt a = (ci, n) ∧ a < 317) (e : some (stL s a j x) = some s') : pL (uS L s) ci a j x = some (uS L s') := by cases e; exact S_pL h
theorem rdI_some {f : Nat → Int32} (h : rdI f n i = some x) : ¬ (i < 0 ∨ n ≤ i.toNatClampNeg) ∧ f i.toNatClampNeg = x := by
  unfold rdI at h
  split at h
  · rename_i hb
    cases h
    exact ⟨hb, rfl⟩
  · cases h
theorem S_aI (hk : kt a = (kd, n) ∧ a < 317) (h : rdI (s.1 a) n i = some x) : aI (uS L s) kd a i = some x := by
  obtain ⟨hb, rfl⟩ := rdI_some h
  unfold aI
  rw [KK_is hk]
  exact if_pos ⟨rfl, Or.inl hk.2, hb⟩
theorem S_aZ (hk : kt a = (22, n) ∧ a < 317) (h : rdI (s.1 a) n i = some x) : aZ (uS L s) a i = some x := by
  obtain ⟨hb, rfl⟩ := rdI_some h
  unfold aZ
  rw [KK_is hk]
  exact if_pos ⟨rfl, hk.2, hb⟩
theorem S_aIx (hk : xK L a = (kd, n)) (hx : XB ≤ a) (h : rdI (s.1 a) n i = some x) : aI (uS L s) kd a i = some x := by
  obtain ⟨hb, rfl⟩ := rdI_some h
  unfold aI
  rw [KK_x (Nat.le_trans (by decide) hx), hk]
  exact if_pos ⟨rfl, Or.inr hx, hb⟩
theorem xK_st (h : isSt a) : xK L a = (30, 2) := by
  unfold xK
  rw [if_neg (by have := h.1; omega), if_neg (by have := h.1; omega), if_pos ⟨h.1, h.2.1⟩, if_pos h.2.2]
theorem xK_by (h : isBy a) : xK L a = (21, bLen a) := by
  unfold bLen xK
  rw [if_neg (by have := h.1; omega), if_neg (by have := h.1; omega), if_pos ⟨h.1, h.2.1⟩, if_neg (by have := h.2.2; omega), if_neg (by have := h.1; omega)]
theorem isSt_b (h : isSt a) : isBy (a + 1) := by
  obtain ⟨h1, h2, h3⟩ := h
  have e : XB = 1000000 := rfl
  refine ⟨by omega, by omega, by omega⟩
theorem S_aIb (hk : isBy a) (h : rdI (s.1 a) (bLen a) i = some x) : aI (uS L s) 21 a i = some x := S_aIx (xK_by hk) (by have := hk.1; omega) h
theorem S_isS (hk : isSt a) : isS (uS L s) a = some () := if_pos ⟨by have := hk.1; omega, by rw [KK_x (Nat.le_trans (by decide) hk.1), xK_st hk]⟩
theorem S_aL {x : Int64} (hk : kt a = (23, n) ∧ a < 317) (h : rdL (s.2 a) n i = some x) : aL (uS L s) a i = some x := by
  unfold rdL at h
  split at h
  · rename_i hb
    cases h
    unfold aL
    rw [KK_is hk]
    exact if_pos ⟨rfl, hk.2, hb⟩
  · cases h
theorem S_aR (hk : kt a = (kd, n) ∧ a < 317) (hb : ¬ (i < 0 ∨ n ≤ i.toNatClampNeg)) (hr : rt a i.toNatClampNeg = some b) : aR (uS L s) kd a i = some b := by
  unfold aR
  rw [KK_is hk, if_pos ⟨rfl, hk.2, hb⟩]
  exact hr
theorem S_sI (hk : kt a = (20, n) ∧ a < 317) (h : wrI s a n i x = some s') : sI (uS L s) a i x = some (uS L s') := by
  unfold wrI at h
  split at h
  · rename_i hb
    cases h
    unfold sI
    rw [KK_is hk]
    exact if_pos ⟨rfl, hk.2, hb⟩
  · cases h
theorem S_sB (hk : kt a = (21, n) ∧ a < 317) (h : wrI s a n i (vp_nar .byte x) = some s') : sB (uS L s) a i x = some (uS L s') := by
  unfold wrI at h
  split at h
  · rename_i hb
    cases h
    unfold sB
    rw [KK_is hk]
    exact if_pos ⟨rfl, hk.2, hb⟩
  · cases h
theorem S_sZ (hk : kt a = (22, n) ∧ a < 317) (h : wrI s a n i (vp_nar .boolean x) = some s') : sZ (uS L s) a i x = some (uS L s') := by
  unfold wrI at h
  split at h
  · rename_i hb
    cases h
    unfold sZ
    rw [KK_is hk]
    exact if_pos ⟨rfl, hk.2, hb⟩
  · cases h
theorem S_sL {x : Int64} (hk : kt a = (23, n) ∧ a < 317) (h : wrL s a n i x = some s') : sL (uS L s) a i x = some (uS L s') := by
  unfold wrL at h
  split at h
  · rename_i hb
    cases h
    unfold sL
    rw [KK_is hk]
    exact if_pos ⟨rfl, hk.2, hb⟩
  · cases h
theorem S_aLen (hk : kt a = (kd, n) ∧ a < 317) (h : 20 ≤ kd ∧ kd ≤ 26) : aLen (uS L s) a = some (Int32.ofNat n) := by
  unfold aLen
  rw [KK_is hk]
  exact if_pos ⟨h.1, h.2, Or.inl hk.2⟩
theorem S_aLenb (hk : isBy a) : aLen (uS L s) a = some (Int32.ofNat (bLen a)) := by
  unfold aLen
  rw [KK_x (Nat.le_trans (by decide) hk.1), xK_by hk]
  exact if_pos ⟨(by decide : 20 ≤ 21), (by decide : 21 ≤ 26), Or.inr ⟨by have := hk.1; omega, (by decide : 21 ≤ 21)⟩⟩
theorem S_aLens : aLen (uS L s) XB = some (Int32.ofNat L) := by
  unfold aLen
  rw [KK_x (by decide), show xK L XB = (20, L) from if_pos rfl]
  exact if_pos ⟨(by decide : 20 ≤ 20), (by decide : 20 ≤ 26), Or.inr ⟨Nat.le_refl _, (by decide : 20 ≤ 21)⟩⟩
theorem S_cpI {sp dp m : Int32} (hk : kt a = (20, n) ∧ a < 317) (hk2 : kt b = (20, nb) ∧ b < 317) (h : cpI s a n sp b nb dp m = some s') : cpyI (uS L s) a sp b dp m = some (uS L s') := by
  unfold cpI at h
  split at h
  · rename_i hb
    cases h
    unfold cpyI
    rw [KK_is hk, KK_is hk2]
    exact if_pos ⟨⟨rfl, rfl, hk.2, hk2.2⟩, hb⟩
  · cases h
theorem S_cpL {sp dp m : Int32} (hk : kt a = (23, n) ∧ a < 317) (hk2 : kt b = (23, nb) ∧ b < 317) (h : cpL s a n sp b nb dp m = some s') : cpyL (uS L s) a sp b dp m = some (uS L s') := by
  unfold cpL at h
  split at h
  · rename_i hb
    cases h
    unfold cpyL
    rw [KK_is hk, KK_is hk2]
    exact if_pos ⟨⟨rfl, rfl, hk.2, hk2.2⟩, hb⟩
  · cases h
/-- may be called upon -/
theorem gd_o (h : kt a = (ci, n) ∧ a < 317) (hc : ci < 11) : (a < mN (uS L s) ∧ (mK (uS L s) a).1 = ci ∧ ci < 11) ∨ (XB ≤ a ∧ (mK (uS L s) a).1 = 30 ∧ ci = 13) := Or.inl ⟨h.2, by rw [KK_is h], hc⟩
theorem gd_st (h : isSt a) : (a < mN (uS L s) ∧ (mK (uS L s) a).1 = 13 ∧ 13 < 11) ∨ (XB ≤ a ∧ (mK (uS L s) a).1 = 30 ∧ 13 = 13) := Or.inr ⟨by have := h.1; omega, by rw [KK_x (Nat.le_trans (by decide) h.1), xK_st h], rfl⟩
theorem co_o (h : isCo a) : kt a = (0, 10) ∧ a < 317 := by rcases h with rfl | rfl <;> decide +kernel
theorem ra_o (h : isRa a) : kt a = (2, 20) ∧ a < 317 := by rcases h with rfl | rfl | rfl | rfl | rfl <;> decide +kernel
theorem rw_o (h : isRw a) : kt a = (4, 4) ∧ a < 317 := by rcases h with rfl | rfl | rfl | rfl <;> decide +kernel
theorem co_k (h : isCo a) (k : Nat) (q : Nat × Nat) (hc : ∀ c ∈ [28, 121], kt (c + k) = q ∧ c + k < 317) : kt (a + k) = q ∧ a + k < 317 := hc a (by rcases h with rfl | rfl <;> decide)
theorem ra_k (h : isRa a) (k : Nat) (q : Nat × Nat) (hc : ∀ c ∈ [4, 16, 249, 261, 273], kt (c + k) = q ∧ c + k < 317) : kt (a + k) = q ∧ a + k < 317 := hc a (by rcases h with rfl | rfl | rfl | rfl | rfl <;> decide)
theorem rw_k (h : isRw a) (k : Nat) (q : Nat × Nat) (hc : ∀ c ∈ [286, 288, 290, 292], kt (c + k) = q ∧ c + k < 317) : kt (a + k) = q ∧ a + k < 317 := hc a (by rcases h with rfl | rfl | rfl | rfl <;> decide)
theorem co_r2 (h : isCo a) (j k : Nat) (hc : ∀ c ∈ [28, 121], rt c j = some (c + k)) : rt a j = some (a + k) := hc a (by rcases h with rfl | rfl <;> decide)
theorem ra_r2 (h : isRa a) (j k : Nat) (hc : ∀ c ∈ [4, 16, 249, 261, 273], rt c j = some (c + k)) : rt a j = some (a + k) := hc a (by rcases h with rfl | rfl | rfl | rfl | rfl <;> decide)
theorem rw_r2 (h : isRw a) (j k : Nat) (hc : ∀ c ∈ [286, 288, 290, 292], rt c j = some (c + k)) : rt a j = some (a + k) := hc a (by rcases h with rfl | rfl | rfl | rfl <;> decide)
theorem co_r (h : isCo a) (j b : Nat) (hc : ∀ c ∈ [28, 121], rt c j = some b) : rt a j = some b := hc a (by rcases h with rfl | rfl <;> decide)
theorem co_row (h : isCo a) (e n : Nat) {q : Nat × Nat} (hc : ∀ c ∈ [28, 121], ∀ m, m < n → kt (c + e + m) = q ∧ c + e + m < 317) (hb : ¬ (i < 0 ∨ n ≤ i.toNatClampNeg)) : kt (a + e + i.toNatClampNeg) = q ∧ a + e + i.toNatClampNeg < 317 := hc a (by rcases h with rfl | rfl <;> decide) _ (by omega)
theorem co_aa (h : isCo a) (k n : Nat) (hc : ∀ c ∈ [28, 121], ∀ m, m < n → rt (c + k) m = some (c + (k + 1) + m)) (hb : ¬ (i < 0 ∨ n ≤ i.toNatClampNeg)) : rt (a + k) i.toNatClampNeg = some (a + (k + 1) + i.toNatClampNeg) := hc a (by rcases h with rfl | rfl <;> decide) _ (by omega)
theorem lit_row {e n : Nat} {q : Nat × Nat} (hc : ∀ m, m < n → kt (e + m) = q ∧ e + m < 317) (hb : ¬ (i < 0 ∨ n ≤ i.toNatClampNeg)) : kt (e + i.toNatClampNeg) = q ∧ e + i.toNatClampNeg < 317 := hc _ (by omega)
theorem lit_aa {e n a : Nat} (hc : ∀ m, m < n → rt a m = some (e + m)) (hb : ¬ (i < 0 ∨ n ≤ i.toNatClampNeg)) : rt a i.toNatClampNeg = some (e + i.toNatClampNeg) := hc _ (by omega)
theorem el_ra (hb : ¬ (i < 0 ∨ 3 ≤ i.toNatClampNeg)) : isRa (249 + 12 * i.toNatClampNeg) := by omega
theorem el_rw (hb : ¬ (i < 0 ∨ 4 ≤ i.toNatClampNeg)) : isRw (286 + 2 * i.toNatClampNeg) := by omega
theorem el_rar (hb : ¬ (i < 0 ∨ 3 ≤ i.toNatClampNeg)) : rt 247 i.toNatClampNeg = some (249 + 12 * i.toNatClampNeg) := (by decide +kernel : ∀ m, m < 3 → rt 247 m = some (249 + 12 * m)) _ (by omega)
theorem el_rwr (hb : ¬ (i < 0 ∨ 4 ≤ i.toNatClampNeg)) : rt 285 i.toNatClampNeg = some (286 + 2 * i.toNatClampNeg) := (by decide +kernel : ∀ m, m < 4 → rt 285 m = some (286 + 2 * m)) _ (by omega)
end LAY
section DV
variable {d k ow nL pc : Nat} {B : ByteArray} {rtp : Option FieldType} {lv : mV} {r : List Value} {u : mS} {o : Option Value × mS}
theorem Ev.idiv {x y : Int32} (hm : mD k ow B nL rtp) (hd : decode B pc = .ok (.idiv, 1)) (hy : ¬ y = 0) (h : Ev d k (pc + 1) lv (.int (x / y) :: r) u o) : Ev d k pc lv (.int y :: .int x :: r) u o := by
  refine Ev.f hm hd ?_ h
  show fD 1 pc lv (.int y :: .int x :: r) (fun x y => x / y) = _
  unfold fD
  exact if_pos ⟨rfl, hy⟩
theorem Ev.irem {x y : Int32} (hm : mD k ow B nL rtp) (hd : decode B pc = .ok (.irem, 1)) (hy : ¬ y = 0) (h : Ev d k (pc + 1) lv (.int (x - x / y * y) :: r) u o) : Ev d k pc lv (.int y :: .int x :: r) u o := by
  refine Ev.f hm hd ?_ h
  show fD 1 pc lv (.int y :: .int x :: r) (fun x y => x - x / y * y) = _
  unfold fD
  exact if_pos ⟨rfl, hy⟩
theorem Ev.ldiv {x y : Int64} (hm : mD k ow B nL rtp) (hd : decode B pc = .ok (.ldiv, 1)) (hy : ¬ y = 0) (h : Ev d k (pc + 1) lv (.long (x / y) :: r) u o) : Ev d k pc lv (.long y :: .long x :: r) u o := by
  refine Ev.f hm hd ?_ h
  show fDL 1 pc lv (.long y :: .long x :: r) (fun x y => x / y) = _
  unfold fDL
  exact if_pos ⟨rfl, hy⟩
theorem Ev.lrem {x y : Int64} (hm : mD k ow B nL rtp) (hd : decode B pc = .ok (.lrem, 1)) (hy : ¬ y = 0) (h : Ev d k (pc + 1) lv (.long (x - x / y * y) :: r) u o) : Ev d k pc lv (.long y :: .long x :: r) u o := by
  refine Ev.f hm hd ?_ h
  show fDL 1 pc lv (.long y :: .long x :: r) (fun x y => x - x / y * y) = _
  unfold fDL
  exact if_pos ⟨rfl, hy⟩
end DV
theorem Ev.sub2 {d k pc : Nat} {lv lv' : mV} {st : List Value} {u : mS} {o : Option Value × mS} (h : Ev d k pc lv' st u o) (hs : subL lv' lv) : Ev d k pc lv st u o := Ev.sub hs h
/-- tableswitch -/
def tabT (df lo hi : Int) (offs : Array Int) (x : Int32) : Option Int := if x.toInt < lo ∨ hi < x.toInt then some df else offs[(x.toInt - lo).toNat]?
theorem Ev.tab {d k ow nL pc len t : Nat} {B : ByteArray} {rtp : Option FieldType} {lv : mV} {r : List Value} {u : mS} {o : Option Value × mS} (hm : mD k ow B nL rtp) {df lo hi off : Int} {offs : Array Int} {x : Int32} (hd : decode B pc = .ok (.tableswitch df lo hi offs, len)) (hx : tabT df lo hi offs x = some off) (ht : jT pc off = some t) (h : Ev d k t lv r u o) : Ev d k pc lv (.int x :: r) u o := by
  refine Ev.f hm hd ?_ h
  show fTab pc lv (.int x :: r) df lo hi offs = _
  unfold fTab
  unfold tabT at hx
  split at hx
  · rename_i h1
    cases hx
    (try dsimp only)
    rw [if_pos h1, ht]
  · rename_i h1
    (try dsimp only)
    rw [if_neg h1, hx]
    (try dsimp only)
    rw [ht]
theorem tab_df {df lo hi : Int} {offs : Array Int} {x : Int32} (n : Nat) (hno : ∀ z, z < n → ¬ x = Int32.ofInt (lo + z)) (hn : lo + n = hi + 1) : tabT df lo hi offs x = some df := by
  refine if_pos ?_
  by_cases h1 : x.toInt < lo
  · exact Or.inl h1
  by_cases h2 : hi < x.toInt
  · exact Or.inr h2
  exfalso
  refine hno (x.toInt - lo).toNat (by omega) ?_
  rw [Int.toNat_of_nonneg (by omega), show lo + (x.toInt - lo) = x.toInt by omega, Int32.ofInt_toInt]
/-! cells -/
theorem k_0 : kt 0 = (9, 12) ∧ 0 < 317 := by decide +kernel
theorem k_1 : kt 1 = (8, 2) ∧ 1 < 317 := by decide +kernel
theorem k_2 : kt 2 = (20, 600) ∧ 2 < 317 := by decide +kernel
theorem k_3 : kt 3 = (3, 8) ∧ 3 < 317 := by decide +kernel
theorem k_4 : kt 4 = (2, 20) ∧ 4 < 317 := by decide +kernel
theorem k_5 : kt 5 = (20, 5) ∧ 5 < 317 := by decide +kernel
theorem k_6 : kt 6 = (20, 5) ∧ 6 < 317 := by decide +kernel
theorem k_7 : kt 7 = (20, 5) ∧ 7 < 317 := by decide +kernel
theorem k_8 : kt 8 = (20, 5) ∧ 8 < 317 := by decide +kernel
theorem k_9 : kt 9 = (20, 5) ∧ 9 < 317 := by decide +kernel
theorem k_10 : kt 10 = (20, 5) ∧ 10 < 317 := by decide +kernel
theorem k_11 : kt 11 = (20, 5) ∧ 11 < 317 := by decide +kernel
theorem k_12 : kt 12 = (20, 5) ∧ 12 < 317 := by decide +kernel
theorem k_13 : kt 13 = (20, 30) ∧ 13 < 317 := by decide +kernel
theorem k_14 : kt 14 = (20, 30) ∧ 14 < 317 := by decide +kernel
theorem k_15 : kt 15 = (20, 30) ∧ 15 < 317 := by decide +kernel
theorem k_16 : kt 16 = (2, 20) ∧ 16 < 317 := by decide +kernel
theorem k_17 : kt 17 = (20, 5) ∧ 17 < 317 := by decide +kernel
theorem k_18 : kt 18 = (20, 5) ∧ 18 < 317 := by decide +kernel
theorem k_19 : kt 19 = (20, 5) ∧ 19 < 317 := by decide +kernel
theorem k_20 : kt 20 = (20, 5) ∧ 20 < 317 := by decide +kernel
theorem k_21 : kt 21 = (20, 5) ∧ 21 < 317 := by decide +kernel
theorem k_22 : kt 22 = (20, 5) ∧ 22 < 317 := by decide +kernel
theorem k_23 : kt 23 = (20, 5) ∧ 23 < 317 := by decide +kernel
theorem k_24 : kt 24 = (20, 5) ∧ 24 < 317 := by decide +kernel
theorem k_25 : kt 25 = (20, 30) ∧ 25 < 317 := by decide +kernel
theorem k_26 : kt 26 = (20, 30) ∧ 26 < 317 := by decide +kernel
theorem k_27 : kt 27 = (20, 30) ∧ 27 < 317 := by decide +kernel
theorem k_28 : kt 28 = (0, 10) ∧ 28 < 317 := by decide +kernel
theorem k_29 : kt 29 = (20, 5) ∧ 29 < 317 := by decide +kernel
theorem k_30 : kt 30 = (20, 5) ∧ 30 < 317 := by decide +kernel
theorem k_31 : kt 31 = (20, 5) ∧ 31 < 317 := by decide +kernel
theorem k_32 : kt 32 = (26, 21) ∧ 32 < 317 := by decide +kernel
theorem k_54 : kt 54 = (20, 21) ∧ 54 < 317 := by decide +kernel
theorem k_55 : kt 55 = (26, 21) ∧ 55 < 317 := by decide +kernel
theorem k_77 : kt 77 = (26, 21) ∧ 77 < 317 := by decide +kernel
theorem k_99 : kt 99 = (26, 21) ∧ 99 < 317 := by decide +kernel
theorem k_121 : kt 121 = (0, 10) ∧ 121 < 317 := by decide +kernel
theorem k_122 : kt 122 = (20, 5) ∧ 122 < 317 := by decide +kernel
theorem k_123 : kt 123 = (20, 5) ∧ 123 < 317 := by decide +kernel
theorem k_124 : kt 124 = (20, 5) ∧ 124 < 317 := by decide +kernel
theorem k_125 : kt 125 = (26, 21) ∧ 125 < 317 := by decide +kernel
theorem k_147 : kt 147 = (20, 21) ∧ 147 < 317 := by decide +kernel
theorem k_148 : kt 148 = (26, 21) ∧ 148 < 317 := by decide +kernel
theorem k_170 : kt 170 = (26, 21) ∧ 170 < 317 := by decide +kernel
theorem k_192 : kt 192 = (26, 21) ∧ 192 < 317 := by decide +kernel
theorem k_214 : kt 214 = (7, 8) ∧ 214 < 317 := by decide +kernel
theorem k_215 : kt 215 = (20, 5) ∧ 215 < 317 := by decide +kernel
theorem k_216 : kt 216 = (20, 5) ∧ 216 < 317 := by decide +kernel
theorem k_217 : kt 217 = (20, 5) ∧ 217 < 317 := by decide +kernel
theorem k_218 : kt 218 = (20, 5) ∧ 218 < 317 := by decide +kernel
theorem k_219 : kt 219 = (26, 5) ∧ 219 < 317 := by decide +kernel
theorem k_225 : kt 225 = (5, 5) ∧ 225 < 317 := by decide +kernel
theorem k_226 : kt 226 = (26, 5) ∧ 226 < 317 := by decide +kernel
theorem k_232 : kt 232 = (6, 3) ∧ 232 < 317 := by decide +kernel
theorem k_233 : kt 233 = (20, 32) ∧ 233 < 317 := by decide +kernel
theorem k_234 : kt 234 = (1, 6) ∧ 234 < 317 := by decide +kernel
theorem k_235 : kt 235 = (26, 5) ∧ 235 < 317 := by decide +kernel
theorem k_241 : kt 241 = (26, 5) ∧ 241 < 317 := by decide +kernel
theorem k_247 : kt 247 = (24, 3) ∧ 247 < 317 := by decide +kernel
theorem k_248 : kt 248 = (22, 3) ∧ 248 < 317 := by decide +kernel
theorem k_249 : kt 249 = (2, 20) ∧ 249 < 317 := by decide +kernel
theorem k_250 : kt 250 = (20, 5) ∧ 250 < 317 := by decide +kernel
theorem k_251 : kt 251 = (20, 5) ∧ 251 < 317 := by decide +kernel
theorem k_252 : kt 252 = (20, 5) ∧ 252 < 317 := by decide +kernel
theorem k_253 : kt 253 = (20, 5) ∧ 253 < 317 := by decide +kernel
theorem k_254 : kt 254 = (20, 5) ∧ 254 < 317 := by decide +kernel
theorem k_255 : kt 255 = (20, 5) ∧ 255 < 317 := by decide +kernel
theorem k_256 : kt 256 = (20, 5) ∧ 256 < 317 := by decide +kernel
theorem k_257 : kt 257 = (20, 5) ∧ 257 < 317 := by decide +kernel
theorem k_258 : kt 258 = (20, 30) ∧ 258 < 317 := by decide +kernel
theorem k_259 : kt 259 = (20, 30) ∧ 259 < 317 := by decide +kernel
theorem k_260 : kt 260 = (20, 30) ∧ 260 < 317 := by decide +kernel
theorem k_261 : kt 261 = (2, 20) ∧ 261 < 317 := by decide +kernel
theorem k_262 : kt 262 = (20, 5) ∧ 262 < 317 := by decide +kernel
theorem k_263 : kt 263 = (20, 5) ∧ 263 < 317 := by decide +kernel
theorem k_264 : kt 264 = (20, 5) ∧ 264 < 317 := by decide +kernel
theorem k_265 : kt 265 = (20, 5) ∧ 265 < 317 := by decide +kernel
theorem k_266 : kt 266 = (20, 5) ∧ 266 < 317 := by decide +kernel
theorem k_267 : kt 267 = (20, 5) ∧ 267 < 317 := by decide +kernel
theorem k_268 : kt 268 = (20, 5) ∧ 268 < 317 := by decide +kernel
theorem k_269 : kt 269 = (20, 5) ∧ 269 < 317 := by decide +kernel
theorem k_270 : kt 270 = (20, 30) ∧ 270 < 317 := by decide +kernel
theorem k_271 : kt 271 = (20, 30) ∧ 271 < 317 := by decide +kernel
theorem k_272 : kt 272 = (20, 30) ∧ 272 < 317 := by decide +kernel
theorem k_273 : kt 273 = (2, 20) ∧ 273 < 317 := by decide +kernel
theorem k_274 : kt 274 = (20, 5) ∧ 274 < 317 := by decide +kernel
theorem k_275 : kt 275 = (20, 5) ∧ 275 < 317 := by decide +kernel
theorem k_276 : kt 276 = (20, 5) ∧ 276 < 317 := by decide +kernel
theorem k_277 : kt 277 = (20, 5) ∧ 277 < 317 := by decide +kernel
theorem k_278 : kt 278 = (20, 5) ∧ 278 < 317 := by decide +kernel
theorem k_279 : kt 279 = (20, 5) ∧ 279 < 317 := by decide +kernel
theorem k_280 : kt 280 = (20, 5) ∧ 280 < 317 := by decide +kernel
theorem k_281 : kt 281 = (20, 5) ∧ 281 < 317 := by decide +kernel
theorem k_282 : kt 282 = (20, 30) ∧ 282 < 317 := by decide +kernel
theorem k_283 : kt 283 = (20, 30) ∧ 283 < 317 := by decide +kernel
theorem k_284 : kt 284 = (20, 30) ∧ 284 < 317 := by decide +kernel
theorem k_285 : kt 285 = (25, 4) ∧ 285 < 317 := by decide +kernel
theorem k_286 : kt 286 = (4, 4) ∧ 286 < 317 := by decide +kernel
theorem k_287 : kt 287 = (23, 60) ∧ 287 < 317 := by decide +kernel
theorem k_288 : kt 288 = (4, 4) ∧ 288 < 317 := by decide +kernel
theorem k_289 : kt 289 = (23, 60) ∧ 289 < 317 := by decide +kernel
theorem k_290 : kt 290 = (4, 4) ∧ 290 < 317 := by decide +kernel
theorem k_291 : kt 291 = (23, 60) ∧ 291 < 317 := by decide +kernel
theorem k_292 : kt 292 = (4, 4) ∧ 292 < 317 := by decide +kernel
theorem k_293 : kt 293 = (23, 60) ∧ 293 < 317 := by decide +kernel
theorem k_294 : kt 294 = (10, 47) ∧ 294 < 317 := by decide +kernel
theorem k_295 : kt 295 = (20, 79) ∧ 295 < 317 := by decide +kernel
theorem k_296 : kt 296 = (20, 237) ∧ 296 < 317 := by decide +kernel
theorem k_297 : kt 297 = (22, 3) ∧ 297 < 317 := by decide +kernel
theorem k_298 : kt 298 = (21, 600) ∧ 298 < 317 := by decide +kernel
theorem k_299 : kt 299 = (20, 5) ∧ 299 < 317 := by decide +kernel
theorem k_300 : kt 300 = (20, 79) ∧ 300 < 317 := by decide +kernel
theorem k_301 : kt 301 = (20, 5) ∧ 301 < 317 := by decide +kernel
theorem k_302 : kt 302 = (20, 5) ∧ 302 < 317 := by decide +kernel
theorem k_303 : kt 303 = (20, 5) ∧ 303 < 317 := by decide +kernel
theorem k_304 : kt 304 = (20, 21) ∧ 304 < 317 := by decide +kernel
theorem k_305 : kt 305 = (20, 105) ∧ 305 < 317 := by decide +kernel
theorem k_306 : kt 306 = (20, 105) ∧ 306 < 317 := by decide +kernel
theorem k_307 : kt 307 = (20, 105) ∧ 307 < 317 := by decide +kernel
theorem k_308 : kt 308 = (20, 21) ∧ 308 < 317 := by decide +kernel
theorem k_309 : kt 309 = (20, 5) ∧ 309 < 317 := by decide +kernel
theorem k_310 : kt 310 = (21, 15625) ∧ 310 < 317 := by decide +kernel
theorem k_311 : kt 311 = (20, 32) ∧ 311 < 317 := by decide +kernel
theorem k_312 : kt 312 = (20, 50) ∧ 312 < 317 := by decide +kernel
theorem k_313 : kt 313 = (20, 4) ∧ 313 < 317 := by decide +kernel
theorem k_314 : kt 314 = (20, 4) ∧ 314 < 317 := by decide +kernel
theorem k_315 : kt 315 = (23, 240) ∧ 315 < 317 := by decide +kernel
theorem k_316 : kt 316 = (23, 60) ∧ 316 < 317 := by decide +kernel
