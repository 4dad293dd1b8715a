/-! THE CONSTRUCTORS, gone through cell by cell (wip/whole/gen_ctor.py writes this) -/
def cC : List (Nat × Nat × Nat) := [(1, 0, 2), (0, 0, 1), (4, 9, 5), (4, 10, 6), (4, 11, 7), (4, 12, 8), (4, 13, 9), (4, 14, 10), (4, 15, 11), (4, 16, 12), (4, 17, 13), (4, 18, 14), (4, 19, 15), (3, 1, 4), (3, 0, 1), (0, 1, 3), (16, 9, 17), (16, 10, 18), (16, 11, 19), (16, 12, 20), (16, 13, 21), (16, 14, 22), (16, 15, 23), (16, 16, 24), (16, 17, 25), (16, 18, 26), (16, 19, 27), (0, 2, 16), (28, 2, 29), (28, 3, 30), (28, 4, 31), (28, 5, 32), (28, 6, 54), (28, 7, 55), (28, 8, 77), (28, 9, 99), (28, 0, 16), (0, 5, 28), (121, 2, 122), (121, 3, 123), (121, 4, 124), (121, 5, 125), (121, 6, 147), (121, 7, 148), (121, 8, 170), (121, 9, 192), (121, 0, 16), (0, 6, 121), (214, 3, 215), (214, 4, 216), (214, 5, 217), (214, 6, 218), (214, 7, 219), (214, 0, 16), (214, 1, 121), (0, 7, 214), (225, 4, 226), (225, 0, 16), (225, 1, 121), (0, 8, 225), (232, 2, 233), (232, 0, 16), (232, 1, 121), (0, 9, 232), (234, 2, 235), (234, 3, 241), (234, 0, 16), (234, 1, 121), (0, 10, 234), (0, 3, 247), (0, 4, 248), (249, 9, 250), (249, 10, 251), (249, 11, 252), (249, 12, 253), (249, 13, 254), (249, 14, 255), (249, 15, 256), (249, 16, 257), (249, 17, 258), (249, 18, 259), (249, 19, 260), (247, 0, 249), (261, 9, 262), (261, 10, 263), (261, 11, 264), (261, 12, 265), (261, 13, 266), (261, 14, 267), (261, 15, 268), (261, 16, 269), (261, 17, 270), (261, 18, 271), (261, 19, 272), (247, 1, 261), (273, 9, 274), (273, 10, 275), (273, 11, 276), (273, 12, 277), (273, 13, 278), (273, 14, 279), (273, 15, 280), (273, 16, 281), (273, 17, 282), (273, 18, 283), (273, 19, 284), (247, 2, 273), (0, 11, 285), (286, 0, 287), (285, 0, 286), (288, 0, 289), (285, 1, 288), (290, 0, 291), (285, 2, 290), (292, 0, 293), (285, 3, 292), (294, 1, 295), (294, 2, 296), (294, 3, 297), (294, 4, 298), (294, 6, 299), (294, 14, 300), (294, 15, 301), (294, 16, 302), (294, 17, 303), (294, 18, 304), (294, 21, 305), (294, 22, 306), (294, 23, 307), (294, 24, 308), (294, 27, 309), (294, 33, 310), (294, 36, 311), (294, 37, 312), (294, 43, 313), (294, 44, 314), (294, 45, 315), (294, 46, 316)]
def iC : List (Nat × Nat × Int32) := [(3, 3, -1), (214, 2, 1), (225, 2, -1), (234, 5, -1), (294, 13, -1), (313, 0, -1), (313, 1, -1), (313, 2, -1), (313, 3, -1)]
def rL (j a i : Nat) : Option Nat := match rA.find? (fun q => q.1 == a) with
  | some q => if i < q.2 then some (a + 1 + i) else none
  | none => ((cC.take j).find? (fun q => q.1 == a && q.2.1 == i)).map (fun q => q.2.2)
def iL (m a k : Nat) : Int32 := (((iC.take m).find? (fun q => q.1 == a && q.2.1 == k)).map (fun q => q.2.2)).getD 0
/-- the store when n cells, j references, m ints that are not 0 have been laid -/
def cS (L : Nat) (xs : Nat → Int32) (n j m z : Nat) : mS := (n, fun a => if a < n then kt a else xK L a, fun a k => if a < XB then iL m a k else xI xs a k, fun _ _ => 0, fun a i => if a < n then rL j a i else none, z)
theorem find_none2 {α : Type} {l : List α} {p : α → Bool} (h : l.all (fun q => !p q) = true) : l.find? p = none := List.find?_eq_none.mpr (fun x hx => by
  have := List.all_eq_true.mp h x hx
  simpa using this)
theorem rL_no {j n i : Nat} (h1 : rA.find? (fun q => q.1 == n) = none) (h2 : (cC.take j).all (fun q => !(q.1 == n)) = true) : rL j n i = none := by
  unfold rL
  rw [h1]
  (try dsimp only)
  rw [find_none2]
  · rfl
  · refine List.all_eq_true.mpr (fun x hx => ?_)
    have := List.all_eq_true.mp h2 x hx
    cases hq : (x.1 == n)
    · rfl
    · rw [hq] at this; cases this
theorem iL_no {m n k : Nat} (h2 : (iC.take m).all (fun q => !(q.1 == n)) = true) : iL m n k = 0 := by
  unfold iL
  rw [find_none2]
  · rfl
  · refine List.all_eq_true.mpr (fun x hx => ?_)
    have := List.all_eq_true.mp h2 x hx
    cases hq : (x.1 == n)
    · rfl
    · rw [hq] at this; cases this
def okN (n j m kd len z z' : Nat) : Bool := decide (n < XB) && (decide (kt n = (kd, len)) && (decide (rA.find? (fun q => q.1 == n) = none) && ((cC.take j).all (fun q => !(q.1 == n)) && ((iC.take m).all (fun q => !(q.1 == n)) && decide (z' = z + len)))))
section CT
variable {L n j m z z' a k b ci kd len : Nat} {xs : Nat → Int32}
theorem nC_c (h : okN n j m kd len z z' = true) : n < XB ∧ nC (cS L xs n j m z) kd len = cS L xs (n + 1) j m z' := by
  unfold okN at h
  simp only [Bool.and_eq_true, decide_eq_true_eq] at h
  obtain ⟨h0, h1, h2, h3, h4, rfl⟩ := h
  refine ⟨h0, ?_⟩
  unfold nC cS
  refine Prod.ext rfl (Prod.ext ?_ (Prod.ext ?_ (Prod.ext ?_ (Prod.ext ?_ rfl)))) <;> (try dsimp only)
  · funext a
    unfold va_up
    by_cases e : a = n
    · subst e; rw [if_pos rfl, if_pos (Nat.lt_succ_self _), h1]
    · rw [if_neg e]
      (try dsimp only)
      by_cases e2 : a < n
      · rw [if_pos e2, if_pos (by omega)]
      · rw [if_neg e2, if_neg (by omega)]
  · funext a k
    unfold va_up
    by_cases e : a = n
    · subst e; rw [if_pos rfl, if_pos h0, iL_no h4]
    · rw [if_neg e]
  · funext a k
    unfold va_up
    split <;> rfl
  · funext a i
    unfold va_up
    by_cases e : a = n
    · subst e; rw [if_pos rfl, if_pos (Nat.lt_succ_self _), rL_no h2 h3]
    · rw [if_neg e]
      (try dsimp only)
      by_cases e2 : a < n
      · rw [if_pos e2, if_pos (by omega)]
      · rw [if_neg e2, if_neg (by omega)]
theorem nO_c (h : okN n j m ci (mm_nf ci) z z' = true) : nO (cS L xs n j m z) ci = some (cS L xs (n + 1) j m z') := by
  obtain ⟨h0, h1⟩ := nC_c (L := L) (xs := xs) h
  exact (if_pos h0).trans (congrArg some h1)
theorem nA_c {i : Int32} (h : (decide (¬ i < 0) && (decide (i.toNatClampNeg ≤ 20000) && okN n j m kd i.toNatClampNeg z z')) = true) : nA (cS L xs n j m z) kd i = some (cS L xs (n + 1) j m z') := by
  simp only [Bool.and_eq_true, decide_eq_true_eq] at h
  obtain ⟨g1, g2, h⟩ := h
  obtain ⟨h0, h1⟩ := nC_c (L := L) (xs := xs) h
  exact (if_pos ⟨g1, g2, h0⟩).trans (congrArg some h1)
def okMM (n j m c k z z' : Nat) : Bool := decide (n + c < XB) && (decide (kt n = (26, c)) && (decide (∀ b, b < c → kt (n + 1 + b) = (20, k) ∧ rA.find? (fun q => q.1 == n + 1 + b) = none) && (decide (rA.find? (fun q => q.1 == n) = some (n, c)) && ((cC.take j).all (fun q => decide (q.1 < n)) && ((iC.take m).all (fun q => decide (q.1 < n)) && decide (z' = z + c + c * k))))))
theorem all_lt {α : Type} {l : List α} {f : α → Nat} {n b : Nat} (h : l.all (fun q => decide (f q < n)) = true) (hb : n ≤ b) : l.all (fun q => !(f q == b)) = true := by
  refine List.all_eq_true.mpr (fun x hx => ?_)
  have := of_decide_eq_true (List.all_eq_true.mp h x hx)
  cases hq : (f x == b)
  · rfl
  · have := eq_of_beq hq; omega
theorem nM_c {c : Nat} (h : okMM n j m c k z z' = true) : n + c < XB ∧ nM (cS L xs n j m z) c k = cS L xs (n + 1 + c) j m z' := by
  unfold okMM at h
  simp only [Bool.and_eq_true, decide_eq_true_eq] at h
  obtain ⟨h0, h1, h2, h3, h4, h5, rfl⟩ := h
  refine ⟨h0, ?_⟩
  unfold nM cS
  refine Prod.ext rfl (Prod.ext ?_ (Prod.ext ?_ (Prod.ext ?_ (Prod.ext ?_ rfl)))) <;> (try dsimp only)
  · funext a
    by_cases e : a = n
    · subst e; rw [if_pos rfl, if_pos (by omega), h1]
    · rw [if_neg e]
      by_cases e2 : n < a ∧ a ≤ n + c
      · rw [if_pos e2, if_pos (by omega)]
        have := (h2 (a - n - 1) (by omega)).1
        rw [show n + 1 + (a - n - 1) = a by omega] at this
        exact this.symm
      · rw [if_neg e2]
        (try dsimp only)
        by_cases e3 : a < n
        · rw [if_pos e3, if_pos (by omega)]
        · rw [if_neg e3, if_neg (by omega)]
  · funext a i
    by_cases e : n ≤ a ∧ a ≤ n + c
    · rw [if_pos e, if_pos (by omega), iL_no (all_lt (f := fun q : Nat × Nat × Int32 => q.1) h5 e.1)]
    · rw [if_neg e]
  · funext a i
    split <;> rfl
  · funext a i
    by_cases e : a = n
    · subst e
      rw [if_pos rfl, if_pos (by omega : a < a + 1 + c)]
      unfold rL
      rw [h3]
    · rw [if_neg e]
      by_cases e2 : n < a ∧ a ≤ n + c
      · rw [if_pos e2, if_pos (by omega), rL_no ?_ (all_lt (f := fun q : Nat × Nat × Nat => q.1) h4 (Nat.le_of_lt e2.1))]
        have := (h2 (a - n - 1) (by omega)).2
        rw [show n + 1 + (a - n - 1) = a by omega] at this
        exact this
      · rw [if_neg e2]
        (try dsimp only)
        by_cases e3 : a < n
        · rw [if_pos e3, if_pos (by omega)]
        · rw [if_neg e3, if_neg (by omega)]
theorem nAA_c {i y : Int32} {n' : Nat} (h : (decide (¬ i < 0) && (decide (i.toNatClampNeg ≤ 20000) && (decide (¬ y < 0) && (decide (y.toNatClampNeg ≤ 20000) && (decide (n' = n + 1 + i.toNatClampNeg) && okMM n j m i.toNatClampNeg y.toNatClampNeg z z'))))) = true) : nAA (cS L xs n j m z) i y = some (cS L xs n' j m z') := by
  simp only [Bool.and_eq_true, decide_eq_true_eq] at h
  obtain ⟨g1, g2, g3, g4, rfl, h⟩ := h
  obtain ⟨h0, h1⟩ := nM_c (L := L) (xs := xs) h
  exact (if_pos ⟨g1, g2, g3, g4, h0⟩).trans (congrArg some h1)
theorem find_take {α : Type} {l : List α} {p : α → Bool} {j : Nat} {e : α} (h : l[j]? = some e) (hn : (l.take j).all (fun q => !p q) = true) : (l.take (j + 1)).find? p = if p e = true then some e else none := by
  rw [List.take_add_one, h, List.find?_append, find_none2 hn]
  show [e].find? p = _
  rw [List.find?_cons]
  cases p e <;> rfl
theorem find_take2 {α : Type} {l : List α} {p : α → Bool} {j : Nat} {e : α} (h : l[j]? = some e) (hp : p e = false) : (l.take (j + 1)).find? p = (l.take j).find? p := by
  rw [List.take_add_one, h, List.find?_append]
  show ((l.take j).find? p).or ([e].find? p) = _
  rw [List.find?_cons, hp]
  cases (l.take j).find? p <;> rfl
def okR (j a k b : Nat) : Bool := decide (cC[j]? = some (a, k, b)) && (decide (rA.find? (fun q => q.1 == a) = none) && (cC.take j).all (fun q => !(q.1 == a && q.2.1 == k)))
theorem wR_c (ha : a < n) (h : okR j a k b = true) : wR (cS L xs n j m z) a k b = cS L xs n (j + 1) m z := by
  unfold okR at h
  simp only [Bool.and_eq_true, decide_eq_true_eq] at h
  obtain ⟨h1, h2, h3⟩ := h
  unfold wR cS
  refine Prod.ext rfl (Prod.ext rfl (Prod.ext rfl (Prod.ext rfl (Prod.ext ?_ rfl)))) <;> (try dsimp only)
  funext x i
  unfold va_up
  by_cases e : x = a
  · subst e
    rw [if_pos rfl, if_pos ha]
    by_cases e2 : i = k
    · subst e2
      rw [if_pos rfl]
      unfold rL
      rw [h2]
      (try dsimp only)
      rw [find_take h1 h3, if_pos (by simp)]
      rfl
    · rw [if_neg e2]
      (try dsimp only)
      rw [if_pos ha]
      unfold rL
      rw [h2]
      (try dsimp only)
      rw [find_take2 h1]
      have : ¬ k = i := fun h => e2 h.symm
      simp [this]
  · rw [if_neg e]
    (try dsimp only)
    by_cases e3 : x < n
    · rw [if_pos e3, if_pos e3]
      unfold rL
      split
      · rfl
      · rw [find_take2 h1]
        have : ¬ a = x := fun h => e h.symm
        simp [this]
    · rw [if_neg e3, if_neg e3]
theorem pR_c (h : (decide (a < n) && (decide ((kt a).1 = ci) && (decide (b < n) && okR j a k b))) = true) : pR (cS L xs n j m z) ci a k b = some (cS L xs n (j + 1) m z) := by
  simp only [Bool.and_eq_true, decide_eq_true_eq] at h
  obtain ⟨h1, h2, h3, h⟩ := h
  refine (if_pos ⟨⟨h1, ?_⟩, h3⟩).trans (congrArg some (wR_c h1 h))
  show (if a < n then kt a else xK L a).1 = ci
  rw [if_pos h1, h2]
theorem sR_c {i : Int32} (h : (decide ((kt a).1 = 24 ∨ (kt a).1 = 25) && (decide (a < n) && (decide (¬ (i < 0 ∨ (kt a).2 ≤ i.toNatClampNeg)) && (decide (b < n) && (decide ((kt b).1 = eK (kt a).1) && okR j a i.toNatClampNeg b))))) = true) : sR (cS L xs n j m z) a i b = some (cS L xs n (j + 1) m z) := by
  simp only [Bool.and_eq_true, decide_eq_true_eq] at h
  obtain ⟨h1, h2, h3, h4, h5, h⟩ := h
  have ka : mK (cS L xs n j m z) a = kt a := if_pos h2
  have kb : mK (cS L xs n j m z) b = kt b := if_pos h4
  unfold sR
  rw [ka, kb, if_pos ⟨h1, h2, h3, h4, h5⟩]
  exact congrArg some (wR_c h2 h)
theorem oR_c (h : (decide (a < n) && (decide ((kt a).1 = ci) && decide (rL j a k = some b))) = true) : oR (cS L xs n j m z) ci a k = some b := by
  simp only [Bool.and_eq_true, decide_eq_true_eq] at h
  obtain ⟨h1, h2, h3⟩ := h
  have ka : mK (cS L xs n j m z) a = kt a := if_pos h1
  unfold oR
  rw [ka, if_pos ⟨h1, h2⟩]
  show (if a < n then rL j a k else none) = _
  rw [if_pos h1, h3]
theorem upd_at {f : Nat → Int32} {k i : Nat} {x : Int32} : upd f k x i = if i = k then x else f i := rfl
theorem wI_c0 (ha : a < XB) (h : iL m a k = 0) : wI (cS L xs n j m z) a k 0 = cS L xs n j m z := by
  unfold wI wIs cS
  refine Prod.ext rfl (Prod.ext rfl (Prod.ext ?_ rfl)) <;> (try dsimp only)
  funext x i
  unfold va_up
  by_cases e : x = a
  · subst e
    rw [if_pos rfl, upd_at]
    by_cases e2 : i = k
    · subst e2; rw [if_pos rfl, if_pos ha, h]
    · rw [if_neg e2]
  · rw [if_neg e]
def okI (m a k : Nat) (x : Int32) : Bool := decide (iC[m]? = some (a, k, x)) && (iC.take m).all (fun q => !(q.1 == a && q.2.1 == k))
theorem wI_c1 {x : Int32} (ha : a < XB) (h : okI m a k x = true) : wI (cS L xs n j m z) a k x = cS L xs n j (m + 1) z := by
  unfold okI at h
  simp only [Bool.and_eq_true, decide_eq_true_eq] at h
  obtain ⟨h1, h3⟩ := h
  unfold wI wIs cS
  refine Prod.ext rfl (Prod.ext rfl (Prod.ext ?_ rfl)) <;> (try dsimp only)
  funext y i
  unfold va_up
  by_cases e : y = a
  · subst e
    rw [if_pos rfl, upd_at]
    by_cases e2 : i = k
    · subst e2
      rw [if_pos rfl, if_pos ha]
      unfold iL
      rw [find_take h1 h3, if_pos (by simp)]
      rfl
    · rw [if_neg e2]
      (try dsimp only)
      rw [if_pos ha, if_pos ha]
      unfold iL
      rw [find_take2 h1]
      have : ¬ k = i := fun h => e2 h.symm
      simp [this]
  · rw [if_neg e]
    (try dsimp only)
    by_cases e3 : y < XB
    · rw [if_pos e3, if_pos e3]
      unfold iL
      rw [find_take2 h1]
      have : ¬ a = y := fun h => e h.symm
      simp [this]
    · rw [if_neg e3, if_neg e3]
theorem pI_c0 (h : (decide (a < n) && (decide ((kt a).1 = ci) && (decide (a < XB) && decide (iL m a k = 0)))) = true) : pI (cS L xs n j m z) ci a k 0 = some (cS L xs n j m z) := by
  simp only [Bool.and_eq_true, decide_eq_true_eq] at h
  obtain ⟨h1, h2, h3, h⟩ := h
  have ka : mK (cS L xs n j m z) a = kt a := if_pos h1
  unfold pI
  rw [ka, if_pos ⟨h1, h2⟩, wI_c0 h3 h]
theorem pZ_c0 (h : (decide (a < n) && (decide ((kt a).1 = ci) && (decide (a < XB) && decide (iL m a k = 0)))) = true) : pZ (cS L xs n j m z) ci a k 0 = some (cS L xs n j m z) := by
  simp only [Bool.and_eq_true, decide_eq_true_eq] at h
  obtain ⟨h1, h2, h3, h⟩ := h
  have ka : mK (cS L xs n j m z) a = kt a := if_pos h1
  unfold pZ
  rw [ka, if_pos ⟨⟨h1, h2⟩, Or.inl rfl⟩, wI_c0 h3 h]
theorem pI_c1 {x : Int32} (h : (decide (a < n) && (decide ((kt a).1 = ci) && (decide (a < XB) && okI m a k x))) = true) : pI (cS L xs n j m z) ci a k x = some (cS L xs n j (m + 1) z) := by
  simp only [Bool.and_eq_true, decide_eq_true_eq] at h
  obtain ⟨h1, h2, h3, h⟩ := h
  have ka : mK (cS L xs n j m z) a = kt a := if_pos h1
  unfold pI
  rw [ka, if_pos ⟨h1, h2⟩, wI_c1 h3 h]
theorem pZ_c1 (h : (decide (a < n) && (decide ((kt a).1 = ci) && (decide (a < XB) && okI m a k 1))) = true) : pZ (cS L xs n j m z) ci a k 1 = some (cS L xs n j (m + 1) z) := by
  simp only [Bool.and_eq_true, decide_eq_true_eq] at h
  obtain ⟨h1, h2, h3, h⟩ := h
  have ka : mK (cS L xs n j m z) a = kt a := if_pos h1
  unfold pZ
  rw [ka, if_pos ⟨⟨h1, h2⟩, Or.inr rfl⟩, wI_c1 h3 h]
theorem sI_c {i x : Int32} (h : (decide ((kt a).1 = 20) && (decide (a < n) && (decide (¬ (i < 0 ∨ (kt a).2 ≤ i.toNatClampNeg)) && (decide (a < XB) && okI m a i.toNatClampNeg x)))) = true) : sI (cS L xs n j m z) a i x = some (cS L xs n j (m + 1) z) := by
  simp only [Bool.and_eq_true, decide_eq_true_eq] at h
  obtain ⟨h1, h2, h3, h4, h⟩ := h
  have ka : mK (cS L xs n j m z) a = kt a := if_pos h2
  unfold sI
  rw [ka, if_pos ⟨h1, h2, h3⟩, wI_c1 h4 h]
end CT
/-- the store when both objects stand -/
def s0 (xs : Nat → Int32) : mT := (fun a k => if a < XB then iL 9 a k else xI xs a k, fun _ _ => 0)
theorem u0_cS (L : Nat) (xs : Nat → Int32) : u0 L xs = cS L xs 0 0 0 0 := by
  unfold u0 cS
  refine Prod.ext rfl (Prod.ext ?_ (Prod.ext ?_ (Prod.ext rfl (Prod.ext ?_ rfl)))) <;> (try dsimp only)
  · funext a
    rw [if_neg (Nat.not_lt_zero _)]
  · funext a k
    by_cases h : a < XB
    · rw [if_pos h]
      unfold xI
      rw [if_neg (by omega), if_neg (by omega), if_neg (by omega)]
      rfl
    · rw [if_neg h]
  · funext a i
    rw [if_neg (Nat.not_lt_zero _)]
def fnd (l : List (Nat × Nat × Nat)) (a i : Nat) : Option (Nat × Nat × Nat) := l.find? (fun q => q.1 == a && q.2.1 == i)
theorem fnd_key {l : List (Nat × Nat × Nat)} {a i : Nat} {q : Nat × Nat × Nat} (h : fnd l a i = some q) : q.1 = a ∧ q.2.1 = i ∧ q ∈ l := by
  have h1 := List.find?_some h
  simp only [Bool.and_eq_true, beq_iff_eq] at h1
  exact ⟨h1.1, h1.2, List.mem_of_find?_eq_some h⟩
theorem fnd_1 : ∀ q ∈ cC.take 138, fnd rT q.1 q.2.1 = some q := by decide +kernel
theorem fnd_2 : ∀ q ∈ rT, fnd (cC.take 138) q.1 q.2.1 = some q := by decide +kernel
theorem cC_rT {a i : Nat} : (cC.take 138).find? (fun q => q.1 == a && q.2.1 == i) = rT.find? (fun q => q.1 == a && q.2.1 == i) := by
  show fnd (cC.take 138) a i = fnd rT a i
  cases h : fnd rT a i with
  | none =>
    cases h2 : fnd (cC.take 138) a i with
    | none => rfl
    | some q =>
      obtain ⟨e1, e2, e3⟩ := fnd_key h2
      have := fnd_1 q e3
      rw [e1, e2, h] at this
      cases this
  | some q =>
    obtain ⟨e1, e2, e3⟩ := fnd_key h
    have := fnd_2 q e3
    rw [e1, e2] at this
    exact this
theorem rL_rt (a i : Nat) : (if a < 317 then rL 138 a i else none) = rt a i := by
  by_cases h : a < 317
  · rw [if_pos h]
    unfold rL rt
    cases hq : rA.find? (fun q => q.1 == a) with
    | some q => rfl
    | none =>
      (try dsimp only)
      rw [cC_rT]
  · rw [if_neg h]
    unfold rt
    rw [find_none2]
    · (try dsimp only)
      rw [find_none2]
      · rfl
      · have := (by decide +kernel : rT.all (fun q => decide (q.1 < 317)) = true)
        refine List.all_eq_true.mpr (fun x hx => ?_)
        have := of_decide_eq_true (List.all_eq_true.mp this x hx)
        have e : (x.1 == a) = false := by simp; omega
        rw [e, Bool.false_and]; rfl
    · have := (by decide +kernel : rA.all (fun q => decide (q.1 < 317)) = true)
      refine List.all_eq_true.mpr (fun x hx => ?_)
      have := of_decide_eq_true (List.all_eq_true.mp this x hx)
      have e : (x.1 == a) = false := by simp; omega
      rw [e]; rfl
theorem cS_uS (L : Nat) (xs : Nat → Int32) : cS L xs 317 138 9 20374 = uS L (s0 xs) := by
  unfold cS uS s0
  refine Prod.ext rfl (Prod.ext rfl (Prod.ext rfl (Prod.ext rfl (Prod.ext ?_ rfl)))) <;> (try dsimp only)
  funext a i
  exact rL_rt a i
theorem C_0_3 : mm_call 0 3 = some (10, 0) := by decide +kernel
theorem C_10_3 : mm_call 10 3 = some (10, 0) := by decide +kernel
theorem C_11_12 : mm_call 11 12 = some (2, 182) := by decide +kernel
theorem C_11_9 : mm_call 11 9 = some (2, 90) := by decide +kernel
theorem C_1_3 : mm_call 1 3 = some (10, 0) := by decide +kernel
theorem C_2_3 : mm_call 2 3 = some (10, 0) := by decide +kernel
theorem C_3_11 : mm_call 3 11 = some (3, 33) := by decide +kernel
theorem C_3_3 : mm_call 3 3 = some (10, 0) := by decide +kernel
theorem C_4_3 : mm_call 4 3 = some (10, 0) := by decide +kernel
theorem C_5_3 : mm_call 5 3 = some (10, 0) := by decide +kernel
theorem C_6_3 : mm_call 6 3 = some (10, 0) := by decide +kernel
theorem C_7_3 : mm_call 7 3 = some (10, 0) := by decide +kernel
theorem C_8_3 : mm_call 8 3 = some (10, 0) := by decide +kernel
theorem C_9_1 : mm_call 9 1 = some (10, 0) := by decide +kernel
theorem C_9_18 : mm_call 9 18 = some (2, 47) := by decide +kernel
theorem C_9_27 : mm_call 9 27 = some (3, 33) := by decide +kernel
theorem C_9_34 : mm_call 9 34 = some (2, 0) := by decide +kernel
theorem C_9_46 : mm_call 9 46 = some (2, 82) := by decide +kernel
theorem C_9_55 : mm_call 9 55 = some (2, 72) := by decide +kernel
theorem C_9_62 : mm_call 9 62 = some (2, 79) := by decide +kernel
theorem C_9_69 : mm_call 9 69 = some (2, 28) := by decide +kernel
theorem C_9_88 : mm_call 9 88 = some (3, 65) := by decide +kernel
theorem C_9_9 : mm_call 9 9 = some (3, 88) := by decide +kernel
theorem D_0 : mD 0 0 prog_2_method_1_code 2 (none) := ⟨rfl, rfl, rfl, rfl⟩
theorem D_182 : mD 182 10 prog_12_method_1_code 1 (none) := ⟨rfl, rfl, rfl, rfl⟩
theorem D_28 : mD 28 1 prog_3_method_1_code 3 (none) := ⟨rfl, rfl, rfl, rfl⟩
theorem D_33 : mD 33 2 prog_4_method_1_code 1 (none) := ⟨rfl, rfl, rfl, rfl⟩
theorem D_47 : mD 47 3 prog_5_method_1_code 2 (none) := ⟨rfl, rfl, rfl, rfl⟩
theorem D_65 : mD 65 4 prog_6_method_1_code 1 (none) := ⟨rfl, rfl, rfl, rfl⟩
theorem D_72 : mD 72 5 prog_7_method_1_code 3 (none) := ⟨rfl, rfl, rfl, rfl⟩
theorem D_79 : mD 79 6 prog_8_method_1_code 3 (none) := ⟨rfl, rfl, rfl, rfl⟩
theorem D_82 : mD 82 7 prog_9_method_1_code 3 (none) := ⟨rfl, rfl, rfl, rfl⟩
theorem D_88 : mD 88 8 prog_10_method_1_code 1 (none) := ⟨rfl, rfl, rfl, rfl⟩
theorem D_90 : mD 90 9 prog_1_method_1_code 2 (none) := ⟨rfl, rfl, rfl, rfl⟩
theorem E_0 : mE1 0 0 2 2 := ⟨rfl, rfl, rfl⟩
theorem E_182 : mE1 182 10 1 1 := ⟨rfl, rfl, rfl⟩
theorem E_28 : mE1 28 1 3 3 := ⟨rfl, rfl, rfl⟩
theorem E_33 : mE1 33 2 1 1 := ⟨rfl, rfl, rfl⟩
theorem E_47 : mE1 47 3 2 2 := ⟨rfl, rfl, rfl⟩
theorem E_65 : mE1 65 4 1 1 := ⟨rfl, rfl, rfl⟩
theorem E_72 : mE1 72 5 3 3 := ⟨rfl, rfl, rfl⟩
theorem E_79 : mE1 79 6 3 3 := ⟨rfl, rfl, rfl⟩
theorem E_82 : mE1 82 7 3 3 := ⟨rfl, rfl, rfl⟩
theorem E_88 : mE1 88 8 1 1 := ⟨rfl, rfl, rfl⟩
theorem E_90 : mE1 90 9 1 2 := ⟨rfl, rfl, rfl⟩
set_option maxRecDepth 8000 in
theorem ct_1 (L : Nat) (xs : Nat → Int32) {d : Nat} (hd : 1 ≤ d) : Ev d 88 0 [(0, .ref 1)] [] (cS L xs 2 0 0 14) (none, (cS L xs 3 1 0 614)) := by
  obtain ⟨d, rfl⟩ : ∃ e, d = e + 1 := ⟨d - 1, by omega⟩
  refine Ev.seg D_88 [(.aload_n 0, 1)] (by decide +kernel) (j := 0) (pc' := 1) (lv' := [(0, .ref 1)]) (st' := [.ref 1]) rfl ?_
  refine Ev.obj D_88 (by decide +kernel) (Nat.succ_pos _) C_8_3 (Nat.le_of_ble_eq_true rfl) (Nat.le_of_ble_eq_true rfl) ?_
  show Ev (d + 1) 88 4 [(0, .ref 1)] [] (cS L xs 2 0 0 14) _
  refine Ev.seg D_88 [(.aload_n 0, 1), (.sipush 600, 3)] (by decide +kernel) (j := 0) (pc' := 8) (lv' := [(0, .ref 1)]) (st' := [.int (600 : Int32), .ref 1]) rfl ?_
  refine Ev.newa D_88 (t := .int) (by decide +kernel) (kd := 20) (by decide) (w := (cS L xs 3 0 0 614)) (nA_c (by decide +kernel)) ?_
  show Ev (d + 1) 88 10 [(0, .ref 1)] [.ref 2, .ref 1] (cS L xs 3 0 0 614) _
  refine Ev.putR D_88 (by decide +kernel) F_8_9 (Or.inr ⟨by decide +kernel, rfl⟩) T_8_0 (pR_c (by decide +kernel)) ?_
  show Ev (d + 1) 88 13 [(0, .ref 1)] [] (cS L xs 3 1 0 614) _
  refine Ev.seg D_88 [(.aload_n 0, 1), (.iconst 0, 1)] (by decide +kernel) (j := 0) (pc' := 15) (lv' := [(0, .ref 1)]) (st' := [.int (0 : Int32), .ref 1]) rfl ?_
  refine Ev.putI D_88 (by decide +kernel) F_8_15 N_8_1 T_8_1 (pI_c0 (by decide +kernel)) ?_
  show Ev (d + 1) 88 18 [(0, .ref 1)] [] (cS L xs 3 1 0 614) _
  exact Ev.vret D_88 (by decide +kernel)
set_option maxRecDepth 8000 in
theorem ct_2 (L : Nat) (xs : Nat → Int32) {d : Nat} (hd : 1 ≤ d) : Ev d 33 0 [(0, .ref 4)] [] (cS L xs 5 2 0 642) (none, (cS L xs 16 13 0 772)) := by
  obtain ⟨d, rfl⟩ : ∃ e, d = e + 1 := ⟨d - 1, by omega⟩
  refine Ev.seg D_33 [(.aload_n 0, 1)] (by decide +kernel) (j := 0) (pc' := 1) (lv' := [(0, .ref 4)]) (st' := [.ref 4]) rfl ?_
  refine Ev.obj D_33 (by decide +kernel) (Nat.succ_pos _) C_2_3 (Nat.le_of_ble_eq_true rfl) (Nat.le_of_ble_eq_true rfl) ?_
  show Ev (d + 1) 33 4 [(0, .ref 4)] [] (cS L xs 5 2 0 642) _
  refine Ev.seg D_33 [(.aload_n 0, 1), (.iconst 0, 1)] (by decide +kernel) (j := 0) (pc' := 6) (lv' := [(0, .ref 4)]) (st' := [.int (0 : Int32), .ref 4]) rfl ?_
  refine Ev.putI D_33 (by decide +kernel) F_2_9 N_2_0 T_2_0 (pI_c0 (by decide +kernel)) ?_
  show Ev (d + 1) 33 9 [(0, .ref 4)] [] (cS L xs 5 2 0 642) _
  refine Ev.seg D_33 [(.aload_n 0, 1), (.iconst 0, 1)] (by decide +kernel) (j := 0) (pc' := 11) (lv' := [(0, .ref 4)]) (st' := [.int (0 : Int32), .ref 4]) rfl ?_
  refine Ev.putI D_33 (by decide +kernel) F_2_15 N_2_1 T_2_1 (pI_c0 (by decide +kernel)) ?_
  show Ev (d + 1) 33 14 [(0, .ref 4)] [] (cS L xs 5 2 0 642) _
  refine Ev.seg D_33 [(.aload_n 0, 1), (.iconst 0, 1)] (by decide +kernel) (j := 0) (pc' := 16) (lv' := [(0, .ref 4)]) (st' := [.int (0 : Int32), .ref 4]) rfl ?_
  refine Ev.putI D_33 (by decide +kernel) F_2_18 N_2_2 T_2_2 (pI_c0 (by decide +kernel)) ?_
  show Ev (d + 1) 33 19 [(0, .ref 4)] [] (cS L xs 5 2 0 642) _
  refine Ev.seg D_33 [(.aload_n 0, 1), (.iconst 0, 1)] (by decide +kernel) (j := 0) (pc' := 21) (lv' := [(0, .ref 4)]) (st' := [.int (0 : Int32), .ref 4]) rfl ?_
  refine Ev.putI D_33 (by decide +kernel) F_2_21 N_2_3 T_2_3 (pI_c0 (by decide +kernel)) ?_
  show Ev (d + 1) 33 24 [(0, .ref 4)] [] (cS L xs 5 2 0 642) _
  refine Ev.seg D_33 [(.aload_n 0, 1), (.iconst 0, 1)] (by decide +kernel) (j := 0) (pc' := 26) (lv' := [(0, .ref 4)]) (st' := [.int (0 : Int32), .ref 4]) rfl ?_
  refine Ev.putI D_33 (by decide +kernel) F_2_24 N_2_4 T_2_4 (pI_c0 (by decide +kernel)) ?_
  show Ev (d + 1) 33 29 [(0, .ref 4)] [] (cS L xs 5 2 0 642) _
  refine Ev.seg D_33 [(.aload_n 0, 1), (.iconst 0, 1)] (by decide +kernel) (j := 0) (pc' := 31) (lv' := [(0, .ref 4)]) (st' := [.int (0 : Int32), .ref 4]) rfl ?_
  refine Ev.putI D_33 (by decide +kernel) F_2_27 N_2_5 T_2_5 (pI_c0 (by decide +kernel)) ?_
  show Ev (d + 1) 33 34 [(0, .ref 4)] [] (cS L xs 5 2 0 642) _
  refine Ev.seg D_33 [(.aload_n 0, 1), (.iconst 0, 1)] (by decide +kernel) (j := 0) (pc' := 36) (lv' := [(0, .ref 4)]) (st' := [.int (0 : Int32), .ref 4]) rfl ?_
  refine Ev.putI D_33 (by decide +kernel) F_2_30 N_2_6 T_2_6 (pI_c0 (by decide +kernel)) ?_
  show Ev (d + 1) 33 39 [(0, .ref 4)] [] (cS L xs 5 2 0 642) _
  refine Ev.seg D_33 [(.aload_n 0, 1), (.iconst 0, 1)] (by decide +kernel) (j := 0) (pc' := 41) (lv' := [(0, .ref 4)]) (st' := [.int (0 : Int32), .ref 4]) rfl ?_
  refine Ev.putI D_33 (by decide +kernel) F_2_33 N_2_7 T_2_7 (pI_c0 (by decide +kernel)) ?_
  show Ev (d + 1) 33 44 [(0, .ref 4)] [] (cS L xs 5 2 0 642) _
  refine Ev.seg D_33 [(.aload_n 0, 1), (.iconst 0, 1)] (by decide +kernel) (j := 0) (pc' := 46) (lv' := [(0, .ref 4)]) (st' := [.int (0 : Int32), .ref 4]) rfl ?_
  refine Ev.putI D_33 (by decide +kernel) F_2_36 N_2_8 T_2_8 (pI_c0 (by decide +kernel)) ?_
  show Ev (d + 1) 33 49 [(0, .ref 4)] [] (cS L xs 5 2 0 642) _
  refine Ev.seg D_33 [(.aload_n 0, 1), (.iconst 5, 1)] (by decide +kernel) (j := 0) (pc' := 51) (lv' := [(0, .ref 4)]) (st' := [.int (5 : Int32), .ref 4]) rfl ?_
  refine Ev.newa D_33 (t := .int) (by decide +kernel) (kd := 20) (by decide) (w := (cS L xs 6 2 0 647)) (nA_c (by decide +kernel)) ?_
  show Ev (d + 1) 33 53 [(0, .ref 4)] [.ref 5, .ref 4] (cS L xs 6 2 0 647) _
  refine Ev.putR D_33 (by decide +kernel) F_2_39 (Or.inr ⟨by decide +kernel, rfl⟩) T_2_9 (pR_c (by decide +kernel)) ?_
  show Ev (d + 1) 33 56 [(0, .ref 4)] [] (cS L xs 6 3 0 647) _
  refine Ev.seg D_33 [(.aload_n 0, 1), (.iconst 5, 1)] (by decide +kernel) (j := 0) (pc' := 58) (lv' := [(0, .ref 4)]) (st' := [.int (5 : Int32), .ref 4]) rfl ?_
  refine Ev.newa D_33 (t := .int) (by decide +kernel) (kd := 20) (by decide) (w := (cS L xs 7 3 0 652)) (nA_c (by decide +kernel)) ?_
  show Ev (d + 1) 33 60 [(0, .ref 4)] [.ref 6, .ref 4] (cS L xs 7 3 0 652) _
  refine Ev.putR D_33 (by decide +kernel) F_2_43 (Or.inr ⟨by decide +kernel, rfl⟩) T_2_10 (pR_c (by decide +kernel)) ?_
  show Ev (d + 1) 33 63 [(0, .ref 4)] [] (cS L xs 7 4 0 652) _
  refine Ev.seg D_33 [(.aload_n 0, 1), (.iconst 5, 1)] (by decide +kernel) (j := 0) (pc' := 65) (lv' := [(0, .ref 4)]) (st' := [.int (5 : Int32), .ref 4]) rfl ?_
  refine Ev.newa D_33 (t := .int) (by decide +kernel) (kd := 20) (by decide) (w := (cS L xs 8 4 0 657)) (nA_c (by decide +kernel)) ?_
  show Ev (d + 1) 33 67 [(0, .ref 4)] [.ref 7, .ref 4] (cS L xs 8 4 0 657) _
  refine Ev.putR D_33 (by decide +kernel) F_2_46 (Or.inr ⟨by decide +kernel, rfl⟩) T_2_11 (pR_c (by decide +kernel)) ?_
  show Ev (d + 1) 33 70 [(0, .ref 4)] [] (cS L xs 8 5 0 657) _
  refine Ev.seg D_33 [(.aload_n 0, 1), (.iconst 5, 1)] (by decide +kernel) (j := 0) (pc' := 72) (lv' := [(0, .ref 4)]) (st' := [.int (5 : Int32), .ref 4]) rfl ?_
  refine Ev.newa D_33 (t := .int) (by decide +kernel) (kd := 20) (by decide) (w := (cS L xs 9 5 0 662)) (nA_c (by decide +kernel)) ?_
  show Ev (d + 1) 33 74 [(0, .ref 4)] [.ref 8, .ref 4] (cS L xs 9 5 0 662) _
  refine Ev.putR D_33 (by decide +kernel) F_2_49 (Or.inr ⟨by decide +kernel, rfl⟩) T_2_12 (pR_c (by decide +kernel)) ?_
  show Ev (d + 1) 33 77 [(0, .ref 4)] [] (cS L xs 9 6 0 662) _
  refine Ev.seg D_33 [(.aload_n 0, 1), (.iconst 5, 1)] (by decide +kernel) (j := 0) (pc' := 79) (lv' := [(0, .ref 4)]) (st' := [.int (5 : Int32), .ref 4]) rfl ?_
  refine Ev.newa D_33 (t := .int) (by decide +kernel) (kd := 20) (by decide) (w := (cS L xs 10 6 0 667)) (nA_c (by decide +kernel)) ?_
  show Ev (d + 1) 33 81 [(0, .ref 4)] [.ref 9, .ref 4] (cS L xs 10 6 0 667) _
  refine Ev.putR D_33 (by decide +kernel) F_2_52 (Or.inr ⟨by decide +kernel, rfl⟩) T_2_13 (pR_c (by decide +kernel)) ?_
  show Ev (d + 1) 33 84 [(0, .ref 4)] [] (cS L xs 10 7 0 667) _
  refine Ev.seg D_33 [(.aload_n 0, 1), (.iconst 5, 1)] (by decide +kernel) (j := 0) (pc' := 86) (lv' := [(0, .ref 4)]) (st' := [.int (5 : Int32), .ref 4]) rfl ?_
  refine Ev.newa D_33 (t := .int) (by decide +kernel) (kd := 20) (by decide) (w := (cS L xs 11 7 0 672)) (nA_c (by decide +kernel)) ?_
  show Ev (d + 1) 33 88 [(0, .ref 4)] [.ref 10, .ref 4] (cS L xs 11 7 0 672) _
  refine Ev.putR D_33 (by decide +kernel) F_2_55 (Or.inr ⟨by decide +kernel, rfl⟩) T_2_14 (pR_c (by decide +kernel)) ?_
  show Ev (d + 1) 33 91 [(0, .ref 4)] [] (cS L xs 11 8 0 672) _
  refine Ev.seg D_33 [(.aload_n 0, 1), (.iconst 5, 1)] (by decide +kernel) (j := 0) (pc' := 93) (lv' := [(0, .ref 4)]) (st' := [.int (5 : Int32), .ref 4]) rfl ?_
  refine Ev.newa D_33 (t := .int) (by decide +kernel) (kd := 20) (by decide) (w := (cS L xs 12 8 0 677)) (nA_c (by decide +kernel)) ?_
  show Ev (d + 1) 33 95 [(0, .ref 4)] [.ref 11, .ref 4] (cS L xs 12 8 0 677) _
  refine Ev.putR D_33 (by decide +kernel) F_2_58 (Or.inr ⟨by decide +kernel, rfl⟩) T_2_15 (pR_c (by decide +kernel)) ?_
  show Ev (d + 1) 33 98 [(0, .ref 4)] [] (cS L xs 12 9 0 677) _
  refine Ev.seg D_33 [(.aload_n 0, 1), (.iconst 5, 1)] (by decide +kernel) (j := 0) (pc' := 100) (lv' := [(0, .ref 4)]) (st' := [.int (5 : Int32), .ref 4]) rfl ?_
  refine Ev.newa D_33 (t := .int) (by decide +kernel) (kd := 20) (by decide) (w := (cS L xs 13 9 0 682)) (nA_c (by decide +kernel)) ?_
  show Ev (d + 1) 33 102 [(0, .ref 4)] [.ref 12, .ref 4] (cS L xs 13 9 0 682) _
  refine Ev.putR D_33 (by decide +kernel) F_2_61 (Or.inr ⟨by decide +kernel, rfl⟩) T_2_16 (pR_c (by decide +kernel)) ?_
  show Ev (d + 1) 33 105 [(0, .ref 4)] [] (cS L xs 13 10 0 682) _
  refine Ev.seg D_33 [(.aload_n 0, 1), (.bipush 30, 2)] (by decide +kernel) (j := 0) (pc' := 108) (lv' := [(0, .ref 4)]) (st' := [.int (30 : Int32), .ref 4]) rfl ?_
  refine Ev.newa D_33 (t := .int) (by decide +kernel) (kd := 20) (by decide) (w := (cS L xs 14 10 0 712)) (nA_c (by decide +kernel)) ?_
  show Ev (d + 1) 33 110 [(0, .ref 4)] [.ref 13, .ref 4] (cS L xs 14 10 0 712) _
  refine Ev.putR D_33 (by decide +kernel) F_2_64 (Or.inr ⟨by decide +kernel, rfl⟩) T_2_17 (pR_c (by decide +kernel)) ?_
  show Ev (d + 1) 33 113 [(0, .ref 4)] [] (cS L xs 14 11 0 712) _
  refine Ev.seg D_33 [(.aload_n 0, 1), (.bipush 30, 2)] (by decide +kernel) (j := 0) (pc' := 116) (lv' := [(0, .ref 4)]) (st' := [.int (30 : Int32), .ref 4]) rfl ?_
  refine Ev.newa D_33 (t := .int) (by decide +kernel) (kd := 20) (by decide) (w := (cS L xs 15 11 0 742)) (nA_c (by decide +kernel)) ?_
  show Ev (d + 1) 33 118 [(0, .ref 4)] [.ref 14, .ref 4] (cS L xs 15 11 0 742) _
  refine Ev.putR D_33 (by decide +kernel) F_2_67 (Or.inr ⟨by decide +kernel, rfl⟩) T_2_18 (pR_c (by decide +kernel)) ?_
  show Ev (d + 1) 33 121 [(0, .ref 4)] [] (cS L xs 15 12 0 742) _
  refine Ev.seg D_33 [(.aload_n 0, 1), (.bipush 30, 2)] (by decide +kernel) (j := 0) (pc' := 124) (lv' := [(0, .ref 4)]) (st' := [.int (30 : Int32), .ref 4]) rfl ?_
  refine Ev.newa D_33 (t := .int) (by decide +kernel) (kd := 20) (by decide) (w := (cS L xs 16 12 0 772)) (nA_c (by decide +kernel)) ?_
  show Ev (d + 1) 33 126 [(0, .ref 4)] [.ref 15, .ref 4] (cS L xs 16 12 0 772) _
  refine Ev.putR D_33 (by decide +kernel) F_2_70 (Or.inr ⟨by decide +kernel, rfl⟩) T_2_19 (pR_c (by decide +kernel)) ?_
  show Ev (d + 1) 33 129 [(0, .ref 4)] [] (cS L xs 16 13 0 772) _
  exact Ev.vret D_33 (by decide +kernel)
set_option maxRecDepth 8000 in
theorem ct_3 (L : Nat) (xs : Nat → Int32) {d : Nat} (hd : 2 ≤ d) : Ev d 47 0 [(0, .ref 3), (1, .ref 1)] [] (cS L xs 4 2 0 622) (none, (cS L xs 16 15 1 772)) := by
  obtain ⟨d, rfl⟩ : ∃ e, d = e + 1 := ⟨d - 1, by omega⟩
  refine Ev.seg D_47 [(.aload_n 0, 1)] (by decide +kernel) (j := 0) (pc' := 1) (lv' := [(0, .ref 3), (1, .ref 1)]) (st' := [.ref 3]) rfl ?_
  refine Ev.obj D_47 (by decide +kernel) (Nat.succ_pos _) C_3_3 (Nat.le_of_ble_eq_true rfl) (Nat.le_of_ble_eq_true rfl) ?_
  show Ev (d + 1) 47 4 [(0, .ref 3), (1, .ref 1)] [] (cS L xs 4 2 0 622) _
  refine Ev.seg D_47 [(.aload_n 0, 1)] (by decide +kernel) (j := 0) (pc' := 5) (lv' := [(0, .ref 3), (1, .ref 1)]) (st' := [.ref 3]) rfl ?_
  refine Ev.new D_47 (i := 9) (by decide +kernel) (ci := 2) (by decide +kernel) (by decide) (w := (cS L xs 5 2 0 642)) (nO_c (by decide +kernel)) ?_
  show Ev (d + 1) 47 8 [(0, .ref 3), (1, .ref 1)] [.ref 4, .ref 3] (cS L xs 5 2 0 642) _
  refine Ev.seg D_47 [(.dup, 1)] (by decide +kernel) (j := 0) (pc' := 9) (lv' := [(0, .ref 3), (1, .ref 1)]) (st' := [.ref 4, .ref 4, .ref 3]) rfl ?_
  refine Ev.calli D_47 E_33 (by decide +kernel) (Or.inr C_3_11) 4 [] (r := [.ref 4, .ref 3]) rfl rfl (Nat.le_of_ble_eq_true rfl) (Nat.le_of_ble_eq_true rfl) (ct_2 L xs (by omega)) ?_
  show Ev (d + 1) 47 12 [(0, .ref 3), (1, .ref 1)] [.ref 4, .ref 3] (cS L xs 16 13 0 772) _
  refine Ev.putR D_47 (by decide +kernel) F_3_12 (Or.inr ⟨by decide +kernel, rfl⟩) T_3_1 (pR_c (by decide +kernel)) ?_
  show Ev (d + 1) 47 15 [(0, .ref 3), (1, .ref 1)] [] (cS L xs 16 14 0 772) _
  refine Ev.seg D_47 [(.aload_n 0, 1), (.iconst 0, 1)] (by decide +kernel) (j := 0) (pc' := 17) (lv' := [(0, .ref 3), (1, .ref 1)]) (st' := [.int (0 : Int32), .ref 3]) rfl ?_
  refine Ev.putI D_47 (by decide +kernel) F_3_18 N_3_2 T_3_2 (pI_c0 (by decide +kernel)) ?_
  show Ev (d + 1) 47 20 [(0, .ref 3), (1, .ref 1)] [] (cS L xs 16 14 0 772) _
  refine Ev.seg D_47 [(.aload_n 0, 1), (.iconst (-1), 1)] (by decide +kernel) (j := 0) (pc' := 22) (lv' := [(0, .ref 3), (1, .ref 1)]) (st' := [.int (-1 : Int32), .ref 3]) rfl ?_
  refine Ev.putI D_47 (by decide +kernel) F_3_22 N_3_3 T_3_3 (pI_c1 (by decide +kernel)) ?_
  show Ev (d + 1) 47 25 [(0, .ref 3), (1, .ref 1)] [] (cS L xs 16 14 1 772) _
  refine Ev.seg D_47 [(.aload_n 0, 1), (.iconst 0, 1)] (by decide +kernel) (j := 0) (pc' := 27) (lv' := [(0, .ref 3), (1, .ref 1)]) (st' := [.int (0 : Int32), .ref 3]) rfl ?_
  refine Ev.putI D_47 (by decide +kernel) F_3_25 N_3_4 T_3_4 (pI_c0 (by decide +kernel)) ?_
  show Ev (d + 1) 47 30 [(0, .ref 3), (1, .ref 1)] [] (cS L xs 16 14 1 772) _
  refine Ev.seg D_47 [(.aload_n 0, 1), (.iconst 0, 1)] (by decide +kernel) (j := 0) (pc' := 32) (lv' := [(0, .ref 3), (1, .ref 1)]) (st' := [.int (0 : Int32), .ref 3]) rfl ?_
  refine Ev.putI D_47 (by decide +kernel) F_3_28 N_3_5 T_3_5 (pI_c0 (by decide +kernel)) ?_
  show Ev (d + 1) 47 35 [(0, .ref 3), (1, .ref 1)] [] (cS L xs 16 14 1 772) _
  refine Ev.seg D_47 [(.aload_n 0, 1), (.iconst 0, 1)] (by decide +kernel) (j := 0) (pc' := 37) (lv' := [(0, .ref 3), (1, .ref 1)]) (st' := [.int (0 : Int32), .ref 3]) rfl ?_
  refine Ev.putI D_47 (by decide +kernel) F_3_31 N_3_6 T_3_6 (pI_c0 (by decide +kernel)) ?_
  show Ev (d + 1) 47 40 [(0, .ref 3), (1, .ref 1)] [] (cS L xs 16 14 1 772) _
  refine Ev.seg D_47 [(.aload_n 0, 1), (.iconst 0, 1)] (by decide +kernel) (j := 0) (pc' := 42) (lv' := [(0, .ref 3), (1, .ref 1)]) (st' := [.int (0 : Int32), .ref 3]) rfl ?_
  refine Ev.putI D_47 (by decide +kernel) F_3_34 N_3_7 T_3_7 (pI_c0 (by decide +kernel)) ?_
  show Ev (d + 1) 47 45 [(0, .ref 3), (1, .ref 1)] [] (cS L xs 16 14 1 772) _
  refine Ev.seg D_47 [(.aload_n 0, 1), (.aload_n 1, 1)] (by decide +kernel) (j := 0) (pc' := 47) (lv' := [(0, .ref 3), (1, .ref 1)]) (st' := [.ref 1, .ref 3]) rfl ?_
  refine Ev.putR D_47 (by decide +kernel) F_3_37 (Or.inr ⟨by decide +kernel, rfl⟩) T_3_0 (pR_c (by decide +kernel)) ?_
  show Ev (d + 1) 47 50 [(0, .ref 3), (1, .ref 1)] [] (cS L xs 16 15 1 772) _
  exact Ev.vret D_47 (by decide +kernel)
set_option maxRecDepth 8000 in
theorem ct_4 (L : Nat) (xs : Nat → Int32) {d : Nat} (hd : 1 ≤ d) : Ev d 33 0 [(0, .ref 16)] [] (cS L xs 17 16 1 792) (none, (cS L xs 28 27 1 922)) := by
  obtain ⟨d, rfl⟩ : ∃ e, d = e + 1 := ⟨d - 1, by omega⟩
  refine Ev.seg D_33 [(.aload_n 0, 1)] (by decide +kernel) (j := 0) (pc' := 1) (lv' := [(0, .ref 16)]) (st' := [.ref 16]) rfl ?_
  refine Ev.obj D_33 (by decide +kernel) (Nat.succ_pos _) C_2_3 (Nat.le_of_ble_eq_true rfl) (Nat.le_of_ble_eq_true rfl) ?_
  show Ev (d + 1) 33 4 [(0, .ref 16)] [] (cS L xs 17 16 1 792) _
  refine Ev.seg D_33 [(.aload_n 0, 1), (.iconst 0, 1)] (by decide +kernel) (j := 0) (pc' := 6) (lv' := [(0, .ref 16)]) (st' := [.int (0 : Int32), .ref 16]) rfl ?_
  refine Ev.putI D_33 (by decide +kernel) F_2_9 N_2_0 T_2_0 (pI_c0 (by decide +kernel)) ?_
  show Ev (d + 1) 33 9 [(0, .ref 16)] [] (cS L xs 17 16 1 792) _
  refine Ev.seg D_33 [(.aload_n 0, 1), (.iconst 0, 1)] (by decide +kernel) (j := 0) (pc' := 11) (lv' := [(0, .ref 16)]) (st' := [.int (0 : Int32), .ref 16]) rfl ?_
  refine Ev.putI D_33 (by decide +kernel) F_2_15 N_2_1 T_2_1 (pI_c0 (by decide +kernel)) ?_
  show Ev (d + 1) 33 14 [(0, .ref 16)] [] (cS L xs 17 16 1 792) _
  refine Ev.seg D_33 [(.aload_n 0, 1), (.iconst 0, 1)] (by decide +kernel) (j := 0) (pc' := 16) (lv' := [(0, .ref 16)]) (st' := [.int (0 : Int32), .ref 16]) rfl ?_
  refine Ev.putI D_33 (by decide +kernel) F_2_18 N_2_2 T_2_2 (pI_c0 (by decide +kernel)) ?_
  show Ev (d + 1) 33 19 [(0, .ref 16)] [] (cS L xs 17 16 1 792) _
  refine Ev.seg D_33 [(.aload_n 0, 1), (.iconst 0, 1)] (by decide +kernel) (j := 0) (pc' := 21) (lv' := [(0, .ref 16)]) (st' := [.int (0 : Int32), .ref 16]) rfl ?_
  refine Ev.putI D_33 (by decide +kernel) F_2_21 N_2_3 T_2_3 (pI_c0 (by decide +kernel)) ?_
  show Ev (d + 1) 33 24 [(0, .ref 16)] [] (cS L xs 17 16 1 792) _
  refine Ev.seg D_33 [(.aload_n 0, 1), (.iconst 0, 1)] (by decide +kernel) (j := 0) (pc' := 26) (lv' := [(0, .ref 16)]) (st' := [.int (0 : Int32), .ref 16]) rfl ?_
  refine Ev.putI D_33 (by decide +kernel) F_2_24 N_2_4 T_2_4 (pI_c0 (by decide +kernel)) ?_
  show Ev (d + 1) 33 29 [(0, .ref 16)] [] (cS L xs 17 16 1 792) _
  refine Ev.seg D_33 [(.aload_n 0, 1), (.iconst 0, 1)] (by decide +kernel) (j := 0) (pc' := 31) (lv' := [(0, .ref 16)]) (st' := [.int (0 : Int32), .ref 16]) rfl ?_
  refine Ev.putI D_33 (by decide +kernel) F_2_27 N_2_5 T_2_5 (pI_c0 (by decide +kernel)) ?_
  show Ev (d + 1) 33 34 [(0, .ref 16)] [] (cS L xs 17 16 1 792) _
  refine Ev.seg D_33 [(.aload_n 0, 1), (.iconst 0, 1)] (by decide +kernel) (j := 0) (pc' := 36) (lv' := [(0, .ref 16)]) (st' := [.int (0 : Int32), .ref 16]) rfl ?_
  refine Ev.putI D_33 (by decide +kernel) F_2_30 N_2_6 T_2_6 (pI_c0 (by decide +kernel)) ?_
  show Ev (d + 1) 33 39 [(0, .ref 16)] [] (cS L xs 17 16 1 792) _
  refine Ev.seg D_33 [(.aload_n 0, 1), (.iconst 0, 1)] (by decide +kernel) (j := 0) (pc' := 41) (lv' := [(0, .ref 16)]) (st' := [.int (0 : Int32), .ref 16]) rfl ?_
  refine Ev.putI D_33 (by decide +kernel) F_2_33 N_2_7 T_2_7 (pI_c0 (by decide +kernel)) ?_
  show Ev (d + 1) 33 44 [(0, .ref 16)] [] (cS L xs 17 16 1 792) _
  refine Ev.seg D_33 [(.aload_n 0, 1), (.iconst 0, 1)] (by decide +kernel) (j := 0) (pc' := 46) (lv' := [(0, .ref 16)]) (st' := [.int (0 : Int32), .ref 16]) rfl ?_
  refine Ev.putI D_33 (by decide +kernel) F_2_36 N_2_8 T_2_8 (pI_c0 (by decide +kernel)) ?_
  show Ev (d + 1) 33 49 [(0, .ref 16)] [] (cS L xs 17 16 1 792) _
  refine Ev.seg D_33 [(.aload_n 0, 1), (.iconst 5, 1)] (by decide +kernel) (j := 0) (pc' := 51) (lv' := [(0, .ref 16)]) (st' := [.int (5 : Int32), .ref 16]) rfl ?_
  refine Ev.newa D_33 (t := .int) (by decide +kernel) (kd := 20) (by decide) (w := (cS L xs 18 16 1 797)) (nA_c (by decide +kernel)) ?_
  show Ev (d + 1) 33 53 [(0, .ref 16)] [.ref 17, .ref 16] (cS L xs 18 16 1 797) _
  refine Ev.putR D_33 (by decide +kernel) F_2_39 (Or.inr ⟨by decide +kernel, rfl⟩) T_2_9 (pR_c (by decide +kernel)) ?_
  show Ev (d + 1) 33 56 [(0, .ref 16)] [] (cS L xs 18 17 1 797) _
  refine Ev.seg D_33 [(.aload_n 0, 1), (.iconst 5, 1)] (by decide +kernel) (j := 0) (pc' := 58) (lv' := [(0, .ref 16)]) (st' := [.int (5 : Int32), .ref 16]) rfl ?_
  refine Ev.newa D_33 (t := .int) (by decide +kernel) (kd := 20) (by decide) (w := (cS L xs 19 17 1 802)) (nA_c (by decide +kernel)) ?_
  show Ev (d + 1) 33 60 [(0, .ref 16)] [.ref 18, .ref 16] (cS L xs 19 17 1 802) _
  refine Ev.putR D_33 (by decide +kernel) F_2_43 (Or.inr ⟨by decide +kernel, rfl⟩) T_2_10 (pR_c (by decide +kernel)) ?_
  show Ev (d + 1) 33 63 [(0, .ref 16)] [] (cS L xs 19 18 1 802) _
  refine Ev.seg D_33 [(.aload_n 0, 1), (.iconst 5, 1)] (by decide +kernel) (j := 0) (pc' := 65) (lv' := [(0, .ref 16)]) (st' := [.int (5 : Int32), .ref 16]) rfl ?_
  refine Ev.newa D_33 (t := .int) (by decide +kernel) (kd := 20) (by decide) (w := (cS L xs 20 18 1 807)) (nA_c (by decide +kernel)) ?_
  show Ev (d + 1) 33 67 [(0, .ref 16)] [.ref 19, .ref 16] (cS L xs 20 18 1 807) _
  refine Ev.putR D_33 (by decide +kernel) F_2_46 (Or.inr ⟨by decide +kernel, rfl⟩) T_2_11 (pR_c (by decide +kernel)) ?_
  show Ev (d + 1) 33 70 [(0, .ref 16)] [] (cS L xs 20 19 1 807) _
  refine Ev.seg D_33 [(.aload_n 0, 1), (.iconst 5, 1)] (by decide +kernel) (j := 0) (pc' := 72) (lv' := [(0, .ref 16)]) (st' := [.int (5 : Int32), .ref 16]) rfl ?_
  refine Ev.newa D_33 (t := .int) (by decide +kernel) (kd := 20) (by decide) (w := (cS L xs 21 19 1 812)) (nA_c (by decide +kernel)) ?_
  show Ev (d + 1) 33 74 [(0, .ref 16)] [.ref 20, .ref 16] (cS L xs 21 19 1 812) _
  refine Ev.putR D_33 (by decide +kernel) F_2_49 (Or.inr ⟨by decide +kernel, rfl⟩) T_2_12 (pR_c (by decide +kernel)) ?_
  show Ev (d + 1) 33 77 [(0, .ref 16)] [] (cS L xs 21 20 1 812) _
  refine Ev.seg D_33 [(.aload_n 0, 1), (.iconst 5, 1)] (by decide +kernel) (j := 0) (pc' := 79) (lv' := [(0, .ref 16)]) (st' := [.int (5 : Int32), .ref 16]) rfl ?_
  refine Ev.newa D_33 (t := .int) (by decide +kernel) (kd := 20) (by decide) (w := (cS L xs 22 20 1 817)) (nA_c (by decide +kernel)) ?_
  show Ev (d + 1) 33 81 [(0, .ref 16)] [.ref 21, .ref 16] (cS L xs 22 20 1 817) _
  refine Ev.putR D_33 (by decide +kernel) F_2_52 (Or.inr ⟨by decide +kernel, rfl⟩) T_2_13 (pR_c (by decide +kernel)) ?_
  show Ev (d + 1) 33 84 [(0, .ref 16)] [] (cS L xs 22 21 1 817) _
  refine Ev.seg D_33 [(.aload_n 0, 1), (.iconst 5, 1)] (by decide +kernel) (j := 0) (pc' := 86) (lv' := [(0, .ref 16)]) (st' := [.int (5 : Int32), .ref 16]) rfl ?_
  refine Ev.newa D_33 (t := .int) (by decide +kernel) (kd := 20) (by decide) (w := (cS L xs 23 21 1 822)) (nA_c (by decide +kernel)) ?_
  show Ev (d + 1) 33 88 [(0, .ref 16)] [.ref 22, .ref 16] (cS L xs 23 21 1 822) _
  refine Ev.putR D_33 (by decide +kernel) F_2_55 (Or.inr ⟨by decide +kernel, rfl⟩) T_2_14 (pR_c (by decide +kernel)) ?_
  show Ev (d + 1) 33 91 [(0, .ref 16)] [] (cS L xs 23 22 1 822) _
  refine Ev.seg D_33 [(.aload_n 0, 1), (.iconst 5, 1)] (by decide +kernel) (j := 0) (pc' := 93) (lv' := [(0, .ref 16)]) (st' := [.int (5 : Int32), .ref 16]) rfl ?_
  refine Ev.newa D_33 (t := .int) (by decide +kernel) (kd := 20) (by decide) (w := (cS L xs 24 22 1 827)) (nA_c (by decide +kernel)) ?_
  show Ev (d + 1) 33 95 [(0, .ref 16)] [.ref 23, .ref 16] (cS L xs 24 22 1 827) _
  refine Ev.putR D_33 (by decide +kernel) F_2_58 (Or.inr ⟨by decide +kernel, rfl⟩) T_2_15 (pR_c (by decide +kernel)) ?_
  show Ev (d + 1) 33 98 [(0, .ref 16)] [] (cS L xs 24 23 1 827) _
  refine Ev.seg D_33 [(.aload_n 0, 1), (.iconst 5, 1)] (by decide +kernel) (j := 0) (pc' := 100) (lv' := [(0, .ref 16)]) (st' := [.int (5 : Int32), .ref 16]) rfl ?_
  refine Ev.newa D_33 (t := .int) (by decide +kernel) (kd := 20) (by decide) (w := (cS L xs 25 23 1 832)) (nA_c (by decide +kernel)) ?_
  show Ev (d + 1) 33 102 [(0, .ref 16)] [.ref 24, .ref 16] (cS L xs 25 23 1 832) _
  refine Ev.putR D_33 (by decide +kernel) F_2_61 (Or.inr ⟨by decide +kernel, rfl⟩) T_2_16 (pR_c (by decide +kernel)) ?_
  show Ev (d + 1) 33 105 [(0, .ref 16)] [] (cS L xs 25 24 1 832) _
  refine Ev.seg D_33 [(.aload_n 0, 1), (.bipush 30, 2)] (by decide +kernel) (j := 0) (pc' := 108) (lv' := [(0, .ref 16)]) (st' := [.int (30 : Int32), .ref 16]) rfl ?_
  refine Ev.newa D_33 (t := .int) (by decide +kernel) (kd := 20) (by decide) (w := (cS L xs 26 24 1 862)) (nA_c (by decide +kernel)) ?_
  show Ev (d + 1) 33 110 [(0, .ref 16)] [.ref 25, .ref 16] (cS L xs 26 24 1 862) _
  refine Ev.putR D_33 (by decide +kernel) F_2_64 (Or.inr ⟨by decide +kernel, rfl⟩) T_2_17 (pR_c (by decide +kernel)) ?_
  show Ev (d + 1) 33 113 [(0, .ref 16)] [] (cS L xs 26 25 1 862) _
  refine Ev.seg D_33 [(.aload_n 0, 1), (.bipush 30, 2)] (by decide +kernel) (j := 0) (pc' := 116) (lv' := [(0, .ref 16)]) (st' := [.int (30 : Int32), .ref 16]) rfl ?_
  refine Ev.newa D_33 (t := .int) (by decide +kernel) (kd := 20) (by decide) (w := (cS L xs 27 25 1 892)) (nA_c (by decide +kernel)) ?_
  show Ev (d + 1) 33 118 [(0, .ref 16)] [.ref 26, .ref 16] (cS L xs 27 25 1 892) _
  refine Ev.putR D_33 (by decide +kernel) F_2_67 (Or.inr ⟨by decide +kernel, rfl⟩) T_2_18 (pR_c (by decide +kernel)) ?_
  show Ev (d + 1) 33 121 [(0, .ref 16)] [] (cS L xs 27 26 1 892) _
  refine Ev.seg D_33 [(.aload_n 0, 1), (.bipush 30, 2)] (by decide +kernel) (j := 0) (pc' := 124) (lv' := [(0, .ref 16)]) (st' := [.int (30 : Int32), .ref 16]) rfl ?_
  refine Ev.newa D_33 (t := .int) (by decide +kernel) (kd := 20) (by decide) (w := (cS L xs 28 26 1 922)) (nA_c (by decide +kernel)) ?_
  show Ev (d + 1) 33 126 [(0, .ref 16)] [.ref 27, .ref 16] (cS L xs 28 26 1 922) _
  refine Ev.putR D_33 (by decide +kernel) F_2_70 (Or.inr ⟨by decide +kernel, rfl⟩) T_2_19 (pR_c (by decide +kernel)) ?_
  show Ev (d + 1) 33 129 [(0, .ref 16)] [] (cS L xs 28 27 1 922) _
  exact Ev.vret D_33 (by decide +kernel)
set_option maxRecDepth 8000 in
theorem ct_5 (L : Nat) (xs : Nat → Int32) {d : Nat} (hd : 1 ≤ d) : Ev d 0 0 [(0, .ref 28), (1, .ref 16)] [] (cS L xs 29 28 1 932) (none, (cS L xs 121 37 1 1472)) := by
  obtain ⟨d, rfl⟩ : ∃ e, d = e + 1 := ⟨d - 1, by omega⟩
  refine Ev.seg D_0 [(.aload_n 0, 1)] (by decide +kernel) (j := 0) (pc' := 1) (lv' := [(0, .ref 28), (1, .ref 16)]) (st' := [.ref 28]) rfl ?_
  refine Ev.obj D_0 (by decide +kernel) (Nat.succ_pos _) C_0_3 (Nat.le_of_ble_eq_true rfl) (Nat.le_of_ble_eq_true rfl) ?_
  show Ev (d + 1) 0 4 [(0, .ref 28), (1, .ref 16)] [] (cS L xs 29 28 1 932) _
  refine Ev.seg D_0 [(.aload_n 0, 1), (.iconst 0, 1)] (by decide +kernel) (j := 0) (pc' := 6) (lv' := [(0, .ref 28), (1, .ref 16)]) (st' := [.int (0 : Int32), .ref 28]) rfl ?_
  refine Ev.putI D_0 (by decide +kernel) F_0_9 N_0_1 T_0_1 (pI_c0 (by decide +kernel)) ?_
  show Ev (d + 1) 0 9 [(0, .ref 28), (1, .ref 16)] [] (cS L xs 29 28 1 932) _
  refine Ev.seg D_0 [(.aload_n 0, 1), (.iconst 5, 1)] (by decide +kernel) (j := 0) (pc' := 11) (lv' := [(0, .ref 28), (1, .ref 16)]) (st' := [.int (5 : Int32), .ref 28]) rfl ?_
  refine Ev.newa D_0 (t := .int) (by decide +kernel) (kd := 20) (by decide) (w := (cS L xs 30 28 1 937)) (nA_c (by decide +kernel)) ?_
  show Ev (d + 1) 0 13 [(0, .ref 28), (1, .ref 16)] [.ref 29, .ref 28] (cS L xs 30 28 1 937) _
  refine Ev.putR D_0 (by decide +kernel) F_0_15 (Or.inr ⟨by decide +kernel, rfl⟩) T_0_2 (pR_c (by decide +kernel)) ?_
  show Ev (d + 1) 0 16 [(0, .ref 28), (1, .ref 16)] [] (cS L xs 30 29 1 937) _
  refine Ev.seg D_0 [(.aload_n 0, 1), (.iconst 5, 1)] (by decide +kernel) (j := 0) (pc' := 18) (lv' := [(0, .ref 28), (1, .ref 16)]) (st' := [.int (5 : Int32), .ref 28]) rfl ?_
  refine Ev.newa D_0 (t := .int) (by decide +kernel) (kd := 20) (by decide) (w := (cS L xs 31 29 1 942)) (nA_c (by decide +kernel)) ?_
  show Ev (d + 1) 0 20 [(0, .ref 28), (1, .ref 16)] [.ref 30, .ref 28] (cS L xs 31 29 1 942) _
  refine Ev.putR D_0 (by decide +kernel) F_0_19 (Or.inr ⟨by decide +kernel, rfl⟩) T_0_3 (pR_c (by decide +kernel)) ?_
  show Ev (d + 1) 0 23 [(0, .ref 28), (1, .ref 16)] [] (cS L xs 31 30 1 942) _
  refine Ev.seg D_0 [(.aload_n 0, 1), (.iconst 5, 1)] (by decide +kernel) (j := 0) (pc' := 25) (lv' := [(0, .ref 28), (1, .ref 16)]) (st' := [.int (5 : Int32), .ref 28]) rfl ?_
  refine Ev.newa D_0 (t := .int) (by decide +kernel) (kd := 20) (by decide) (w := (cS L xs 32 30 1 947)) (nA_c (by decide +kernel)) ?_
  show Ev (d + 1) 0 27 [(0, .ref 28), (1, .ref 16)] [.ref 31, .ref 28] (cS L xs 32 30 1 947) _
  refine Ev.putR D_0 (by decide +kernel) F_0_22 (Or.inr ⟨by decide +kernel, rfl⟩) T_0_4 (pR_c (by decide +kernel)) ?_
  show Ev (d + 1) 0 30 [(0, .ref 28), (1, .ref 16)] [] (cS L xs 32 31 1 947) _
  refine Ev.seg D_0 [(.aload_n 0, 1), (.bipush 21, 2), (.iconst 5, 1)] (by decide +kernel) (j := 0) (pc' := 34) (lv' := [(0, .ref 28), (1, .ref 16)]) (st' := [.int (5 : Int32), .int (21 : Int32), .ref 28]) rfl ?_
  refine Ev.newm D_0 (i := 25) (by decide +kernel) (by decide +kernel) (w := (cS L xs 54 31 1 1073)) (nAA_c (by decide +kernel)) ?_
  show Ev (d + 1) 0 38 [(0, .ref 28), (1, .ref 16)] [.ref 32, .ref 28] (cS L xs 54 31 1 1073) _
  refine Ev.putR D_0 (by decide +kernel) F_0_27 (Or.inr ⟨by decide +kernel, rfl⟩) T_0_5 (pR_c (by decide +kernel)) ?_
  show Ev (d + 1) 0 41 [(0, .ref 28), (1, .ref 16)] [] (cS L xs 54 32 1 1073) _
  refine Ev.seg D_0 [(.aload_n 0, 1), (.bipush 21, 2)] (by decide +kernel) (j := 0) (pc' := 44) (lv' := [(0, .ref 28), (1, .ref 16)]) (st' := [.int (21 : Int32), .ref 28]) rfl ?_
  refine Ev.newa D_0 (t := .int) (by decide +kernel) (kd := 20) (by decide) (w := (cS L xs 55 32 1 1094)) (nA_c (by decide +kernel)) ?_
  show Ev (d + 1) 0 46 [(0, .ref 28), (1, .ref 16)] [.ref 54, .ref 28] (cS L xs 55 32 1 1094) _
  refine Ev.putR D_0 (by decide +kernel) F_0_30 (Or.inr ⟨by decide +kernel, rfl⟩) T_0_6 (pR_c (by decide +kernel)) ?_
  show Ev (d + 1) 0 49 [(0, .ref 28), (1, .ref 16)] [] (cS L xs 55 33 1 1094) _
  refine Ev.seg D_0 [(.aload_n 0, 1), (.bipush 21, 2), (.iconst 5, 1)] (by decide +kernel) (j := 0) (pc' := 53) (lv' := [(0, .ref 28), (1, .ref 16)]) (st' := [.int (5 : Int32), .int (21 : Int32), .ref 28]) rfl ?_
  refine Ev.newm D_0 (i := 25) (by decide +kernel) (by decide +kernel) (w := (cS L xs 77 33 1 1220)) (nAA_c (by decide +kernel)) ?_
  show Ev (d + 1) 0 57 [(0, .ref 28), (1, .ref 16)] [.ref 55, .ref 28] (cS L xs 77 33 1 1220) _
  refine Ev.putR D_0 (by decide +kernel) F_0_33 (Or.inr ⟨by decide +kernel, rfl⟩) T_0_7 (pR_c (by decide +kernel)) ?_
  show Ev (d + 1) 0 60 [(0, .ref 28), (1, .ref 16)] [] (cS L xs 77 34 1 1220) _
  refine Ev.seg D_0 [(.aload_n 0, 1), (.bipush 21, 2), (.iconst 5, 1)] (by decide +kernel) (j := 0) (pc' := 64) (lv' := [(0, .ref 28), (1, .ref 16)]) (st' := [.int (5 : Int32), .int (21 : Int32), .ref 28]) rfl ?_
  refine Ev.newm D_0 (i := 25) (by decide +kernel) (by decide +kernel) (w := (cS L xs 99 34 1 1346)) (nAA_c (by decide +kernel)) ?_
  show Ev (d + 1) 0 68 [(0, .ref 28), (1, .ref 16)] [.ref 77, .ref 28] (cS L xs 99 34 1 1346) _
  refine Ev.putR D_0 (by decide +kernel) F_0_36 (Or.inr ⟨by decide +kernel, rfl⟩) T_0_8 (pR_c (by decide +kernel)) ?_
  show Ev (d + 1) 0 71 [(0, .ref 28), (1, .ref 16)] [] (cS L xs 99 35 1 1346) _
  refine Ev.seg D_0 [(.aload_n 0, 1), (.bipush 21, 2), (.iconst 5, 1)] (by decide +kernel) (j := 0) (pc' := 75) (lv' := [(0, .ref 28), (1, .ref 16)]) (st' := [.int (5 : Int32), .int (21 : Int32), .ref 28]) rfl ?_
  refine Ev.newm D_0 (i := 25) (by decide +kernel) (by decide +kernel) (w := (cS L xs 121 35 1 1472)) (nAA_c (by decide +kernel)) ?_
  show Ev (d + 1) 0 79 [(0, .ref 28), (1, .ref 16)] [.ref 99, .ref 28] (cS L xs 121 35 1 1472) _
  refine Ev.putR D_0 (by decide +kernel) F_0_39 (Or.inr ⟨by decide +kernel, rfl⟩) T_0_9 (pR_c (by decide +kernel)) ?_
  show Ev (d + 1) 0 82 [(0, .ref 28), (1, .ref 16)] [] (cS L xs 121 36 1 1472) _
  refine Ev.seg D_0 [(.aload_n 0, 1), (.aload_n 1, 1)] (by decide +kernel) (j := 0) (pc' := 84) (lv' := [(0, .ref 28), (1, .ref 16)]) (st' := [.ref 16, .ref 28]) rfl ?_
  refine Ev.putR D_0 (by decide +kernel) F_0_42 (Or.inr ⟨by decide +kernel, rfl⟩) T_0_0 (pR_c (by decide +kernel)) ?_
  show Ev (d + 1) 0 87 [(0, .ref 28), (1, .ref 16)] [] (cS L xs 121 37 1 1472) _
  exact Ev.vret D_0 (by decide +kernel)
set_option maxRecDepth 8000 in
theorem ct_6 (L : Nat) (xs : Nat → Int32) {d : Nat} (hd : 1 ≤ d) : Ev d 0 0 [(0, .ref 121), (1, .ref 16)] [] (cS L xs 122 38 1 1482) (none, (cS L xs 214 47 1 2022)) := by
  obtain ⟨d, rfl⟩ : ∃ e, d = e + 1 := ⟨d - 1, by omega⟩
  refine Ev.seg D_0 [(.aload_n 0, 1)] (by decide +kernel) (j := 0) (pc' := 1) (lv' := [(0, .ref 121), (1, .ref 16)]) (st' := [.ref 121]) rfl ?_
  refine Ev.obj D_0 (by decide +kernel) (Nat.succ_pos _) C_0_3 (Nat.le_of_ble_eq_true rfl) (Nat.le_of_ble_eq_true rfl) ?_
  show Ev (d + 1) 0 4 [(0, .ref 121), (1, .ref 16)] [] (cS L xs 122 38 1 1482) _
  refine Ev.seg D_0 [(.aload_n 0, 1), (.iconst 0, 1)] (by decide +kernel) (j := 0) (pc' := 6) (lv' := [(0, .ref 121), (1, .ref 16)]) (st' := [.int (0 : Int32), .ref 121]) rfl ?_
  refine Ev.putI D_0 (by decide +kernel) F_0_9 N_0_1 T_0_1 (pI_c0 (by decide +kernel)) ?_
  show Ev (d + 1) 0 9 [(0, .ref 121), (1, .ref 16)] [] (cS L xs 122 38 1 1482) _
  refine Ev.seg D_0 [(.aload_n 0, 1), (.iconst 5, 1)] (by decide +kernel) (j := 0) (pc' := 11) (lv' := [(0, .ref 121), (1, .ref 16)]) (st' := [.int (5 : Int32), .ref 121]) rfl ?_
  refine Ev.newa D_0 (t := .int) (by decide +kernel) (kd := 20) (by decide) (w := (cS L xs 123 38 1 1487)) (nA_c (by decide +kernel)) ?_
  show Ev (d + 1) 0 13 [(0, .ref 121), (1, .ref 16)] [.ref 122, .ref 121] (cS L xs 123 38 1 1487) _
  refine Ev.putR D_0 (by decide +kernel) F_0_15 (Or.inr ⟨by decide +kernel, rfl⟩) T_0_2 (pR_c (by decide +kernel)) ?_
  show Ev (d + 1) 0 16 [(0, .ref 121), (1, .ref 16)] [] (cS L xs 123 39 1 1487) _
  refine Ev.seg D_0 [(.aload_n 0, 1), (.iconst 5, 1)] (by decide +kernel) (j := 0) (pc' := 18) (lv' := [(0, .ref 121), (1, .ref 16)]) (st' := [.int (5 : Int32), .ref 121]) rfl ?_
  refine Ev.newa D_0 (t := .int) (by decide +kernel) (kd := 20) (by decide) (w := (cS L xs 124 39 1 1492)) (nA_c (by decide +kernel)) ?_
  show Ev (d + 1) 0 20 [(0, .ref 121), (1, .ref 16)] [.ref 123, .ref 121] (cS L xs 124 39 1 1492) _
  refine Ev.putR D_0 (by decide +kernel) F_0_19 (Or.inr ⟨by decide +kernel, rfl⟩) T_0_3 (pR_c (by decide +kernel)) ?_
  show Ev (d + 1) 0 23 [(0, .ref 121), (1, .ref 16)] [] (cS L xs 124 40 1 1492) _
  refine Ev.seg D_0 [(.aload_n 0, 1), (.iconst 5, 1)] (by decide +kernel) (j := 0) (pc' := 25) (lv' := [(0, .ref 121), (1, .ref 16)]) (st' := [.int (5 : Int32), .ref 121]) rfl ?_
  refine Ev.newa D_0 (t := .int) (by decide +kernel) (kd := 20) (by decide) (w := (cS L xs 125 40 1 1497)) (nA_c (by decide +kernel)) ?_
  show Ev (d + 1) 0 27 [(0, .ref 121), (1, .ref 16)] [.ref 124, .ref 121] (cS L xs 125 40 1 1497) _
  refine Ev.putR D_0 (by decide +kernel) F_0_22 (Or.inr ⟨by decide +kernel, rfl⟩) T_0_4 (pR_c (by decide +kernel)) ?_
  show Ev (d + 1) 0 30 [(0, .ref 121), (1, .ref 16)] [] (cS L xs 125 41 1 1497) _
  refine Ev.seg D_0 [(.aload_n 0, 1), (.bipush 21, 2), (.iconst 5, 1)] (by decide +kernel) (j := 0) (pc' := 34) (lv' := [(0, .ref 121), (1, .ref 16)]) (st' := [.int (5 : Int32), .int (21 : Int32), .ref 121]) rfl ?_
  refine Ev.newm D_0 (i := 25) (by decide +kernel) (by decide +kernel) (w := (cS L xs 147 41 1 1623)) (nAA_c (by decide +kernel)) ?_
  show Ev (d + 1) 0 38 [(0, .ref 121), (1, .ref 16)] [.ref 125, .ref 121] (cS L xs 147 41 1 1623) _
  refine Ev.putR D_0 (by decide +kernel) F_0_27 (Or.inr ⟨by decide +kernel, rfl⟩) T_0_5 (pR_c (by decide +kernel)) ?_
  show Ev (d + 1) 0 41 [(0, .ref 121), (1, .ref 16)] [] (cS L xs 147 42 1 1623) _
  refine Ev.seg D_0 [(.aload_n 0, 1), (.bipush 21, 2)] (by decide +kernel) (j := 0) (pc' := 44) (lv' := [(0, .ref 121), (1, .ref 16)]) (st' := [.int (21 : Int32), .ref 121]) rfl ?_
  refine Ev.newa D_0 (t := .int) (by decide +kernel) (kd := 20) (by decide) (w := (cS L xs 148 42 1 1644)) (nA_c (by decide +kernel)) ?_
  show Ev (d + 1) 0 46 [(0, .ref 121), (1, .ref 16)] [.ref 147, .ref 121] (cS L xs 148 42 1 1644) _
  refine Ev.putR D_0 (by decide +kernel) F_0_30 (Or.inr ⟨by decide +kernel, rfl⟩) T_0_6 (pR_c (by decide +kernel)) ?_
  show Ev (d + 1) 0 49 [(0, .ref 121), (1, .ref 16)] [] (cS L xs 148 43 1 1644) _
  refine Ev.seg D_0 [(.aload_n 0, 1), (.bipush 21, 2), (.iconst 5, 1)] (by decide +kernel) (j := 0) (pc' := 53) (lv' := [(0, .ref 121), (1, .ref 16)]) (st' := [.int (5 : Int32), .int (21 : Int32), .ref 121]) rfl ?_
  refine Ev.newm D_0 (i := 25) (by decide +kernel) (by decide +kernel) (w := (cS L xs 170 43 1 1770)) (nAA_c (by decide +kernel)) ?_
  show Ev (d + 1) 0 57 [(0, .ref 121), (1, .ref 16)] [.ref 148, .ref 121] (cS L xs 170 43 1 1770) _
  refine Ev.putR D_0 (by decide +kernel) F_0_33 (Or.inr ⟨by decide +kernel, rfl⟩) T_0_7 (pR_c (by decide +kernel)) ?_
  show Ev (d + 1) 0 60 [(0, .ref 121), (1, .ref 16)] [] (cS L xs 170 44 1 1770) _
  refine Ev.seg D_0 [(.aload_n 0, 1), (.bipush 21, 2), (.iconst 5, 1)] (by decide +kernel) (j := 0) (pc' := 64) (lv' := [(0, .ref 121), (1, .ref 16)]) (st' := [.int (5 : Int32), .int (21 : Int32), .ref 121]) rfl ?_
  refine Ev.newm D_0 (i := 25) (by decide +kernel) (by decide +kernel) (w := (cS L xs 192 44 1 1896)) (nAA_c (by decide +kernel)) ?_
  show Ev (d + 1) 0 68 [(0, .ref 121), (1, .ref 16)] [.ref 170, .ref 121] (cS L xs 192 44 1 1896) _
  refine Ev.putR D_0 (by decide +kernel) F_0_36 (Or.inr ⟨by decide +kernel, rfl⟩) T_0_8 (pR_c (by decide +kernel)) ?_
  show Ev (d + 1) 0 71 [(0, .ref 121), (1, .ref 16)] [] (cS L xs 192 45 1 1896) _
  refine Ev.seg D_0 [(.aload_n 0, 1), (.bipush 21, 2), (.iconst 5, 1)] (by decide +kernel) (j := 0) (pc' := 75) (lv' := [(0, .ref 121), (1, .ref 16)]) (st' := [.int (5 : Int32), .int (21 : Int32), .ref 121]) rfl ?_
  refine Ev.newm D_0 (i := 25) (by decide +kernel) (by decide +kernel) (w := (cS L xs 214 45 1 2022)) (nAA_c (by decide +kernel)) ?_
  show Ev (d + 1) 0 79 [(0, .ref 121), (1, .ref 16)] [.ref 192, .ref 121] (cS L xs 214 45 1 2022) _
  refine Ev.putR D_0 (by decide +kernel) F_0_39 (Or.inr ⟨by decide +kernel, rfl⟩) T_0_9 (pR_c (by decide +kernel)) ?_
  show Ev (d + 1) 0 82 [(0, .ref 121), (1, .ref 16)] [] (cS L xs 214 46 1 2022) _
  refine Ev.seg D_0 [(.aload_n 0, 1), (.aload_n 1, 1)] (by decide +kernel) (j := 0) (pc' := 84) (lv' := [(0, .ref 121), (1, .ref 16)]) (st' := [.ref 16, .ref 121]) rfl ?_
  refine Ev.putR D_0 (by decide +kernel) F_0_42 (Or.inr ⟨by decide +kernel, rfl⟩) T_0_0 (pR_c (by decide +kernel)) ?_
  show Ev (d + 1) 0 87 [(0, .ref 121), (1, .ref 16)] [] (cS L xs 214 47 1 2022) _
  exact Ev.vret D_0 (by decide +kernel)
set_option maxRecDepth 8000 in
theorem ct_7 (L : Nat) (xs : Nat → Int32) {d : Nat} (hd : 1 ≤ d) : Ev d 82 0 [(0, .ref 214), (1, .ref 16), (2, .ref 121)] [] (cS L xs 215 48 1 2030) (none, (cS L xs 225 55 2 2080)) := by
  obtain ⟨d, rfl⟩ : ∃ e, d = e + 1 := ⟨d - 1, by omega⟩
  refine Ev.seg D_82 [(.aload_n 0, 1)] (by decide +kernel) (j := 0) (pc' := 1) (lv' := [(0, .ref 214), (1, .ref 16), (2, .ref 121)]) (st' := [.ref 214]) rfl ?_
  refine Ev.obj D_82 (by decide +kernel) (Nat.succ_pos _) C_7_3 (Nat.le_of_ble_eq_true rfl) (Nat.le_of_ble_eq_true rfl) ?_
  show Ev (d + 1) 82 4 [(0, .ref 214), (1, .ref 16), (2, .ref 121)] [] (cS L xs 215 48 1 2030) _
  refine Ev.seg D_82 [(.aload_n 0, 1), (.iconst 1, 1)] (by decide +kernel) (j := 0) (pc' := 6) (lv' := [(0, .ref 214), (1, .ref 16), (2, .ref 121)]) (st' := [.int (1 : Int32), .ref 214]) rfl ?_
  refine Ev.putZ D_82 (by decide +kernel) F_7_9 N_7_2 T_7_2 (pZ_c1 (by decide +kernel)) ?_
  show Ev (d + 1) 82 9 [(0, .ref 214), (1, .ref 16), (2, .ref 121)] [] (cS L xs 215 48 2 2030) _
  refine Ev.seg D_82 [(.aload_n 0, 1), (.iconst 5, 1)] (by decide +kernel) (j := 0) (pc' := 11) (lv' := [(0, .ref 214), (1, .ref 16), (2, .ref 121)]) (st' := [.int (5 : Int32), .ref 214]) rfl ?_
  refine Ev.newa D_82 (t := .int) (by decide +kernel) (kd := 20) (by decide) (w := (cS L xs 216 48 2 2035)) (nA_c (by decide +kernel)) ?_
  show Ev (d + 1) 82 13 [(0, .ref 214), (1, .ref 16), (2, .ref 121)] [.ref 215, .ref 214] (cS L xs 216 48 2 2035) _
  refine Ev.putR D_82 (by decide +kernel) F_7_15 (Or.inr ⟨by decide +kernel, rfl⟩) T_7_3 (pR_c (by decide +kernel)) ?_
  show Ev (d + 1) 82 16 [(0, .ref 214), (1, .ref 16), (2, .ref 121)] [] (cS L xs 216 49 2 2035) _
  refine Ev.seg D_82 [(.aload_n 0, 1), (.iconst 5, 1)] (by decide +kernel) (j := 0) (pc' := 18) (lv' := [(0, .ref 214), (1, .ref 16), (2, .ref 121)]) (st' := [.int (5 : Int32), .ref 214]) rfl ?_
  refine Ev.newa D_82 (t := .int) (by decide +kernel) (kd := 20) (by decide) (w := (cS L xs 217 49 2 2040)) (nA_c (by decide +kernel)) ?_
  show Ev (d + 1) 82 20 [(0, .ref 214), (1, .ref 16), (2, .ref 121)] [.ref 216, .ref 214] (cS L xs 217 49 2 2040) _
  refine Ev.putR D_82 (by decide +kernel) F_7_19 (Or.inr ⟨by decide +kernel, rfl⟩) T_7_4 (pR_c (by decide +kernel)) ?_
  show Ev (d + 1) 82 23 [(0, .ref 214), (1, .ref 16), (2, .ref 121)] [] (cS L xs 217 50 2 2040) _
  refine Ev.seg D_82 [(.aload_n 0, 1), (.iconst 5, 1)] (by decide +kernel) (j := 0) (pc' := 25) (lv' := [(0, .ref 214), (1, .ref 16), (2, .ref 121)]) (st' := [.int (5 : Int32), .ref 214]) rfl ?_
  refine Ev.newa D_82 (t := .int) (by decide +kernel) (kd := 20) (by decide) (w := (cS L xs 218 50 2 2045)) (nA_c (by decide +kernel)) ?_
  show Ev (d + 1) 82 27 [(0, .ref 214), (1, .ref 16), (2, .ref 121)] [.ref 217, .ref 214] (cS L xs 218 50 2 2045) _
  refine Ev.putR D_82 (by decide +kernel) F_7_22 (Or.inr ⟨by decide +kernel, rfl⟩) T_7_5 (pR_c (by decide +kernel)) ?_
  show Ev (d + 1) 82 30 [(0, .ref 214), (1, .ref 16), (2, .ref 121)] [] (cS L xs 218 51 2 2045) _
  refine Ev.seg D_82 [(.aload_n 0, 1), (.iconst 5, 1)] (by decide +kernel) (j := 0) (pc' := 32) (lv' := [(0, .ref 214), (1, .ref 16), (2, .ref 121)]) (st' := [.int (5 : Int32), .ref 214]) rfl ?_
  refine Ev.newa D_82 (t := .int) (by decide +kernel) (kd := 20) (by decide) (w := (cS L xs 219 51 2 2050)) (nA_c (by decide +kernel)) ?_
  show Ev (d + 1) 82 34 [(0, .ref 214), (1, .ref 16), (2, .ref 121)] [.ref 218, .ref 214] (cS L xs 219 51 2 2050) _
  refine Ev.putR D_82 (by decide +kernel) F_7_25 (Or.inr ⟨by decide +kernel, rfl⟩) T_7_6 (pR_c (by decide +kernel)) ?_
  show Ev (d + 1) 82 37 [(0, .ref 214), (1, .ref 16), (2, .ref 121)] [] (cS L xs 219 52 2 2050) _
  refine Ev.seg D_82 [(.aload_n 0, 1), (.iconst 5, 1), (.iconst 5, 1)] (by decide +kernel) (j := 0) (pc' := 40) (lv' := [(0, .ref 214), (1, .ref 16), (2, .ref 121)]) (st' := [.int (5 : Int32), .int (5 : Int32), .ref 214]) rfl ?_
  refine Ev.newm D_82 (i := 28) (by decide +kernel) (by decide +kernel) (w := (cS L xs 225 52 2 2080)) (nAA_c (by decide +kernel)) ?_
  show Ev (d + 1) 82 44 [(0, .ref 214), (1, .ref 16), (2, .ref 121)] [.ref 219, .ref 214] (cS L xs 225 52 2 2080) _
  refine Ev.putR D_82 (by decide +kernel) F_7_30 (Or.inr ⟨by decide +kernel, rfl⟩) T_7_7 (pR_c (by decide +kernel)) ?_
  show Ev (d + 1) 82 47 [(0, .ref 214), (1, .ref 16), (2, .ref 121)] [] (cS L xs 225 53 2 2080) _
  refine Ev.seg D_82 [(.aload_n 0, 1), (.aload_n 1, 1)] (by decide +kernel) (j := 0) (pc' := 49) (lv' := [(0, .ref 214), (1, .ref 16), (2, .ref 121)]) (st' := [.ref 16, .ref 214]) rfl ?_
  refine Ev.putR D_82 (by decide +kernel) F_7_33 (Or.inr ⟨by decide +kernel, rfl⟩) T_7_0 (pR_c (by decide +kernel)) ?_
  show Ev (d + 1) 82 52 [(0, .ref 214), (1, .ref 16), (2, .ref 121)] [] (cS L xs 225 54 2 2080) _
  refine Ev.seg D_82 [(.aload_n 0, 1), (.aload_n 2, 1)] (by decide +kernel) (j := 0) (pc' := 54) (lv' := [(0, .ref 214), (1, .ref 16), (2, .ref 121)]) (st' := [.ref 121, .ref 214]) rfl ?_
  refine Ev.putR D_82 (by decide +kernel) F_7_37 (Or.inr ⟨by decide +kernel, rfl⟩) T_7_1 (pR_c (by decide +kernel)) ?_
  show Ev (d + 1) 82 57 [(0, .ref 214), (1, .ref 16), (2, .ref 121)] [] (cS L xs 225 55 2 2080) _
  exact Ev.vret D_82 (by decide +kernel)
set_option maxRecDepth 8000 in
theorem ct_8 (L : Nat) (xs : Nat → Int32) {d : Nat} (hd : 1 ≤ d) : Ev d 72 0 [(0, .ref 225), (1, .ref 16), (2, .ref 121)] [] (cS L xs 226 56 2 2085) (none, (cS L xs 232 59 3 2115)) := by
  obtain ⟨d, rfl⟩ : ∃ e, d = e + 1 := ⟨d - 1, by omega⟩
  refine Ev.seg D_72 [(.aload_n 0, 1)] (by decide +kernel) (j := 0) (pc' := 1) (lv' := [(0, .ref 225), (1, .ref 16), (2, .ref 121)]) (st' := [.ref 225]) rfl ?_
  refine Ev.obj D_72 (by decide +kernel) (Nat.succ_pos _) C_5_3 (Nat.le_of_ble_eq_true rfl) (Nat.le_of_ble_eq_true rfl) ?_
  show Ev (d + 1) 72 4 [(0, .ref 225), (1, .ref 16), (2, .ref 121)] [] (cS L xs 226 56 2 2085) _
  refine Ev.seg D_72 [(.aload_n 0, 1), (.iconst (-1), 1)] (by decide +kernel) (j := 0) (pc' := 6) (lv' := [(0, .ref 225), (1, .ref 16), (2, .ref 121)]) (st' := [.int (-1 : Int32), .ref 225]) rfl ?_
  refine Ev.putI D_72 (by decide +kernel) F_5_9 N_5_2 T_5_2 (pI_c1 (by decide +kernel)) ?_
  show Ev (d + 1) 72 9 [(0, .ref 225), (1, .ref 16), (2, .ref 121)] [] (cS L xs 226 56 3 2085) _
  refine Ev.seg D_72 [(.aload_n 0, 1), (.iconst 0, 1)] (by decide +kernel) (j := 0) (pc' := 11) (lv' := [(0, .ref 225), (1, .ref 16), (2, .ref 121)]) (st' := [.int (0 : Int32), .ref 225]) rfl ?_
  refine Ev.putI D_72 (by decide +kernel) F_5_15 N_5_3 T_5_3 (pI_c0 (by decide +kernel)) ?_
  show Ev (d + 1) 72 14 [(0, .ref 225), (1, .ref 16), (2, .ref 121)] [] (cS L xs 226 56 3 2085) _
  refine Ev.seg D_72 [(.aload_n 0, 1), (.iconst 5, 1), (.iconst 5, 1)] (by decide +kernel) (j := 0) (pc' := 17) (lv' := [(0, .ref 225), (1, .ref 16), (2, .ref 121)]) (st' := [.int (5 : Int32), .int (5 : Int32), .ref 225]) rfl ?_
  refine Ev.newm D_72 (i := 18) (by decide +kernel) (by decide +kernel) (w := (cS L xs 232 56 3 2115)) (nAA_c (by decide +kernel)) ?_
  show Ev (d + 1) 72 21 [(0, .ref 225), (1, .ref 16), (2, .ref 121)] [.ref 226, .ref 225] (cS L xs 232 56 3 2115) _
  refine Ev.putR D_72 (by decide +kernel) F_5_20 (Or.inr ⟨by decide +kernel, rfl⟩) T_5_4 (pR_c (by decide +kernel)) ?_
  show Ev (d + 1) 72 24 [(0, .ref 225), (1, .ref 16), (2, .ref 121)] [] (cS L xs 232 57 3 2115) _
  refine Ev.seg D_72 [(.aload_n 0, 1), (.aload_n 1, 1)] (by decide +kernel) (j := 0) (pc' := 26) (lv' := [(0, .ref 225), (1, .ref 16), (2, .ref 121)]) (st' := [.ref 16, .ref 225]) rfl ?_
  refine Ev.putR D_72 (by decide +kernel) F_5_23 (Or.inr ⟨by decide +kernel, rfl⟩) T_5_0 (pR_c (by decide +kernel)) ?_
  show Ev (d + 1) 72 29 [(0, .ref 225), (1, .ref 16), (2, .ref 121)] [] (cS L xs 232 58 3 2115) _
  refine Ev.seg D_72 [(.aload_n 0, 1), (.aload_n 2, 1)] (by decide +kernel) (j := 0) (pc' := 31) (lv' := [(0, .ref 225), (1, .ref 16), (2, .ref 121)]) (st' := [.ref 121, .ref 225]) rfl ?_
  refine Ev.putR D_72 (by decide +kernel) F_5_27 (Or.inr ⟨by decide +kernel, rfl⟩) T_5_1 (pR_c (by decide +kernel)) ?_
  show Ev (d + 1) 72 34 [(0, .ref 225), (1, .ref 16), (2, .ref 121)] [] (cS L xs 232 59 3 2115) _
  exact Ev.vret D_72 (by decide +kernel)
set_option maxRecDepth 8000 in
theorem ct_9 (L : Nat) (xs : Nat → Int32) {d : Nat} (hd : 1 ≤ d) : Ev d 79 0 [(0, .ref 232), (1, .ref 16), (2, .ref 121)] [] (cS L xs 233 60 3 2118) (none, (cS L xs 234 63 3 2150)) := by
  obtain ⟨d, rfl⟩ : ∃ e, d = e + 1 := ⟨d - 1, by omega⟩
  refine Ev.seg D_79 [(.aload_n 0, 1)] (by decide +kernel) (j := 0) (pc' := 1) (lv' := [(0, .ref 232), (1, .ref 16), (2, .ref 121)]) (st' := [.ref 232]) rfl ?_
  refine Ev.obj D_79 (by decide +kernel) (Nat.succ_pos _) C_6_3 (Nat.le_of_ble_eq_true rfl) (Nat.le_of_ble_eq_true rfl) ?_
  show Ev (d + 1) 79 4 [(0, .ref 232), (1, .ref 16), (2, .ref 121)] [] (cS L xs 233 60 3 2118) _
  refine Ev.seg D_79 [(.aload_n 0, 1), (.bipush 32, 2)] (by decide +kernel) (j := 0) (pc' := 7) (lv' := [(0, .ref 232), (1, .ref 16), (2, .ref 121)]) (st' := [.int (32 : Int32), .ref 232]) rfl ?_
  refine Ev.newa D_79 (t := .int) (by decide +kernel) (kd := 20) (by decide) (w := (cS L xs 234 60 3 2150)) (nA_c (by decide +kernel)) ?_
  show Ev (d + 1) 79 9 [(0, .ref 232), (1, .ref 16), (2, .ref 121)] [.ref 233, .ref 232] (cS L xs 234 60 3 2150) _
  refine Ev.putR D_79 (by decide +kernel) F_6_9 (Or.inr ⟨by decide +kernel, rfl⟩) T_6_2 (pR_c (by decide +kernel)) ?_
  show Ev (d + 1) 79 12 [(0, .ref 232), (1, .ref 16), (2, .ref 121)] [] (cS L xs 234 61 3 2150) _
  refine Ev.seg D_79 [(.aload_n 0, 1), (.aload_n 1, 1)] (by decide +kernel) (j := 0) (pc' := 14) (lv' := [(0, .ref 232), (1, .ref 16), (2, .ref 121)]) (st' := [.ref 16, .ref 232]) rfl ?_
  refine Ev.putR D_79 (by decide +kernel) F_6_15 (Or.inr ⟨by decide +kernel, rfl⟩) T_6_0 (pR_c (by decide +kernel)) ?_
  show Ev (d + 1) 79 17 [(0, .ref 232), (1, .ref 16), (2, .ref 121)] [] (cS L xs 234 62 3 2150) _
  refine Ev.seg D_79 [(.aload_n 0, 1), (.aload_n 2, 1)] (by decide +kernel) (j := 0) (pc' := 19) (lv' := [(0, .ref 232), (1, .ref 16), (2, .ref 121)]) (st' := [.ref 121, .ref 232]) rfl ?_
  refine Ev.putR D_79 (by decide +kernel) F_6_19 (Or.inr ⟨by decide +kernel, rfl⟩) T_6_1 (pR_c (by decide +kernel)) ?_
  show Ev (d + 1) 79 22 [(0, .ref 232), (1, .ref 16), (2, .ref 121)] [] (cS L xs 234 63 3 2150) _
  exact Ev.vret D_79 (by decide +kernel)
set_option maxRecDepth 8000 in
theorem ct_10 (L : Nat) (xs : Nat → Int32) {d : Nat} (hd : 1 ≤ d) : Ev d 28 0 [(0, .ref 234), (1, .ref 16), (2, .ref 121)] [] (cS L xs 235 64 3 2156) (none, (cS L xs 247 68 4 2216)) := by
  obtain ⟨d, rfl⟩ : ∃ e, d = e + 1 := ⟨d - 1, by omega⟩
  refine Ev.seg D_28 [(.aload_n 0, 1)] (by decide +kernel) (j := 0) (pc' := 1) (lv' := [(0, .ref 234), (1, .ref 16), (2, .ref 121)]) (st' := [.ref 234]) rfl ?_
  refine Ev.obj D_28 (by decide +kernel) (Nat.succ_pos _) C_1_3 (Nat.le_of_ble_eq_true rfl) (Nat.le_of_ble_eq_true rfl) ?_
  show Ev (d + 1) 28 4 [(0, .ref 234), (1, .ref 16), (2, .ref 121)] [] (cS L xs 235 64 3 2156) _
  refine Ev.seg D_28 [(.aload_n 0, 1), (.iconst 5, 1), (.iconst 5, 1)] (by decide +kernel) (j := 0) (pc' := 7) (lv' := [(0, .ref 234), (1, .ref 16), (2, .ref 121)]) (st' := [.int (5 : Int32), .int (5 : Int32), .ref 234]) rfl ?_
  refine Ev.newm D_28 (i := 9) (by decide +kernel) (by decide +kernel) (w := (cS L xs 241 64 3 2186)) (nAA_c (by decide +kernel)) ?_
  show Ev (d + 1) 28 11 [(0, .ref 234), (1, .ref 16), (2, .ref 121)] [.ref 235, .ref 234] (cS L xs 241 64 3 2186) _
  refine Ev.putR D_28 (by decide +kernel) F_1_11 (Or.inr ⟨by decide +kernel, rfl⟩) T_1_2 (pR_c (by decide +kernel)) ?_
  show Ev (d + 1) 28 14 [(0, .ref 234), (1, .ref 16), (2, .ref 121)] [] (cS L xs 241 65 3 2186) _
  refine Ev.seg D_28 [(.aload_n 0, 1), (.iconst 5, 1), (.iconst 5, 1)] (by decide +kernel) (j := 0) (pc' := 17) (lv' := [(0, .ref 234), (1, .ref 16), (2, .ref 121)]) (st' := [.int (5 : Int32), .int (5 : Int32), .ref 234]) rfl ?_
  refine Ev.newm D_28 (i := 9) (by decide +kernel) (by decide +kernel) (w := (cS L xs 247 65 3 2216)) (nAA_c (by decide +kernel)) ?_
  show Ev (d + 1) 28 21 [(0, .ref 234), (1, .ref 16), (2, .ref 121)] [.ref 241, .ref 234] (cS L xs 247 65 3 2216) _
  refine Ev.putR D_28 (by decide +kernel) F_1_16 (Or.inr ⟨by decide +kernel, rfl⟩) T_1_3 (pR_c (by decide +kernel)) ?_
  show Ev (d + 1) 28 24 [(0, .ref 234), (1, .ref 16), (2, .ref 121)] [] (cS L xs 247 66 3 2216) _
  refine Ev.seg D_28 [(.aload_n 0, 1), (.iconst 0, 1)] (by decide +kernel) (j := 0) (pc' := 26) (lv' := [(0, .ref 234), (1, .ref 16), (2, .ref 121)]) (st' := [.int (0 : Int32), .ref 234]) rfl ?_
  refine Ev.putI D_28 (by decide +kernel) F_1_19 N_1_4 T_1_4 (pI_c0 (by decide +kernel)) ?_
  show Ev (d + 1) 28 29 [(0, .ref 234), (1, .ref 16), (2, .ref 121)] [] (cS L xs 247 66 3 2216) _
  refine Ev.seg D_28 [(.aload_n 0, 1), (.iconst (-1), 1)] (by decide +kernel) (j := 0) (pc' := 31) (lv' := [(0, .ref 234), (1, .ref 16), (2, .ref 121)]) (st' := [.int (-1 : Int32), .ref 234]) rfl ?_
  refine Ev.putI D_28 (by decide +kernel) F_1_23 N_1_5 T_1_5 (pI_c1 (by decide +kernel)) ?_
  show Ev (d + 1) 28 34 [(0, .ref 234), (1, .ref 16), (2, .ref 121)] [] (cS L xs 247 66 4 2216) _
  refine Ev.seg D_28 [(.aload_n 0, 1), (.aload_n 1, 1)] (by decide +kernel) (j := 0) (pc' := 36) (lv' := [(0, .ref 234), (1, .ref 16), (2, .ref 121)]) (st' := [.ref 16, .ref 234]) rfl ?_
  refine Ev.putR D_28 (by decide +kernel) F_1_26 (Or.inr ⟨by decide +kernel, rfl⟩) T_1_0 (pR_c (by decide +kernel)) ?_
  show Ev (d + 1) 28 39 [(0, .ref 234), (1, .ref 16), (2, .ref 121)] [] (cS L xs 247 67 4 2216) _
  refine Ev.seg D_28 [(.aload_n 0, 1), (.aload_n 2, 1)] (by decide +kernel) (j := 0) (pc' := 41) (lv' := [(0, .ref 234), (1, .ref 16), (2, .ref 121)]) (st' := [.ref 121, .ref 234]) rfl ?_
  refine Ev.putR D_28 (by decide +kernel) F_1_30 (Or.inr ⟨by decide +kernel, rfl⟩) T_1_1 (pR_c (by decide +kernel)) ?_
  show Ev (d + 1) 28 44 [(0, .ref 234), (1, .ref 16), (2, .ref 121)] [] (cS L xs 247 68 4 2216) _
  exact Ev.vret D_28 (by decide +kernel)
set_option maxRecDepth 8000 in
theorem ct_11 (L : Nat) (xs : Nat → Int32) {d : Nat} (hd : 1 ≤ d) : Ev d 33 0 [(0, .ref 249)] [] (cS L xs 250 71 4 2242) (none, (cS L xs 261 82 4 2372)) := by
  obtain ⟨d, rfl⟩ : ∃ e, d = e + 1 := ⟨d - 1, by omega⟩
  refine Ev.seg D_33 [(.aload_n 0, 1)] (by decide +kernel) (j := 0) (pc' := 1) (lv' := [(0, .ref 249)]) (st' := [.ref 249]) rfl ?_
  refine Ev.obj D_33 (by decide +kernel) (Nat.succ_pos _) C_2_3 (Nat.le_of_ble_eq_true rfl) (Nat.le_of_ble_eq_true rfl) ?_
  show Ev (d + 1) 33 4 [(0, .ref 249)] [] (cS L xs 250 71 4 2242) _
  refine Ev.seg D_33 [(.aload_n 0, 1), (.iconst 0, 1)] (by decide +kernel) (j := 0) (pc' := 6) (lv' := [(0, .ref 249)]) (st' := [.int (0 : Int32), .ref 249]) rfl ?_
  refine Ev.putI D_33 (by decide +kernel) F_2_9 N_2_0 T_2_0 (pI_c0 (by decide +kernel)) ?_
  show Ev (d + 1) 33 9 [(0, .ref 249)] [] (cS L xs 250 71 4 2242) _
  refine Ev.seg D_33 [(.aload_n 0, 1), (.iconst 0, 1)] (by decide +kernel) (j := 0) (pc' := 11) (lv' := [(0, .ref 249)]) (st' := [.int (0 : Int32), .ref 249]) rfl ?_
  refine Ev.putI D_33 (by decide +kernel) F_2_15 N_2_1 T_2_1 (pI_c0 (by decide +kernel)) ?_
  show Ev (d + 1) 33 14 [(0, .ref 249)] [] (cS L xs 250 71 4 2242) _
  refine Ev.seg D_33 [(.aload_n 0, 1), (.iconst 0, 1)] (by decide +kernel) (j := 0) (pc' := 16) (lv' := [(0, .ref 249)]) (st' := [.int (0 : Int32), .ref 249]) rfl ?_
  refine Ev.putI D_33 (by decide +kernel) F_2_18 N_2_2 T_2_2 (pI_c0 (by decide +kernel)) ?_
  show Ev (d + 1) 33 19 [(0, .ref 249)] [] (cS L xs 250 71 4 2242) _
  refine Ev.seg D_33 [(.aload_n 0, 1), (.iconst 0, 1)] (by decide +kernel) (j := 0) (pc' := 21) (lv' := [(0, .ref 249)]) (st' := [.int (0 : Int32), .ref 249]) rfl ?_
  refine Ev.putI D_33 (by decide +kernel) F_2_21 N_2_3 T_2_3 (pI_c0 (by decide +kernel)) ?_
  show Ev (d + 1) 33 24 [(0, .ref 249)] [] (cS L xs 250 71 4 2242) _
  refine Ev.seg D_33 [(.aload_n 0, 1), (.iconst 0, 1)] (by decide +kernel) (j := 0) (pc' := 26) (lv' := [(0, .ref 249)]) (st' := [.int (0 : Int32), .ref 249]) rfl ?_
  refine Ev.putI D_33 (by decide +kernel) F_2_24 N_2_4 T_2_4 (pI_c0 (by decide +kernel)) ?_
  show Ev (d + 1) 33 29 [(0, .ref 249)] [] (cS L xs 250 71 4 2242) _
  refine Ev.seg D_33 [(.aload_n 0, 1), (.iconst 0, 1)] (by decide +kernel) (j := 0) (pc' := 31) (lv' := [(0, .ref 249)]) (st' := [.int (0 : Int32), .ref 249]) rfl ?_
  refine Ev.putI D_33 (by decide +kernel) F_2_27 N_2_5 T_2_5 (pI_c0 (by decide +kernel)) ?_
  show Ev (d + 1) 33 34 [(0, .ref 249)] [] (cS L xs 250 71 4 2242) _
  refine Ev.seg D_33 [(.aload_n 0, 1), (.iconst 0, 1)] (by decide +kernel) (j := 0) (pc' := 36) (lv' := [(0, .ref 249)]) (st' := [.int (0 : Int32), .ref 249]) rfl ?_
  refine Ev.putI D_33 (by decide +kernel) F_2_30 N_2_6 T_2_6 (pI_c0 (by decide +kernel)) ?_
  show Ev (d + 1) 33 39 [(0, .ref 249)] [] (cS L xs 250 71 4 2242) _
  refine Ev.seg D_33 [(.aload_n 0, 1), (.iconst 0, 1)] (by decide +kernel) (j := 0) (pc' := 41) (lv' := [(0, .ref 249)]) (st' := [.int (0 : Int32), .ref 249]) rfl ?_
  refine Ev.putI D_33 (by decide +kernel) F_2_33 N_2_7 T_2_7 (pI_c0 (by decide +kernel)) ?_
  show Ev (d + 1) 33 44 [(0, .ref 249)] [] (cS L xs 250 71 4 2242) _
  refine Ev.seg D_33 [(.aload_n 0, 1), (.iconst 0, 1)] (by decide +kernel) (j := 0) (pc' := 46) (lv' := [(0, .ref 249)]) (st' := [.int (0 : Int32), .ref 249]) rfl ?_
  refine Ev.putI D_33 (by decide +kernel) F_2_36 N_2_8 T_2_8 (pI_c0 (by decide +kernel)) ?_
  show Ev (d + 1) 33 49 [(0, .ref 249)] [] (cS L xs 250 71 4 2242) _
  refine Ev.seg D_33 [(.aload_n 0, 1), (.iconst 5, 1)] (by decide +kernel) (j := 0) (pc' := 51) (lv' := [(0, .ref 249)]) (st' := [.int (5 : Int32), .ref 249]) rfl ?_
  refine Ev.newa D_33 (t := .int) (by decide +kernel) (kd := 20) (by decide) (w := (cS L xs 251 71 4 2247)) (nA_c (by decide +kernel)) ?_
  show Ev (d + 1) 33 53 [(0, .ref 249)] [.ref 250, .ref 249] (cS L xs 251 71 4 2247) _
  refine Ev.putR D_33 (by decide +kernel) F_2_39 (Or.inr ⟨by decide +kernel, rfl⟩) T_2_9 (pR_c (by decide +kernel)) ?_
  show Ev (d + 1) 33 56 [(0, .ref 249)] [] (cS L xs 251 72 4 2247) _
  refine Ev.seg D_33 [(.aload_n 0, 1), (.iconst 5, 1)] (by decide +kernel) (j := 0) (pc' := 58) (lv' := [(0, .ref 249)]) (st' := [.int (5 : Int32), .ref 249]) rfl ?_
  refine Ev.newa D_33 (t := .int) (by decide +kernel) (kd := 20) (by decide) (w := (cS L xs 252 72 4 2252)) (nA_c (by decide +kernel)) ?_
  show Ev (d + 1) 33 60 [(0, .ref 249)] [.ref 251, .ref 249] (cS L xs 252 72 4 2252) _
  refine Ev.putR D_33 (by decide +kernel) F_2_43 (Or.inr ⟨by decide +kernel, rfl⟩) T_2_10 (pR_c (by decide +kernel)) ?_
  show Ev (d + 1) 33 63 [(0, .ref 249)] [] (cS L xs 252 73 4 2252) _
  refine Ev.seg D_33 [(.aload_n 0, 1), (.iconst 5, 1)] (by decide +kernel) (j := 0) (pc' := 65) (lv' := [(0, .ref 249)]) (st' := [.int (5 : Int32), .ref 249]) rfl ?_
  refine Ev.newa D_33 (t := .int) (by decide +kernel) (kd := 20) (by decide) (w := (cS L xs 253 73 4 2257)) (nA_c (by decide +kernel)) ?_
  show Ev (d + 1) 33 67 [(0, .ref 249)] [.ref 252, .ref 249] (cS L xs 253 73 4 2257) _
  refine Ev.putR D_33 (by decide +kernel) F_2_46 (Or.inr ⟨by decide +kernel, rfl⟩) T_2_11 (pR_c (by decide +kernel)) ?_
  show Ev (d + 1) 33 70 [(0, .ref 249)] [] (cS L xs 253 74 4 2257) _
  refine Ev.seg D_33 [(.aload_n 0, 1), (.iconst 5, 1)] (by decide +kernel) (j := 0) (pc' := 72) (lv' := [(0, .ref 249)]) (st' := [.int (5 : Int32), .ref 249]) rfl ?_
  refine Ev.newa D_33 (t := .int) (by decide +kernel) (kd := 20) (by decide) (w := (cS L xs 254 74 4 2262)) (nA_c (by decide +kernel)) ?_
  show Ev (d + 1) 33 74 [(0, .ref 249)] [.ref 253, .ref 249] (cS L xs 254 74 4 2262) _
  refine Ev.putR D_33 (by decide +kernel) F_2_49 (Or.inr ⟨by decide +kernel, rfl⟩) T_2_12 (pR_c (by decide +kernel)) ?_
  show Ev (d + 1) 33 77 [(0, .ref 249)] [] (cS L xs 254 75 4 2262) _
  refine Ev.seg D_33 [(.aload_n 0, 1), (.iconst 5, 1)] (by decide +kernel) (j := 0) (pc' := 79) (lv' := [(0, .ref 249)]) (st' := [.int (5 : Int32), .ref 249]) rfl ?_
  refine Ev.newa D_33 (t := .int) (by decide +kernel) (kd := 20) (by decide) (w := (cS L xs 255 75 4 2267)) (nA_c (by decide +kernel)) ?_
  show Ev (d + 1) 33 81 [(0, .ref 249)] [.ref 254, .ref 249] (cS L xs 255 75 4 2267) _
  refine Ev.putR D_33 (by decide +kernel) F_2_52 (Or.inr ⟨by decide +kernel, rfl⟩) T_2_13 (pR_c (by decide +kernel)) ?_
  show Ev (d + 1) 33 84 [(0, .ref 249)] [] (cS L xs 255 76 4 2267) _
  refine Ev.seg D_33 [(.aload_n 0, 1), (.iconst 5, 1)] (by decide +kernel) (j := 0) (pc' := 86) (lv' := [(0, .ref 249)]) (st' := [.int (5 : Int32), .ref 249]) rfl ?_
  refine Ev.newa D_33 (t := .int) (by decide +kernel) (kd := 20) (by decide) (w := (cS L xs 256 76 4 2272)) (nA_c (by decide +kernel)) ?_
  show Ev (d + 1) 33 88 [(0, .ref 249)] [.ref 255, .ref 249] (cS L xs 256 76 4 2272) _
  refine Ev.putR D_33 (by decide +kernel) F_2_55 (Or.inr ⟨by decide +kernel, rfl⟩) T_2_14 (pR_c (by decide +kernel)) ?_
  show Ev (d + 1) 33 91 [(0, .ref 249)] [] (cS L xs 256 77 4 2272) _
  refine Ev.seg D_33 [(.aload_n 0, 1), (.iconst 5, 1)] (by decide +kernel) (j := 0) (pc' := 93) (lv' := [(0, .ref 249)]) (st' := [.int (5 : Int32), .ref 249]) rfl ?_
  refine Ev.newa D_33 (t := .int) (by decide +kernel) (kd := 20) (by decide) (w := (cS L xs 257 77 4 2277)) (nA_c (by decide +kernel)) ?_
  show Ev (d + 1) 33 95 [(0, .ref 249)] [.ref 256, .ref 249] (cS L xs 257 77 4 2277) _
  refine Ev.putR D_33 (by decide +kernel) F_2_58 (Or.inr ⟨by decide +kernel, rfl⟩) T_2_15 (pR_c (by decide +kernel)) ?_
  show Ev (d + 1) 33 98 [(0, .ref 249)] [] (cS L xs 257 78 4 2277) _
  refine Ev.seg D_33 [(.aload_n 0, 1), (.iconst 5, 1)] (by decide +kernel) (j := 0) (pc' := 100) (lv' := [(0, .ref 249)]) (st' := [.int (5 : Int32), .ref 249]) rfl ?_
  refine Ev.newa D_33 (t := .int) (by decide +kernel) (kd := 20) (by decide) (w := (cS L xs 258 78 4 2282)) (nA_c (by decide +kernel)) ?_
  show Ev (d + 1) 33 102 [(0, .ref 249)] [.ref 257, .ref 249] (cS L xs 258 78 4 2282) _
  refine Ev.putR D_33 (by decide +kernel) F_2_61 (Or.inr ⟨by decide +kernel, rfl⟩) T_2_16 (pR_c (by decide +kernel)) ?_
  show Ev (d + 1) 33 105 [(0, .ref 249)] [] (cS L xs 258 79 4 2282) _
  refine Ev.seg D_33 [(.aload_n 0, 1), (.bipush 30, 2)] (by decide +kernel) (j := 0) (pc' := 108) (lv' := [(0, .ref 249)]) (st' := [.int (30 : Int32), .ref 249]) rfl ?_
  refine Ev.newa D_33 (t := .int) (by decide +kernel) (kd := 20) (by decide) (w := (cS L xs 259 79 4 2312)) (nA_c (by decide +kernel)) ?_
  show Ev (d + 1) 33 110 [(0, .ref 249)] [.ref 258, .ref 249] (cS L xs 259 79 4 2312) _
  refine Ev.putR D_33 (by decide +kernel) F_2_64 (Or.inr ⟨by decide +kernel, rfl⟩) T_2_17 (pR_c (by decide +kernel)) ?_
  show Ev (d + 1) 33 113 [(0, .ref 249)] [] (cS L xs 259 80 4 2312) _
  refine Ev.seg D_33 [(.aload_n 0, 1), (.bipush 30, 2)] (by decide +kernel) (j := 0) (pc' := 116) (lv' := [(0, .ref 249)]) (st' := [.int (30 : Int32), .ref 249]) rfl ?_
  refine Ev.newa D_33 (t := .int) (by decide +kernel) (kd := 20) (by decide) (w := (cS L xs 260 80 4 2342)) (nA_c (by decide +kernel)) ?_
  show Ev (d + 1) 33 118 [(0, .ref 249)] [.ref 259, .ref 249] (cS L xs 260 80 4 2342) _
  refine Ev.putR D_33 (by decide +kernel) F_2_67 (Or.inr ⟨by decide +kernel, rfl⟩) T_2_18 (pR_c (by decide +kernel)) ?_
  show Ev (d + 1) 33 121 [(0, .ref 249)] [] (cS L xs 260 81 4 2342) _
  refine Ev.seg D_33 [(.aload_n 0, 1), (.bipush 30, 2)] (by decide +kernel) (j := 0) (pc' := 124) (lv' := [(0, .ref 249)]) (st' := [.int (30 : Int32), .ref 249]) rfl ?_
  refine Ev.newa D_33 (t := .int) (by decide +kernel) (kd := 20) (by decide) (w := (cS L xs 261 81 4 2372)) (nA_c (by decide +kernel)) ?_
  show Ev (d + 1) 33 126 [(0, .ref 249)] [.ref 260, .ref 249] (cS L xs 261 81 4 2372) _
  refine Ev.putR D_33 (by decide +kernel) F_2_70 (Or.inr ⟨by decide +kernel, rfl⟩) T_2_19 (pR_c (by decide +kernel)) ?_
  show Ev (d + 1) 33 129 [(0, .ref 249)] [] (cS L xs 261 82 4 2372) _
  exact Ev.vret D_33 (by decide +kernel)
set_option maxRecDepth 8000 in
theorem ct_12 (L : Nat) (xs : Nat → Int32) {d : Nat} (hd : 1 ≤ d) : Ev d 33 0 [(0, .ref 261)] [] (cS L xs 262 83 4 2392) (none, (cS L xs 273 94 4 2522)) := by
  obtain ⟨d, rfl⟩ : ∃ e, d = e + 1 := ⟨d - 1, by omega⟩
  refine Ev.seg D_33 [(.aload_n 0, 1)] (by decide +kernel) (j := 0) (pc' := 1) (lv' := [(0, .ref 261)]) (st' := [.ref 261]) rfl ?_
  refine Ev.obj D_33 (by decide +kernel) (Nat.succ_pos _) C_2_3 (Nat.le_of_ble_eq_true rfl) (Nat.le_of_ble_eq_true rfl) ?_
  show Ev (d + 1) 33 4 [(0, .ref 261)] [] (cS L xs 262 83 4 2392) _
  refine Ev.seg D_33 [(.aload_n 0, 1), (.iconst 0, 1)] (by decide +kernel) (j := 0) (pc' := 6) (lv' := [(0, .ref 261)]) (st' := [.int (0 : Int32), .ref 261]) rfl ?_
  refine Ev.putI D_33 (by decide +kernel) F_2_9 N_2_0 T_2_0 (pI_c0 (by decide +kernel)) ?_
  show Ev (d + 1) 33 9 [(0, .ref 261)] [] (cS L xs 262 83 4 2392) _
  refine Ev.seg D_33 [(.aload_n 0, 1), (.iconst 0, 1)] (by decide +kernel) (j := 0) (pc' := 11) (lv' := [(0, .ref 261)]) (st' := [.int (0 : Int32), .ref 261]) rfl ?_
  refine Ev.putI D_33 (by decide +kernel) F_2_15 N_2_1 T_2_1 (pI_c0 (by decide +kernel)) ?_
  show Ev (d + 1) 33 14 [(0, .ref 261)] [] (cS L xs 262 83 4 2392) _
  refine Ev.seg D_33 [(.aload_n 0, 1), (.iconst 0, 1)] (by decide +kernel) (j := 0) (pc' := 16) (lv' := [(0, .ref 261)]) (st' := [.int (0 : Int32), .ref 261]) rfl ?_
  refine Ev.putI D_33 (by decide +kernel) F_2_18 N_2_2 T_2_2 (pI_c0 (by decide +kernel)) ?_
  show Ev (d + 1) 33 19 [(0, .ref 261)] [] (cS L xs 262 83 4 2392) _
  refine Ev.seg D_33 [(.aload_n 0, 1), (.iconst 0, 1)] (by decide +kernel) (j := 0) (pc' := 21) (lv' := [(0, .ref 261)]) (st' := [.int (0 : Int32), .ref 261]) rfl ?_
  refine Ev.putI D_33 (by decide +kernel) F_2_21 N_2_3 T_2_3 (pI_c0 (by decide +kernel)) ?_
  show Ev (d + 1) 33 24 [(0, .ref 261)] [] (cS L xs 262 83 4 2392) _
  refine Ev.seg D_33 [(.aload_n 0, 1), (.iconst 0, 1)] (by decide +kernel) (j := 0) (pc' := 26) (lv' := [(0, .ref 261)]) (st' := [.int (0 : Int32), .ref 261]) rfl ?_
  refine Ev.putI D_33 (by decide +kernel) F_2_24 N_2_4 T_2_4 (pI_c0 (by decide +kernel)) ?_
  show Ev (d + 1) 33 29 [(0, .ref 261)] [] (cS L xs 262 83 4 2392) _
  refine Ev.seg D_33 [(.aload_n 0, 1), (.iconst 0, 1)] (by decide +kernel) (j := 0) (pc' := 31) (lv' := [(0, .ref 261)]) (st' := [.int (0 : Int32), .ref 261]) rfl ?_
  refine Ev.putI D_33 (by decide +kernel) F_2_27 N_2_5 T_2_5 (pI_c0 (by decide +kernel)) ?_
  show Ev (d + 1) 33 34 [(0, .ref 261)] [] (cS L xs 262 83 4 2392) _
  refine Ev.seg D_33 [(.aload_n 0, 1), (.iconst 0, 1)] (by decide +kernel) (j := 0) (pc' := 36) (lv' := [(0, .ref 261)]) (st' := [.int (0 : Int32), .ref 261]) rfl ?_
  refine Ev.putI D_33 (by decide +kernel) F_2_30 N_2_6 T_2_6 (pI_c0 (by decide +kernel)) ?_
  show Ev (d + 1) 33 39 [(0, .ref 261)] [] (cS L xs 262 83 4 2392) _
  refine Ev.seg D_33 [(.aload_n 0, 1), (.iconst 0, 1)] (by decide +kernel) (j := 0) (pc' := 41) (lv' := [(0, .ref 261)]) (st' := [.int (0 : Int32), .ref 261]) rfl ?_
  refine Ev.putI D_33 (by decide +kernel) F_2_33 N_2_7 T_2_7 (pI_c0 (by decide +kernel)) ?_
  show Ev (d + 1) 33 44 [(0, .ref 261)] [] (cS L xs 262 83 4 2392) _
  refine Ev.seg D_33 [(.aload_n 0, 1), (.iconst 0, 1)] (by decide +kernel) (j := 0) (pc' := 46) (lv' := [(0, .ref 261)]) (st' := [.int (0 : Int32), .ref 261]) rfl ?_
  refine Ev.putI D_33 (by decide +kernel) F_2_36 N_2_8 T_2_8 (pI_c0 (by decide +kernel)) ?_
  show Ev (d + 1) 33 49 [(0, .ref 261)] [] (cS L xs 262 83 4 2392) _
  refine Ev.seg D_33 [(.aload_n 0, 1), (.iconst 5, 1)] (by decide +kernel) (j := 0) (pc' := 51) (lv' := [(0, .ref 261)]) (st' := [.int (5 : Int32), .ref 261]) rfl ?_
  refine Ev.newa D_33 (t := .int) (by decide +kernel) (kd := 20) (by decide) (w := (cS L xs 263 83 4 2397)) (nA_c (by decide +kernel)) ?_
  show Ev (d + 1) 33 53 [(0, .ref 261)] [.ref 262, .ref 261] (cS L xs 263 83 4 2397) _
  refine Ev.putR D_33 (by decide +kernel) F_2_39 (Or.inr ⟨by decide +kernel, rfl⟩) T_2_9 (pR_c (by decide +kernel)) ?_
  show Ev (d + 1) 33 56 [(0, .ref 261)] [] (cS L xs 263 84 4 2397) _
  refine Ev.seg D_33 [(.aload_n 0, 1), (.iconst 5, 1)] (by decide +kernel) (j := 0) (pc' := 58) (lv' := [(0, .ref 261)]) (st' := [.int (5 : Int32), .ref 261]) rfl ?_
  refine Ev.newa D_33 (t := .int) (by decide +kernel) (kd := 20) (by decide) (w := (cS L xs 264 84 4 2402)) (nA_c (by decide +kernel)) ?_
  show Ev (d + 1) 33 60 [(0, .ref 261)] [.ref 263, .ref 261] (cS L xs 264 84 4 2402) _
  refine Ev.putR D_33 (by decide +kernel) F_2_43 (Or.inr ⟨by decide +kernel, rfl⟩) T_2_10 (pR_c (by decide +kernel)) ?_
  show Ev (d + 1) 33 63 [(0, .ref 261)] [] (cS L xs 264 85 4 2402) _
  refine Ev.seg D_33 [(.aload_n 0, 1), (.iconst 5, 1)] (by decide +kernel) (j := 0) (pc' := 65) (lv' := [(0, .ref 261)]) (st' := [.int (5 : Int32), .ref 261]) rfl ?_
  refine Ev.newa D_33 (t := .int) (by decide +kernel) (kd := 20) (by decide) (w := (cS L xs 265 85 4 2407)) (nA_c (by decide +kernel)) ?_
  show Ev (d + 1) 33 67 [(0, .ref 261)] [.ref 264, .ref 261] (cS L xs 265 85 4 2407) _
  refine Ev.putR D_33 (by decide +kernel) F_2_46 (Or.inr ⟨by decide +kernel, rfl⟩) T_2_11 (pR_c (by decide +kernel)) ?_
  show Ev (d + 1) 33 70 [(0, .ref 261)] [] (cS L xs 265 86 4 2407) _
  refine Ev.seg D_33 [(.aload_n 0, 1), (.iconst 5, 1)] (by decide +kernel) (j := 0) (pc' := 72) (lv' := [(0, .ref 261)]) (st' := [.int (5 : Int32), .ref 261]) rfl ?_
  refine Ev.newa D_33 (t := .int) (by decide +kernel) (kd := 20) (by decide) (w := (cS L xs 266 86 4 2412)) (nA_c (by decide +kernel)) ?_
  show Ev (d + 1) 33 74 [(0, .ref 261)] [.ref 265, .ref 261] (cS L xs 266 86 4 2412) _
  refine Ev.putR D_33 (by decide +kernel) F_2_49 (Or.inr ⟨by decide +kernel, rfl⟩) T_2_12 (pR_c (by decide +kernel)) ?_
  show Ev (d + 1) 33 77 [(0, .ref 261)] [] (cS L xs 266 87 4 2412) _
  refine Ev.seg D_33 [(.aload_n 0, 1), (.iconst 5, 1)] (by decide +kernel) (j := 0) (pc' := 79) (lv' := [(0, .ref 261)]) (st' := [.int (5 : Int32), .ref 261]) rfl ?_
  refine Ev.newa D_33 (t := .int) (by decide +kernel) (kd := 20) (by decide) (w := (cS L xs 267 87 4 2417)) (nA_c (by decide +kernel)) ?_
  show Ev (d + 1) 33 81 [(0, .ref 261)] [.ref 266, .ref 261] (cS L xs 267 87 4 2417) _
  refine Ev.putR D_33 (by decide +kernel) F_2_52 (Or.inr ⟨by decide +kernel, rfl⟩) T_2_13 (pR_c (by decide +kernel)) ?_
  show Ev (d + 1) 33 84 [(0, .ref 261)] [] (cS L xs 267 88 4 2417) _
  refine Ev.seg D_33 [(.aload_n 0, 1), (.iconst 5, 1)] (by decide +kernel) (j := 0) (pc' := 86) (lv' := [(0, .ref 261)]) (st' := [.int (5 : Int32), .ref 261]) rfl ?_
  refine Ev.newa D_33 (t := .int) (by decide +kernel) (kd := 20) (by decide) (w := (cS L xs 268 88 4 2422)) (nA_c (by decide +kernel)) ?_
  show Ev (d + 1) 33 88 [(0, .ref 261)] [.ref 267, .ref 261] (cS L xs 268 88 4 2422) _
  refine Ev.putR D_33 (by decide +kernel) F_2_55 (Or.inr ⟨by decide +kernel, rfl⟩) T_2_14 (pR_c (by decide +kernel)) ?_
  show Ev (d + 1) 33 91 [(0, .ref 261)] [] (cS L xs 268 89 4 2422) _
  refine Ev.seg D_33 [(.aload_n 0, 1), (.iconst 5, 1)] (by decide +kernel) (j := 0) (pc' := 93) (lv' := [(0, .ref 261)]) (st' := [.int (5 : Int32), .ref 261]) rfl ?_
  refine Ev.newa D_33 (t := .int) (by decide +kernel) (kd := 20) (by decide) (w := (cS L xs 269 89 4 2427)) (nA_c (by decide +kernel)) ?_
  show Ev (d + 1) 33 95 [(0, .ref 261)] [.ref 268, .ref 261] (cS L xs 269 89 4 2427) _
  refine Ev.putR D_33 (by decide +kernel) F_2_58 (Or.inr ⟨by decide +kernel, rfl⟩) T_2_15 (pR_c (by decide +kernel)) ?_
  show Ev (d + 1) 33 98 [(0, .ref 261)] [] (cS L xs 269 90 4 2427) _
  refine Ev.seg D_33 [(.aload_n 0, 1), (.iconst 5, 1)] (by decide +kernel) (j := 0) (pc' := 100) (lv' := [(0, .ref 261)]) (st' := [.int (5 : Int32), .ref 261]) rfl ?_
  refine Ev.newa D_33 (t := .int) (by decide +kernel) (kd := 20) (by decide) (w := (cS L xs 270 90 4 2432)) (nA_c (by decide +kernel)) ?_
  show Ev (d + 1) 33 102 [(0, .ref 261)] [.ref 269, .ref 261] (cS L xs 270 90 4 2432) _
  refine Ev.putR D_33 (by decide +kernel) F_2_61 (Or.inr ⟨by decide +kernel, rfl⟩) T_2_16 (pR_c (by decide +kernel)) ?_
  show Ev (d + 1) 33 105 [(0, .ref 261)] [] (cS L xs 270 91 4 2432) _
  refine Ev.seg D_33 [(.aload_n 0, 1), (.bipush 30, 2)] (by decide +kernel) (j := 0) (pc' := 108) (lv' := [(0, .ref 261)]) (st' := [.int (30 : Int32), .ref 261]) rfl ?_
  refine Ev.newa D_33 (t := .int) (by decide +kernel) (kd := 20) (by decide) (w := (cS L xs 271 91 4 2462)) (nA_c (by decide +kernel)) ?_
  show Ev (d + 1) 33 110 [(0, .ref 261)] [.ref 270, .ref 261] (cS L xs 271 91 4 2462) _
  refine Ev.putR D_33 (by decide +kernel) F_2_64 (Or.inr ⟨by decide +kernel, rfl⟩) T_2_17 (pR_c (by decide +kernel)) ?_
  show Ev (d + 1) 33 113 [(0, .ref 261)] [] (cS L xs 271 92 4 2462) _
  refine Ev.seg D_33 [(.aload_n 0, 1), (.bipush 30, 2)] (by decide +kernel) (j := 0) (pc' := 116) (lv' := [(0, .ref 261)]) (st' := [.int (30 : Int32), .ref 261]) rfl ?_
  refine Ev.newa D_33 (t := .int) (by decide +kernel) (kd := 20) (by decide) (w := (cS L xs 272 92 4 2492)) (nA_c (by decide +kernel)) ?_
  show Ev (d + 1) 33 118 [(0, .ref 261)] [.ref 271, .ref 261] (cS L xs 272 92 4 2492) _
  refine Ev.putR D_33 (by decide +kernel) F_2_67 (Or.inr ⟨by decide +kernel, rfl⟩) T_2_18 (pR_c (by decide +kernel)) ?_
  show Ev (d + 1) 33 121 [(0, .ref 261)] [] (cS L xs 272 93 4 2492) _
  refine Ev.seg D_33 [(.aload_n 0, 1), (.bipush 30, 2)] (by decide +kernel) (j := 0) (pc' := 124) (lv' := [(0, .ref 261)]) (st' := [.int (30 : Int32), .ref 261]) rfl ?_
  refine Ev.newa D_33 (t := .int) (by decide +kernel) (kd := 20) (by decide) (w := (cS L xs 273 93 4 2522)) (nA_c (by decide +kernel)) ?_
  show Ev (d + 1) 33 126 [(0, .ref 261)] [.ref 272, .ref 261] (cS L xs 273 93 4 2522) _
  refine Ev.putR D_33 (by decide +kernel) F_2_70 (Or.inr ⟨by decide +kernel, rfl⟩) T_2_19 (pR_c (by decide +kernel)) ?_
  show Ev (d + 1) 33 129 [(0, .ref 261)] [] (cS L xs 273 94 4 2522) _
  exact Ev.vret D_33 (by decide +kernel)
set_option maxRecDepth 8000 in
theorem ct_13 (L : Nat) (xs : Nat → Int32) {d : Nat} (hd : 1 ≤ d) : Ev d 33 0 [(0, .ref 273)] [] (cS L xs 274 95 4 2542) (none, (cS L xs 285 106 4 2672)) := by
  obtain ⟨d, rfl⟩ : ∃ e, d = e + 1 := ⟨d - 1, by omega⟩
  refine Ev.seg D_33 [(.aload_n 0, 1)] (by decide +kernel) (j := 0) (pc' := 1) (lv' := [(0, .ref 273)]) (st' := [.ref 273]) rfl ?_
  refine Ev.obj D_33 (by decide +kernel) (Nat.succ_pos _) C_2_3 (Nat.le_of_ble_eq_true rfl) (Nat.le_of_ble_eq_true rfl) ?_
  show Ev (d + 1) 33 4 [(0, .ref 273)] [] (cS L xs 274 95 4 2542) _
  refine Ev.seg D_33 [(.aload_n 0, 1), (.iconst 0, 1)] (by decide +kernel) (j := 0) (pc' := 6) (lv' := [(0, .ref 273)]) (st' := [.int (0 : Int32), .ref 273]) rfl ?_
  refine Ev.putI D_33 (by decide +kernel) F_2_9 N_2_0 T_2_0 (pI_c0 (by decide +kernel)) ?_
  show Ev (d + 1) 33 9 [(0, .ref 273)] [] (cS L xs 274 95 4 2542) _
  refine Ev.seg D_33 [(.aload_n 0, 1), (.iconst 0, 1)] (by decide +kernel) (j := 0) (pc' := 11) (lv' := [(0, .ref 273)]) (st' := [.int (0 : Int32), .ref 273]) rfl ?_
  refine Ev.putI D_33 (by decide +kernel) F_2_15 N_2_1 T_2_1 (pI_c0 (by decide +kernel)) ?_
  show Ev (d + 1) 33 14 [(0, .ref 273)] [] (cS L xs 274 95 4 2542) _
  refine Ev.seg D_33 [(.aload_n 0, 1), (.iconst 0, 1)] (by decide +kernel) (j := 0) (pc' := 16) (lv' := [(0, .ref 273)]) (st' := [.int (0 : Int32), .ref 273]) rfl ?_
  refine Ev.putI D_33 (by decide +kernel) F_2_18 N_2_2 T_2_2 (pI_c0 (by decide +kernel)) ?_
  show Ev (d + 1) 33 19 [(0, .ref 273)] [] (cS L xs 274 95 4 2542) _
  refine Ev.seg D_33 [(.aload_n 0, 1), (.iconst 0, 1)] (by decide +kernel) (j := 0) (pc' := 21) (lv' := [(0, .ref 273)]) (st' := [.int (0 : Int32), .ref 273]) rfl ?_
  refine Ev.putI D_33 (by decide +kernel) F_2_21 N_2_3 T_2_3 (pI_c0 (by decide +kernel)) ?_
  show Ev (d + 1) 33 24 [(0, .ref 273)] [] (cS L xs 274 95 4 2542) _
  refine Ev.seg D_33 [(.aload_n 0, 1), (.iconst 0, 1)] (by decide +kernel) (j := 0) (pc' := 26) (lv' := [(0, .ref 273)]) (st' := [.int (0 : Int32), .ref 273]) rfl ?_
  refine Ev.putI D_33 (by decide +kernel) F_2_24 N_2_4 T_2_4 (pI_c0 (by decide +kernel)) ?_
  show Ev (d + 1) 33 29 [(0, .ref 273)] [] (cS L xs 274 95 4 2542) _
  refine Ev.seg D_33 [(.aload_n 0, 1), (.iconst 0, 1)] (by decide +kernel) (j := 0) (pc' := 31) (lv' := [(0, .ref 273)]) (st' := [.int (0 : Int32), .ref 273]) rfl ?_
  refine Ev.putI D_33 (by decide +kernel) F_2_27 N_2_5 T_2_5 (pI_c0 (by decide +kernel)) ?_
  show Ev (d + 1) 33 34 [(0, .ref 273)] [] (cS L xs 274 95 4 2542) _
  refine Ev.seg D_33 [(.aload_n 0, 1), (.iconst 0, 1)] (by decide +kernel) (j := 0) (pc' := 36) (lv' := [(0, .ref 273)]) (st' := [.int (0 : Int32), .ref 273]) rfl ?_
  refine Ev.putI D_33 (by decide +kernel) F_2_30 N_2_6 T_2_6 (pI_c0 (by decide +kernel)) ?_
  show Ev (d + 1) 33 39 [(0, .ref 273)] [] (cS L xs 274 95 4 2542) _
  refine Ev.seg D_33 [(.aload_n 0, 1), (.iconst 0, 1)] (by decide +kernel) (j := 0) (pc' := 41) (lv' := [(0, .ref 273)]) (st' := [.int (0 : Int32), .ref 273]) rfl ?_
  refine Ev.putI D_33 (by decide +kernel) F_2_33 N_2_7 T_2_7 (pI_c0 (by decide +kernel)) ?_
  show Ev (d + 1) 33 44 [(0, .ref 273)] [] (cS L xs 274 95 4 2542) _
  refine Ev.seg D_33 [(.aload_n 0, 1), (.iconst 0, 1)] (by decide +kernel) (j := 0) (pc' := 46) (lv' := [(0, .ref 273)]) (st' := [.int (0 : Int32), .ref 273]) rfl ?_
  refine Ev.putI D_33 (by decide +kernel) F_2_36 N_2_8 T_2_8 (pI_c0 (by decide +kernel)) ?_
  show Ev (d + 1) 33 49 [(0, .ref 273)] [] (cS L xs 274 95 4 2542) _
  refine Ev.seg D_33 [(.aload_n 0, 1), (.iconst 5, 1)] (by decide +kernel) (j := 0) (pc' := 51) (lv' := [(0, .ref 273)]) (st' := [.int (5 : Int32), .ref 273]) rfl ?_
  refine Ev.newa D_33 (t := .int) (by decide +kernel) (kd := 20) (by decide) (w := (cS L xs 275 95 4 2547)) (nA_c (by decide +kernel)) ?_
  show Ev (d + 1) 33 53 [(0, .ref 273)] [.ref 274, .ref 273] (cS L xs 275 95 4 2547) _
  refine Ev.putR D_33 (by decide +kernel) F_2_39 (Or.inr ⟨by decide +kernel, rfl⟩) T_2_9 (pR_c (by decide +kernel)) ?_
  show Ev (d + 1) 33 56 [(0, .ref 273)] [] (cS L xs 275 96 4 2547) _
  refine Ev.seg D_33 [(.aload_n 0, 1), (.iconst 5, 1)] (by decide +kernel) (j := 0) (pc' := 58) (lv' := [(0, .ref 273)]) (st' := [.int (5 : Int32), .ref 273]) rfl ?_
  refine Ev.newa D_33 (t := .int) (by decide +kernel) (kd := 20) (by decide) (w := (cS L xs 276 96 4 2552)) (nA_c (by decide +kernel)) ?_
  show Ev (d + 1) 33 60 [(0, .ref 273)] [.ref 275, .ref 273] (cS L xs 276 96 4 2552) _
  refine Ev.putR D_33 (by decide +kernel) F_2_43 (Or.inr ⟨by decide +kernel, rfl⟩) T_2_10 (pR_c (by decide +kernel)) ?_
  show Ev (d + 1) 33 63 [(0, .ref 273)] [] (cS L xs 276 97 4 2552) _
  refine Ev.seg D_33 [(.aload_n 0, 1), (.iconst 5, 1)] (by decide +kernel) (j := 0) (pc' := 65) (lv' := [(0, .ref 273)]) (st' := [.int (5 : Int32), .ref 273]) rfl ?_
  refine Ev.newa D_33 (t := .int) (by decide +kernel) (kd := 20) (by decide) (w := (cS L xs 277 97 4 2557)) (nA_c (by decide +kernel)) ?_
  show Ev (d + 1) 33 67 [(0, .ref 273)] [.ref 276, .ref 273] (cS L xs 277 97 4 2557) _
  refine Ev.putR D_33 (by decide +kernel) F_2_46 (Or.inr ⟨by decide +kernel, rfl⟩) T_2_11 (pR_c (by decide +kernel)) ?_
  show Ev (d + 1) 33 70 [(0, .ref 273)] [] (cS L xs 277 98 4 2557) _
  refine Ev.seg D_33 [(.aload_n 0, 1), (.iconst 5, 1)] (by decide +kernel) (j := 0) (pc' := 72) (lv' := [(0, .ref 273)]) (st' := [.int (5 : Int32), .ref 273]) rfl ?_
  refine Ev.newa D_33 (t := .int) (by decide +kernel) (kd := 20) (by decide) (w := (cS L xs 278 98 4 2562)) (nA_c (by decide +kernel)) ?_
  show Ev (d + 1) 33 74 [(0, .ref 273)] [.ref 277, .ref 273] (cS L xs 278 98 4 2562) _
  refine Ev.putR D_33 (by decide +kernel) F_2_49 (Or.inr ⟨by decide +kernel, rfl⟩) T_2_12 (pR_c (by decide +kernel)) ?_
  show Ev (d + 1) 33 77 [(0, .ref 273)] [] (cS L xs 278 99 4 2562) _
  refine Ev.seg D_33 [(.aload_n 0, 1), (.iconst 5, 1)] (by decide +kernel) (j := 0) (pc' := 79) (lv' := [(0, .ref 273)]) (st' := [.int (5 : Int32), .ref 273]) rfl ?_
  refine Ev.newa D_33 (t := .int) (by decide +kernel) (kd := 20) (by decide) (w := (cS L xs 279 99 4 2567)) (nA_c (by decide +kernel)) ?_
  show Ev (d + 1) 33 81 [(0, .ref 273)] [.ref 278, .ref 273] (cS L xs 279 99 4 2567) _
  refine Ev.putR D_33 (by decide +kernel) F_2_52 (Or.inr ⟨by decide +kernel, rfl⟩) T_2_13 (pR_c (by decide +kernel)) ?_
  show Ev (d + 1) 33 84 [(0, .ref 273)] [] (cS L xs 279 100 4 2567) _
  refine Ev.seg D_33 [(.aload_n 0, 1), (.iconst 5, 1)] (by decide +kernel) (j := 0) (pc' := 86) (lv' := [(0, .ref 273)]) (st' := [.int (5 : Int32), .ref 273]) rfl ?_
  refine Ev.newa D_33 (t := .int) (by decide +kernel) (kd := 20) (by decide) (w := (cS L xs 280 100 4 2572)) (nA_c (by decide +kernel)) ?_
  show Ev (d + 1) 33 88 [(0, .ref 273)] [.ref 279, .ref 273] (cS L xs 280 100 4 2572) _
  refine Ev.putR D_33 (by decide +kernel) F_2_55 (Or.inr ⟨by decide +kernel, rfl⟩) T_2_14 (pR_c (by decide +kernel)) ?_
  show Ev (d + 1) 33 91 [(0, .ref 273)] [] (cS L xs 280 101 4 2572) _
  refine Ev.seg D_33 [(.aload_n 0, 1), (.iconst 5, 1)] (by decide +kernel) (j := 0) (pc' := 93) (lv' := [(0, .ref 273)]) (st' := [.int (5 : Int32), .ref 273]) rfl ?_
  refine Ev.newa D_33 (t := .int) (by decide +kernel) (kd := 20) (by decide) (w := (cS L xs 281 101 4 2577)) (nA_c (by decide +kernel)) ?_
  show Ev (d + 1) 33 95 [(0, .ref 273)] [.ref 280, .ref 273] (cS L xs 281 101 4 2577) _
  refine Ev.putR D_33 (by decide +kernel) F_2_58 (Or.inr ⟨by decide +kernel, rfl⟩) T_2_15 (pR_c (by decide +kernel)) ?_
  show Ev (d + 1) 33 98 [(0, .ref 273)] [] (cS L xs 281 102 4 2577) _
  refine Ev.seg D_33 [(.aload_n 0, 1), (.iconst 5, 1)] (by decide +kernel) (j := 0) (pc' := 100) (lv' := [(0, .ref 273)]) (st' := [.int (5 : Int32), .ref 273]) rfl ?_
  refine Ev.newa D_33 (t := .int) (by decide +kernel) (kd := 20) (by decide) (w := (cS L xs 282 102 4 2582)) (nA_c (by decide +kernel)) ?_
  show Ev (d + 1) 33 102 [(0, .ref 273)] [.ref 281, .ref 273] (cS L xs 282 102 4 2582) _
  refine Ev.putR D_33 (by decide +kernel) F_2_61 (Or.inr ⟨by decide +kernel, rfl⟩) T_2_16 (pR_c (by decide +kernel)) ?_
  show Ev (d + 1) 33 105 [(0, .ref 273)] [] (cS L xs 282 103 4 2582) _
  refine Ev.seg D_33 [(.aload_n 0, 1), (.bipush 30, 2)] (by decide +kernel) (j := 0) (pc' := 108) (lv' := [(0, .ref 273)]) (st' := [.int (30 : Int32), .ref 273]) rfl ?_
  refine Ev.newa D_33 (t := .int) (by decide +kernel) (kd := 20) (by decide) (w := (cS L xs 283 103 4 2612)) (nA_c (by decide +kernel)) ?_
  show Ev (d + 1) 33 110 [(0, .ref 273)] [.ref 282, .ref 273] (cS L xs 283 103 4 2612) _
  refine Ev.putR D_33 (by decide +kernel) F_2_64 (Or.inr ⟨by decide +kernel, rfl⟩) T_2_17 (pR_c (by decide +kernel)) ?_
  show Ev (d + 1) 33 113 [(0, .ref 273)] [] (cS L xs 283 104 4 2612) _
  refine Ev.seg D_33 [(.aload_n 0, 1), (.bipush 30, 2)] (by decide +kernel) (j := 0) (pc' := 116) (lv' := [(0, .ref 273)]) (st' := [.int (30 : Int32), .ref 273]) rfl ?_
  refine Ev.newa D_33 (t := .int) (by decide +kernel) (kd := 20) (by decide) (w := (cS L xs 284 104 4 2642)) (nA_c (by decide +kernel)) ?_
  show Ev (d + 1) 33 118 [(0, .ref 273)] [.ref 283, .ref 273] (cS L xs 284 104 4 2642) _
  refine Ev.putR D_33 (by decide +kernel) F_2_67 (Or.inr ⟨by decide +kernel, rfl⟩) T_2_18 (pR_c (by decide +kernel)) ?_
  show Ev (d + 1) 33 121 [(0, .ref 273)] [] (cS L xs 284 105 4 2642) _
  refine Ev.seg D_33 [(.aload_n 0, 1), (.bipush 30, 2)] (by decide +kernel) (j := 0) (pc' := 124) (lv' := [(0, .ref 273)]) (st' := [.int (30 : Int32), .ref 273]) rfl ?_
  refine Ev.newa D_33 (t := .int) (by decide +kernel) (kd := 20) (by decide) (w := (cS L xs 285 105 4 2672)) (nA_c (by decide +kernel)) ?_
  show Ev (d + 1) 33 126 [(0, .ref 273)] [.ref 284, .ref 273] (cS L xs 285 105 4 2672) _
  refine Ev.putR D_33 (by decide +kernel) F_2_70 (Or.inr ⟨by decide +kernel, rfl⟩) T_2_19 (pR_c (by decide +kernel)) ?_
  show Ev (d + 1) 33 129 [(0, .ref 273)] [] (cS L xs 285 106 4 2672) _
  exact Ev.vret D_33 (by decide +kernel)
set_option maxRecDepth 8000 in
theorem ct_14 (L : Nat) (xs : Nat → Int32) {d : Nat} (hd : 1 ≤ d) : Ev d 65 0 [(0, .ref 286)] [] (cS L xs 287 108 4 2680) (none, (cS L xs 288 109 4 2740)) := by
  obtain ⟨d, rfl⟩ : ∃ e, d = e + 1 := ⟨d - 1, by omega⟩
  refine Ev.seg D_65 [(.aload_n 0, 1)] (by decide +kernel) (j := 0) (pc' := 1) (lv' := [(0, .ref 286)]) (st' := [.ref 286]) rfl ?_
  refine Ev.obj D_65 (by decide +kernel) (Nat.succ_pos _) C_4_3 (Nat.le_of_ble_eq_true rfl) (Nat.le_of_ble_eq_true rfl) ?_
  show Ev (d + 1) 65 4 [(0, .ref 286)] [] (cS L xs 287 108 4 2680) _
  refine Ev.seg D_65 [(.aload_n 0, 1), (.bipush 60, 2)] (by decide +kernel) (j := 0) (pc' := 7) (lv' := [(0, .ref 286)]) (st' := [.int (60 : Int32), .ref 286]) rfl ?_
  refine Ev.newa D_65 (t := .long) (by decide +kernel) (kd := 23) (by decide) (w := (cS L xs 288 108 4 2740)) (nA_c (by decide +kernel)) ?_
  show Ev (d + 1) 65 9 [(0, .ref 286)] [.ref 287, .ref 286] (cS L xs 288 108 4 2740) _
  refine Ev.putR D_65 (by decide +kernel) F_4_9 (Or.inr ⟨by decide +kernel, rfl⟩) T_4_0 (pR_c (by decide +kernel)) ?_
  show Ev (d + 1) 65 12 [(0, .ref 286)] [] (cS L xs 288 109 4 2740) _
  refine Ev.seg D_65 [(.aload_n 0, 1), (.iconst 0, 1)] (by decide +kernel) (j := 0) (pc' := 14) (lv' := [(0, .ref 286)]) (st' := [.int (0 : Int32), .ref 286]) rfl ?_
  refine Ev.putZ D_65 (by decide +kernel) F_4_15 N_4_1 T_4_1 (pZ_c0 (by decide +kernel)) ?_
  show Ev (d + 1) 65 17 [(0, .ref 286)] [] (cS L xs 288 109 4 2740) _
  refine Ev.seg D_65 [(.aload_n 0, 1), (.iconst 0, 1)] (by decide +kernel) (j := 0) (pc' := 19) (lv' := [(0, .ref 286)]) (st' := [.int (0 : Int32), .ref 286]) rfl ?_
  refine Ev.putI D_65 (by decide +kernel) F_4_19 N_4_2 T_4_2 (pI_c0 (by decide +kernel)) ?_
  show Ev (d + 1) 65 22 [(0, .ref 286)] [] (cS L xs 288 109 4 2740) _
  refine Ev.seg D_65 [(.aload_n 0, 1), (.iconst 0, 1)] (by decide +kernel) (j := 0) (pc' := 24) (lv' := [(0, .ref 286)]) (st' := [.int (0 : Int32), .ref 286]) rfl ?_
  refine Ev.putI D_65 (by decide +kernel) F_4_23 N_4_3 T_4_3 (pI_c0 (by decide +kernel)) ?_
  show Ev (d + 1) 65 27 [(0, .ref 286)] [] (cS L xs 288 109 4 2740) _
  exact Ev.vret D_65 (by decide +kernel)
set_option maxRecDepth 8000 in
theorem ct_15 (L : Nat) (xs : Nat → Int32) {d : Nat} (hd : 1 ≤ d) : Ev d 65 0 [(0, .ref 288)] [] (cS L xs 289 110 4 2744) (none, (cS L xs 290 111 4 2804)) := by
  obtain ⟨d, rfl⟩ : ∃ e, d = e + 1 := ⟨d - 1, by omega⟩
  refine Ev.seg D_65 [(.aload_n 0, 1)] (by decide +kernel) (j := 0) (pc' := 1) (lv' := [(0, .ref 288)]) (st' := [.ref 288]) rfl ?_
  refine Ev.obj D_65 (by decide +kernel) (Nat.succ_pos _) C_4_3 (Nat.le_of_ble_eq_true rfl) (Nat.le_of_ble_eq_true rfl) ?_
  show Ev (d + 1) 65 4 [(0, .ref 288)] [] (cS L xs 289 110 4 2744) _
  refine Ev.seg D_65 [(.aload_n 0, 1), (.bipush 60, 2)] (by decide +kernel) (j := 0) (pc' := 7) (lv' := [(0, .ref 288)]) (st' := [.int (60 : Int32), .ref 288]) rfl ?_
  refine Ev.newa D_65 (t := .long) (by decide +kernel) (kd := 23) (by decide) (w := (cS L xs 290 110 4 2804)) (nA_c (by decide +kernel)) ?_
  show Ev (d + 1) 65 9 [(0, .ref 288)] [.ref 289, .ref 288] (cS L xs 290 110 4 2804) _
  refine Ev.putR D_65 (by decide +kernel) F_4_9 (Or.inr ⟨by decide +kernel, rfl⟩) T_4_0 (pR_c (by decide +kernel)) ?_
  show Ev (d + 1) 65 12 [(0, .ref 288)] [] (cS L xs 290 111 4 2804) _
  refine Ev.seg D_65 [(.aload_n 0, 1), (.iconst 0, 1)] (by decide +kernel) (j := 0) (pc' := 14) (lv' := [(0, .ref 288)]) (st' := [.int (0 : Int32), .ref 288]) rfl ?_
  refine Ev.putZ D_65 (by decide +kernel) F_4_15 N_4_1 T_4_1 (pZ_c0 (by decide +kernel)) ?_
  show Ev (d + 1) 65 17 [(0, .ref 288)] [] (cS L xs 290 111 4 2804) _
  refine Ev.seg D_65 [(.aload_n 0, 1), (.iconst 0, 1)] (by decide +kernel) (j := 0) (pc' := 19) (lv' := [(0, .ref 288)]) (st' := [.int (0 : Int32), .ref 288]) rfl ?_
  refine Ev.putI D_65 (by decide +kernel) F_4_19 N_4_2 T_4_2 (pI_c0 (by decide +kernel)) ?_
  show Ev (d + 1) 65 22 [(0, .ref 288)] [] (cS L xs 290 111 4 2804) _
  refine Ev.seg D_65 [(.aload_n 0, 1), (.iconst 0, 1)] (by decide +kernel) (j := 0) (pc' := 24) (lv' := [(0, .ref 288)]) (st' := [.int (0 : Int32), .ref 288]) rfl ?_
  refine Ev.putI D_65 (by decide +kernel) F_4_23 N_4_3 T_4_3 (pI_c0 (by decide +kernel)) ?_
  show Ev (d + 1) 65 27 [(0, .ref 288)] [] (cS L xs 290 111 4 2804) _
  exact Ev.vret D_65 (by decide +kernel)
set_option maxRecDepth 8000 in
theorem ct_16 (L : Nat) (xs : Nat → Int32) {d : Nat} (hd : 1 ≤ d) : Ev d 65 0 [(0, .ref 290)] [] (cS L xs 291 112 4 2808) (none, (cS L xs 292 113 4 2868)) := by
  obtain ⟨d, rfl⟩ : ∃ e, d = e + 1 := ⟨d - 1, by omega⟩
  refine Ev.seg D_65 [(.aload_n 0, 1)] (by decide +kernel) (j := 0) (pc' := 1) (lv' := [(0, .ref 290)]) (st' := [.ref 290]) rfl ?_
  refine Ev.obj D_65 (by decide +kernel) (Nat.succ_pos _) C_4_3 (Nat.le_of_ble_eq_true rfl) (Nat.le_of_ble_eq_true rfl) ?_
  show Ev (d + 1) 65 4 [(0, .ref 290)] [] (cS L xs 291 112 4 2808) _
  refine Ev.seg D_65 [(.aload_n 0, 1), (.bipush 60, 2)] (by decide +kernel) (j := 0) (pc' := 7) (lv' := [(0, .ref 290)]) (st' := [.int (60 : Int32), .ref 290]) rfl ?_
  refine Ev.newa D_65 (t := .long) (by decide +kernel) (kd := 23) (by decide) (w := (cS L xs 292 112 4 2868)) (nA_c (by decide +kernel)) ?_
  show Ev (d + 1) 65 9 [(0, .ref 290)] [.ref 291, .ref 290] (cS L xs 292 112 4 2868) _
  refine Ev.putR D_65 (by decide +kernel) F_4_9 (Or.inr ⟨by decide +kernel, rfl⟩) T_4_0 (pR_c (by decide +kernel)) ?_
  show Ev (d + 1) 65 12 [(0, .ref 290)] [] (cS L xs 292 113 4 2868) _
  refine Ev.seg D_65 [(.aload_n 0, 1), (.iconst 0, 1)] (by decide +kernel) (j := 0) (pc' := 14) (lv' := [(0, .ref 290)]) (st' := [.int (0 : Int32), .ref 290]) rfl ?_
  refine Ev.putZ D_65 (by decide +kernel) F_4_15 N_4_1 T_4_1 (pZ_c0 (by decide +kernel)) ?_
  show Ev (d + 1) 65 17 [(0, .ref 290)] [] (cS L xs 292 113 4 2868) _
  refine Ev.seg D_65 [(.aload_n 0, 1), (.iconst 0, 1)] (by decide +kernel) (j := 0) (pc' := 19) (lv' := [(0, .ref 290)]) (st' := [.int (0 : Int32), .ref 290]) rfl ?_
  refine Ev.putI D_65 (by decide +kernel) F_4_19 N_4_2 T_4_2 (pI_c0 (by decide +kernel)) ?_
  show Ev (d + 1) 65 22 [(0, .ref 290)] [] (cS L xs 292 113 4 2868) _
  refine Ev.seg D_65 [(.aload_n 0, 1), (.iconst 0, 1)] (by decide +kernel) (j := 0) (pc' := 24) (lv' := [(0, .ref 290)]) (st' := [.int (0 : Int32), .ref 290]) rfl ?_
  refine Ev.putI D_65 (by decide +kernel) F_4_23 N_4_3 T_4_3 (pI_c0 (by decide +kernel)) ?_
  show Ev (d + 1) 65 27 [(0, .ref 290)] [] (cS L xs 292 113 4 2868) _
  exact Ev.vret D_65 (by decide +kernel)
set_option maxRecDepth 8000 in
theorem ct_17 (L : Nat) (xs : Nat → Int32) {d : Nat} (hd : 1 ≤ d) : Ev d 65 0 [(0, .ref 292)] [] (cS L xs 293 114 4 2872) (none, (cS L xs 294 115 4 2932)) := by
  obtain ⟨d, rfl⟩ : ∃ e, d = e + 1 := ⟨d - 1, by omega⟩
  refine Ev.seg D_65 [(.aload_n 0, 1)] (by decide +kernel) (j := 0) (pc' := 1) (lv' := [(0, .ref 292)]) (st' := [.ref 292]) rfl ?_
  refine Ev.obj D_65 (by decide +kernel) (Nat.succ_pos _) C_4_3 (Nat.le_of_ble_eq_true rfl) (Nat.le_of_ble_eq_true rfl) ?_
  show Ev (d + 1) 65 4 [(0, .ref 292)] [] (cS L xs 293 114 4 2872) _
  refine Ev.seg D_65 [(.aload_n 0, 1), (.bipush 60, 2)] (by decide +kernel) (j := 0) (pc' := 7) (lv' := [(0, .ref 292)]) (st' := [.int (60 : Int32), .ref 292]) rfl ?_
  refine Ev.newa D_65 (t := .long) (by decide +kernel) (kd := 23) (by decide) (w := (cS L xs 294 114 4 2932)) (nA_c (by decide +kernel)) ?_
  show Ev (d + 1) 65 9 [(0, .ref 292)] [.ref 293, .ref 292] (cS L xs 294 114 4 2932) _
  refine Ev.putR D_65 (by decide +kernel) F_4_9 (Or.inr ⟨by decide +kernel, rfl⟩) T_4_0 (pR_c (by decide +kernel)) ?_
  show Ev (d + 1) 65 12 [(0, .ref 292)] [] (cS L xs 294 115 4 2932) _
  refine Ev.seg D_65 [(.aload_n 0, 1), (.iconst 0, 1)] (by decide +kernel) (j := 0) (pc' := 14) (lv' := [(0, .ref 292)]) (st' := [.int (0 : Int32), .ref 292]) rfl ?_
  refine Ev.putZ D_65 (by decide +kernel) F_4_15 N_4_1 T_4_1 (pZ_c0 (by decide +kernel)) ?_
  show Ev (d + 1) 65 17 [(0, .ref 292)] [] (cS L xs 294 115 4 2932) _
  refine Ev.seg D_65 [(.aload_n 0, 1), (.iconst 0, 1)] (by decide +kernel) (j := 0) (pc' := 19) (lv' := [(0, .ref 292)]) (st' := [.int (0 : Int32), .ref 292]) rfl ?_
  refine Ev.putI D_65 (by decide +kernel) F_4_19 N_4_2 T_4_2 (pI_c0 (by decide +kernel)) ?_
  show Ev (d + 1) 65 22 [(0, .ref 292)] [] (cS L xs 294 115 4 2932) _
  refine Ev.seg D_65 [(.aload_n 0, 1), (.iconst 0, 1)] (by decide +kernel) (j := 0) (pc' := 24) (lv' := [(0, .ref 292)]) (st' := [.int (0 : Int32), .ref 292]) rfl ?_
  refine Ev.putI D_65 (by decide +kernel) F_4_23 N_4_3 T_4_3 (pI_c0 (by decide +kernel)) ?_
  show Ev (d + 1) 65 27 [(0, .ref 292)] [] (cS L xs 294 115 4 2932) _
  exact Ev.vret D_65 (by decide +kernel)
set_option maxRecDepth 8000 in
theorem ct_18 (L : Nat) (xs : Nat → Int32) {d : Nat} (hd : 3 ≤ d) : Ev d 90 0 [(0, .ref 0)] [] (cS L xs 1 0 0 12) (none, (cS L xs 294 116 4 2932)) := by
  obtain ⟨d, rfl⟩ : ∃ e, d = e + 1 := ⟨d - 1, by omega⟩
  refine Ev.seg D_90 [(.aload_n 0, 1)] (by decide +kernel) (j := 0) (pc' := 1) (lv' := [(0, .ref 0)]) (st' := [.ref 0]) rfl ?_
  refine Ev.obj D_90 (by decide +kernel) (Nat.succ_pos _) C_9_1 (Nat.le_of_ble_eq_true rfl) (Nat.le_of_ble_eq_true rfl) ?_
  show Ev (d + 1) 90 4 [(0, .ref 0)] [] (cS L xs 1 0 0 12) _
  refine Ev.seg D_90 [(.aload_n 0, 1)] (by decide +kernel) (j := 0) (pc' := 5) (lv' := [(0, .ref 0)]) (st' := [.ref 0]) rfl ?_
  refine Ev.new D_90 (i := 7) (by decide +kernel) (ci := 8) (by decide +kernel) (by decide) (w := (cS L xs 2 0 0 14)) (nO_c (by decide +kernel)) ?_
  show Ev (d + 1) 90 8 [(0, .ref 0)] [.ref 1, .ref 0] (cS L xs 2 0 0 14) _
  refine Ev.seg D_90 [(.dup, 1)] (by decide +kernel) (j := 0) (pc' := 9) (lv' := [(0, .ref 0)]) (st' := [.ref 1, .ref 1, .ref 0]) rfl ?_
  refine Ev.calli D_90 E_88 (by decide +kernel) (Or.inr C_9_9) 1 [] (r := [.ref 1, .ref 0]) rfl rfl (Nat.le_of_ble_eq_true rfl) (Nat.le_of_ble_eq_true rfl) (ct_1 L xs (by omega)) ?_
  show Ev (d + 1) 90 12 [(0, .ref 0)] [.ref 1, .ref 0] (cS L xs 3 1 0 614) _
  refine Ev.putR D_90 (by decide +kernel) F_9_10 (Or.inr ⟨by decide +kernel, rfl⟩) T_9_0 (pR_c (by decide +kernel)) ?_
  show Ev (d + 1) 90 15 [(0, .ref 0)] [] (cS L xs 3 2 0 614) _
  refine Ev.seg D_90 [(.aload_n 0, 1)] (by decide +kernel) (j := 0) (pc' := 16) (lv' := [(0, .ref 0)]) (st' := [.ref 0]) rfl ?_
  refine Ev.new D_90 (i := 16) (by decide +kernel) (ci := 3) (by decide +kernel) (by decide) (w := (cS L xs 4 2 0 622)) (nO_c (by decide +kernel)) ?_
  show Ev (d + 1) 90 19 [(0, .ref 0)] [.ref 3, .ref 0] (cS L xs 4 2 0 622) _
  refine Ev.seg D_90 [(.dup, 1), (.aload_n 0, 1)] (by decide +kernel) (j := 0) (pc' := 21) (lv' := [(0, .ref 0)]) (st' := [.ref 0, .ref 3, .ref 3, .ref 0]) rfl ?_
  refine Ev.getR D_90 (by decide +kernel) F_9_10 T_9_0 (x := 1) (oR_c (by decide +kernel)) ?_
  show Ev (d + 1) 90 24 [(0, .ref 0)] [.ref 1, .ref 3, .ref 3, .ref 0] (cS L xs 4 2 0 622) _
  refine Ev.calli D_90 E_47 (by decide +kernel) (Or.inl C_9_18) 3 [.ref 1] (r := [.ref 3, .ref 0]) rfl rfl (Nat.le_of_ble_eq_true rfl) (Nat.le_of_ble_eq_true rfl) (ct_3 L xs (by omega)) ?_
  show Ev (d + 1) 90 27 [(0, .ref 0)] [.ref 3, .ref 0] (cS L xs 16 15 1 772) _
  refine Ev.putR D_90 (by decide +kernel) F_9_21 (Or.inr ⟨by decide +kernel, rfl⟩) T_9_1 (pR_c (by decide +kernel)) ?_
  show Ev (d + 1) 90 30 [(0, .ref 0)] [] (cS L xs 16 16 1 772) _
  refine Ev.seg D_90 [(.aload_n 0, 1)] (by decide +kernel) (j := 0) (pc' := 31) (lv' := [(0, .ref 0)]) (st' := [.ref 0]) rfl ?_
  refine Ev.new D_90 (i := 25) (by decide +kernel) (ci := 2) (by decide +kernel) (by decide) (w := (cS L xs 17 16 1 792)) (nO_c (by decide +kernel)) ?_
  show Ev (d + 1) 90 34 [(0, .ref 0)] [.ref 16, .ref 0] (cS L xs 17 16 1 792) _
  refine Ev.seg D_90 [(.dup, 1)] (by decide +kernel) (j := 0) (pc' := 35) (lv' := [(0, .ref 0)]) (st' := [.ref 16, .ref 16, .ref 0]) rfl ?_
  refine Ev.calli D_90 E_33 (by decide +kernel) (Or.inr C_9_27) 16 [] (r := [.ref 16, .ref 0]) rfl rfl (Nat.le_of_ble_eq_true rfl) (Nat.le_of_ble_eq_true rfl) (ct_4 L xs (by omega)) ?_
  show Ev (d + 1) 90 38 [(0, .ref 0)] [.ref 16, .ref 0] (cS L xs 28 27 1 922) _
  refine Ev.putR D_90 (by decide +kernel) F_9_28 (Or.inr ⟨by decide +kernel, rfl⟩) T_9_2 (pR_c (by decide +kernel)) ?_
  show Ev (d + 1) 90 41 [(0, .ref 0)] [] (cS L xs 28 28 1 922) _
  refine Ev.seg D_90 [(.aload_n 0, 1)] (by decide +kernel) (j := 0) (pc' := 42) (lv' := [(0, .ref 0)]) (st' := [.ref 0]) rfl ?_
  refine Ev.new D_90 (i := 32) (by decide +kernel) (ci := 0) (by decide +kernel) (by decide) (w := (cS L xs 29 28 1 932)) (nO_c (by decide +kernel)) ?_
  show Ev (d + 1) 90 45 [(0, .ref 0)] [.ref 28, .ref 0] (cS L xs 29 28 1 932) _
  refine Ev.seg D_90 [(.dup, 1), (.aload_n 0, 1)] (by decide +kernel) (j := 0) (pc' := 47) (lv' := [(0, .ref 0)]) (st' := [.ref 0, .ref 28, .ref 28, .ref 0]) rfl ?_
  refine Ev.getR D_90 (by decide +kernel) F_9_28 T_9_2 (x := 16) (oR_c (by decide +kernel)) ?_
  show Ev (d + 1) 90 50 [(0, .ref 0)] [.ref 16, .ref 28, .ref 28, .ref 0] (cS L xs 29 28 1 932) _
  refine Ev.calli D_90 E_0 (by decide +kernel) (Or.inl C_9_34) 28 [.ref 16] (r := [.ref 28, .ref 0]) rfl rfl (Nat.le_of_ble_eq_true rfl) (Nat.le_of_ble_eq_true rfl) (ct_5 L xs (by omega)) ?_
  show Ev (d + 1) 90 53 [(0, .ref 0)] [.ref 28, .ref 0] (cS L xs 121 37 1 1472) _
  refine Ev.putR D_90 (by decide +kernel) F_9_37 (Or.inr ⟨by decide +kernel, rfl⟩) T_9_5 (pR_c (by decide +kernel)) ?_
  show Ev (d + 1) 90 56 [(0, .ref 0)] [] (cS L xs 121 38 1 1472) _
  refine Ev.seg D_90 [(.aload_n 0, 1)] (by decide +kernel) (j := 0) (pc' := 57) (lv' := [(0, .ref 0)]) (st' := [.ref 0]) rfl ?_
  refine Ev.new D_90 (i := 32) (by decide +kernel) (ci := 0) (by decide +kernel) (by decide) (w := (cS L xs 122 38 1 1482)) (nO_c (by decide +kernel)) ?_
  show Ev (d + 1) 90 60 [(0, .ref 0)] [.ref 121, .ref 0] (cS L xs 122 38 1 1482) _
  refine Ev.seg D_90 [(.dup, 1), (.aload_n 0, 1)] (by decide +kernel) (j := 0) (pc' := 62) (lv' := [(0, .ref 0)]) (st' := [.ref 0, .ref 121, .ref 121, .ref 0]) rfl ?_
  refine Ev.getR D_90 (by decide +kernel) F_9_28 T_9_2 (x := 16) (oR_c (by decide +kernel)) ?_
  show Ev (d + 1) 90 65 [(0, .ref 0)] [.ref 16, .ref 121, .ref 121, .ref 0] (cS L xs 122 38 1 1482) _
  refine Ev.calli D_90 E_0 (by decide +kernel) (Or.inl C_9_34) 121 [.ref 16] (r := [.ref 121, .ref 0]) rfl rfl (Nat.le_of_ble_eq_true rfl) (Nat.le_of_ble_eq_true rfl) (ct_6 L xs (by omega)) ?_
  show Ev (d + 1) 90 68 [(0, .ref 0)] [.ref 121, .ref 0] (cS L xs 214 47 1 2022) _
  refine Ev.putR D_90 (by decide +kernel) F_9_41 (Or.inr ⟨by decide +kernel, rfl⟩) T_9_6 (pR_c (by decide +kernel)) ?_
  show Ev (d + 1) 90 71 [(0, .ref 0)] [] (cS L xs 214 48 1 2022) _
  refine Ev.seg D_90 [(.aload_n 0, 1)] (by decide +kernel) (j := 0) (pc' := 72) (lv' := [(0, .ref 0)]) (st' := [.ref 0]) rfl ?_
  refine Ev.new D_90 (i := 44) (by decide +kernel) (ci := 7) (by decide +kernel) (by decide) (w := (cS L xs 215 48 1 2030)) (nO_c (by decide +kernel)) ?_
  show Ev (d + 1) 90 75 [(0, .ref 0)] [.ref 214, .ref 0] (cS L xs 215 48 1 2030) _
  refine Ev.seg D_90 [(.dup, 1), (.aload_n 0, 1)] (by decide +kernel) (j := 0) (pc' := 77) (lv' := [(0, .ref 0)]) (st' := [.ref 0, .ref 214, .ref 214, .ref 0]) rfl ?_
  refine Ev.getR D_90 (by decide +kernel) F_9_28 T_9_2 (x := 16) (oR_c (by decide +kernel)) ?_
  show Ev (d + 1) 90 80 [(0, .ref 0)] [.ref 16, .ref 214, .ref 214, .ref 0] (cS L xs 215 48 1 2030) _
  refine Ev.seg D_90 [(.aload_n 0, 1)] (by decide +kernel) (j := 0) (pc' := 81) (lv' := [(0, .ref 0)]) (st' := [.ref 0, .ref 16, .ref 214, .ref 214, .ref 0]) rfl ?_
  refine Ev.getR D_90 (by decide +kernel) F_9_41 T_9_6 (x := 121) (oR_c (by decide +kernel)) ?_
  show Ev (d + 1) 90 84 [(0, .ref 0)] [.ref 121, .ref 16, .ref 214, .ref 214, .ref 0] (cS L xs 215 48 1 2030) _
  refine Ev.calli D_90 E_82 (by decide +kernel) (Or.inl C_9_46) 214 [.ref 16, .ref 121] (r := [.ref 214, .ref 0]) rfl rfl (Nat.le_of_ble_eq_true rfl) (Nat.le_of_ble_eq_true rfl) (ct_7 L xs (by omega)) ?_
  show Ev (d + 1) 90 87 [(0, .ref 0)] [.ref 214, .ref 0] (cS L xs 225 55 2 2080) _
  refine Ev.putR D_90 (by decide +kernel) F_9_49 (Or.inr ⟨by decide +kernel, rfl⟩) T_9_7 (pR_c (by decide +kernel)) ?_
  show Ev (d + 1) 90 90 [(0, .ref 0)] [] (cS L xs 225 56 2 2080) _
  refine Ev.seg D_90 [(.aload_n 0, 1)] (by decide +kernel) (j := 0) (pc' := 91) (lv' := [(0, .ref 0)]) (st' := [.ref 0]) rfl ?_
  refine Ev.new D_90 (i := 53) (by decide +kernel) (ci := 5) (by decide +kernel) (by decide) (w := (cS L xs 226 56 2 2085)) (nO_c (by decide +kernel)) ?_
  show Ev (d + 1) 90 94 [(0, .ref 0)] [.ref 225, .ref 0] (cS L xs 226 56 2 2085) _
  refine Ev.seg D_90 [(.dup, 1), (.aload_n 0, 1)] (by decide +kernel) (j := 0) (pc' := 96) (lv' := [(0, .ref 0)]) (st' := [.ref 0, .ref 225, .ref 225, .ref 0]) rfl ?_
  refine Ev.getR D_90 (by decide +kernel) F_9_28 T_9_2 (x := 16) (oR_c (by decide +kernel)) ?_
  show Ev (d + 1) 90 99 [(0, .ref 0)] [.ref 16, .ref 225, .ref 225, .ref 0] (cS L xs 226 56 2 2085) _
  refine Ev.seg D_90 [(.aload_n 0, 1)] (by decide +kernel) (j := 0) (pc' := 100) (lv' := [(0, .ref 0)]) (st' := [.ref 0, .ref 16, .ref 225, .ref 225, .ref 0]) rfl ?_
  refine Ev.getR D_90 (by decide +kernel) F_9_41 T_9_6 (x := 121) (oR_c (by decide +kernel)) ?_
  show Ev (d + 1) 90 103 [(0, .ref 0)] [.ref 121, .ref 16, .ref 225, .ref 225, .ref 0] (cS L xs 226 56 2 2085) _
  refine Ev.calli D_90 E_72 (by decide +kernel) (Or.inl C_9_55) 225 [.ref 16, .ref 121] (r := [.ref 225, .ref 0]) rfl rfl (Nat.le_of_ble_eq_true rfl) (Nat.le_of_ble_eq_true rfl) (ct_8 L xs (by omega)) ?_
  show Ev (d + 1) 90 106 [(0, .ref 0)] [.ref 225, .ref 0] (cS L xs 232 59 3 2115) _
  refine Ev.putR D_90 (by decide +kernel) F_9_56 (Or.inr ⟨by decide +kernel, rfl⟩) T_9_8 (pR_c (by decide +kernel)) ?_
  show Ev (d + 1) 90 109 [(0, .ref 0)] [] (cS L xs 232 60 3 2115) _
  refine Ev.seg D_90 [(.aload_n 0, 1)] (by decide +kernel) (j := 0) (pc' := 110) (lv' := [(0, .ref 0)]) (st' := [.ref 0]) rfl ?_
  refine Ev.new D_90 (i := 60) (by decide +kernel) (ci := 6) (by decide +kernel) (by decide) (w := (cS L xs 233 60 3 2118)) (nO_c (by decide +kernel)) ?_
  show Ev (d + 1) 90 113 [(0, .ref 0)] [.ref 232, .ref 0] (cS L xs 233 60 3 2118) _
  refine Ev.seg D_90 [(.dup, 1), (.aload_n 0, 1)] (by decide +kernel) (j := 0) (pc' := 115) (lv' := [(0, .ref 0)]) (st' := [.ref 0, .ref 232, .ref 232, .ref 0]) rfl ?_
  refine Ev.getR D_90 (by decide +kernel) F_9_28 T_9_2 (x := 16) (oR_c (by decide +kernel)) ?_
  show Ev (d + 1) 90 118 [(0, .ref 0)] [.ref 16, .ref 232, .ref 232, .ref 0] (cS L xs 233 60 3 2118) _
  refine Ev.seg D_90 [(.aload_n 0, 1)] (by decide +kernel) (j := 0) (pc' := 119) (lv' := [(0, .ref 0)]) (st' := [.ref 0, .ref 16, .ref 232, .ref 232, .ref 0]) rfl ?_
  refine Ev.getR D_90 (by decide +kernel) F_9_41 T_9_6 (x := 121) (oR_c (by decide +kernel)) ?_
  show Ev (d + 1) 90 122 [(0, .ref 0)] [.ref 121, .ref 16, .ref 232, .ref 232, .ref 0] (cS L xs 233 60 3 2118) _
  refine Ev.calli D_90 E_79 (by decide +kernel) (Or.inl C_9_62) 232 [.ref 16, .ref 121] (r := [.ref 232, .ref 0]) rfl rfl (Nat.le_of_ble_eq_true rfl) (Nat.le_of_ble_eq_true rfl) (ct_9 L xs (by omega)) ?_
  show Ev (d + 1) 90 125 [(0, .ref 0)] [.ref 232, .ref 0] (cS L xs 234 63 3 2150) _
  refine Ev.putR D_90 (by decide +kernel) F_9_63 (Or.inr ⟨by decide +kernel, rfl⟩) T_9_9 (pR_c (by decide +kernel)) ?_
  show Ev (d + 1) 90 128 [(0, .ref 0)] [] (cS L xs 234 64 3 2150) _
  refine Ev.seg D_90 [(.aload_n 0, 1)] (by decide +kernel) (j := 0) (pc' := 129) (lv' := [(0, .ref 0)]) (st' := [.ref 0]) rfl ?_
  refine Ev.new D_90 (i := 67) (by decide +kernel) (ci := 1) (by decide +kernel) (by decide) (w := (cS L xs 235 64 3 2156)) (nO_c (by decide +kernel)) ?_
  show Ev (d + 1) 90 132 [(0, .ref 0)] [.ref 234, .ref 0] (cS L xs 235 64 3 2156) _
  refine Ev.seg D_90 [(.dup, 1), (.aload_n 0, 1)] (by decide +kernel) (j := 0) (pc' := 134) (lv' := [(0, .ref 0)]) (st' := [.ref 0, .ref 234, .ref 234, .ref 0]) rfl ?_
  refine Ev.getR D_90 (by decide +kernel) F_9_28 T_9_2 (x := 16) (oR_c (by decide +kernel)) ?_
  show Ev (d + 1) 90 137 [(0, .ref 0)] [.ref 16, .ref 234, .ref 234, .ref 0] (cS L xs 235 64 3 2156) _
  refine Ev.seg D_90 [(.aload_n 0, 1)] (by decide +kernel) (j := 0) (pc' := 138) (lv' := [(0, .ref 0)]) (st' := [.ref 0, .ref 16, .ref 234, .ref 234, .ref 0]) rfl ?_
  refine Ev.getR D_90 (by decide +kernel) F_9_41 T_9_6 (x := 121) (oR_c (by decide +kernel)) ?_
  show Ev (d + 1) 90 141 [(0, .ref 0)] [.ref 121, .ref 16, .ref 234, .ref 234, .ref 0] (cS L xs 235 64 3 2156) _
  refine Ev.calli D_90 E_28 (by decide +kernel) (Or.inl C_9_69) 234 [.ref 16, .ref 121] (r := [.ref 234, .ref 0]) rfl rfl (Nat.le_of_ble_eq_true rfl) (Nat.le_of_ble_eq_true rfl) (ct_10 L xs (by omega)) ?_
  show Ev (d + 1) 90 144 [(0, .ref 0)] [.ref 234, .ref 0] (cS L xs 247 68 4 2216) _
  refine Ev.putR D_90 (by decide +kernel) F_9_70 (Or.inr ⟨by decide +kernel, rfl⟩) T_9_10 (pR_c (by decide +kernel)) ?_
  show Ev (d + 1) 90 147 [(0, .ref 0)] [] (cS L xs 247 69 4 2216) _
  refine Ev.seg D_90 [(.aload_n 0, 1), (.iconst 3, 1)] (by decide +kernel) (j := 0) (pc' := 149) (lv' := [(0, .ref 0)]) (st' := [.int (3 : Int32), .ref 0]) rfl ?_
  refine Ev.newr D_90 (i := 25) (by decide +kernel) (kd := 24) (ci := 2) (by decide +kernel) (by decide) (w := (cS L xs 248 69 4 2219)) (nA_c (by decide +kernel)) ?_
  show Ev (d + 1) 90 152 [(0, .ref 0)] [.ref 247, .ref 0] (cS L xs 248 69 4 2219) _
  refine Ev.putR D_90 (by decide +kernel) F_9_74 (Or.inr ⟨by decide +kernel, rfl⟩) T_9_3 (pR_c (by decide +kernel)) ?_
  show Ev (d + 1) 90 155 [(0, .ref 0)] [] (cS L xs 248 70 4 2219) _
  refine Ev.seg D_90 [(.aload_n 0, 1), (.iconst 3, 1)] (by decide +kernel) (j := 0) (pc' := 157) (lv' := [(0, .ref 0)]) (st' := [.int (3 : Int32), .ref 0]) rfl ?_
  refine Ev.newa D_90 (t := .boolean) (by decide +kernel) (kd := 22) (by decide) (w := (cS L xs 249 70 4 2222)) (nA_c (by decide +kernel)) ?_
  show Ev (d + 1) 90 159 [(0, .ref 0)] [.ref 248, .ref 0] (cS L xs 249 70 4 2222) _
  refine Ev.putR D_90 (by decide +kernel) F_9_78 (Or.inr ⟨by decide +kernel, rfl⟩) T_9_4 (pR_c (by decide +kernel)) ?_
  show Ev (d + 1) 90 162 [(0, .ref 0)] [] (cS L xs 249 71 4 2222) _
  refine Ev.seg D_90 [(.iconst 0, 1), (.istore_n 1, 1), (.iload_n 1, 1), (.iconst 3, 1)] (by decide +kernel) (j := 0) (pc' := 166) (lv' := [(1, .int (0 : Int32)), (0, .ref 0)]) (st' := [.int (3 : Int32), .int (0 : Int32)]) rfl ?_
  refine Ev.icmp D_90 (c := .ge) (off := 22) (by decide +kernel) (t := 188) rfl (fun c => absurd c (by decide)) (fun _ => ?_)
  show Ev (d + 1) 90 169 [(1, .int (0 : Int32)), (0, .ref 0)] [] (cS L xs 249 71 4 2222) _
  refine Ev.seg D_90 [(.aload_n 0, 1)] (by decide +kernel) (j := 0) (pc' := 170) (lv' := [(1, .int (0 : Int32)), (0, .ref 0)]) (st' := [.ref 0]) rfl ?_
  refine Ev.getR D_90 (by decide +kernel) F_9_74 T_9_3 (x := 247) (oR_c (by decide +kernel)) ?_
  show Ev (d + 1) 90 173 [(1, .int (0 : Int32)), (0, .ref 0)] [.ref 247] (cS L xs 249 71 4 2222) _
  refine Ev.seg D_90 [(.iload_n 1, 1)] (by decide +kernel) (j := 0) (pc' := 174) (lv' := [(1, .int (0 : Int32)), (0, .ref 0)]) (st' := [.int (0 : Int32), .ref 247]) rfl ?_
  refine Ev.new D_90 (i := 25) (by decide +kernel) (ci := 2) (by decide +kernel) (by decide) (w := (cS L xs 250 71 4 2242)) (nO_c (by decide +kernel)) ?_
  show Ev (d + 1) 90 177 [(1, .int (0 : Int32)), (0, .ref 0)] [.ref 249, .int (0 : Int32), .ref 247] (cS L xs 250 71 4 2242) _
  refine Ev.seg D_90 [(.dup, 1)] (by decide +kernel) (j := 0) (pc' := 178) (lv' := [(1, .int (0 : Int32)), (0, .ref 0)]) (st' := [.ref 249, .ref 249, .int (0 : Int32), .ref 247]) rfl ?_
  refine Ev.calli D_90 E_33 (by decide +kernel) (Or.inr C_9_27) 249 [] (r := [.ref 249, .int (0 : Int32), .ref 247]) rfl rfl (Nat.le_of_ble_eq_true rfl) (Nat.le_of_ble_eq_true rfl) (ct_11 L xs (by omega)) ?_
  show Ev (d + 1) 90 181 [(1, .int (0 : Int32)), (0, .ref 0)] [.ref 249, .int (0 : Int32), .ref 247] (cS L xs 261 82 4 2372) _
  refine Ev.aast D_90 (by decide +kernel) (w := (cS L xs 261 83 4 2372)) (sR_c (by decide +kernel)) ?_
  show Ev (d + 1) 90 182 [(1, .int (0 : Int32)), (0, .ref 0)] [] (cS L xs 261 83 4 2372) _
  refine Ev.seg D_90 [(.iinc 1 1, 3), (.goto (-21), 3)] (by decide +kernel) (j := 0) (pc' := 164) (lv' := [(1, .int (1 : Int32)), (0, .ref 0)]) (st' := []) rfl ?_
  refine Ev.seg D_90 [(.iload_n 1, 1), (.iconst 3, 1)] (by decide +kernel) (j := 0) (pc' := 166) (lv' := [(1, .int (1 : Int32)), (0, .ref 0)]) (st' := [.int (3 : Int32), .int (1 : Int32)]) rfl ?_
  refine Ev.icmp D_90 (c := .ge) (off := 22) (by decide +kernel) (t := 188) rfl (fun c => absurd c (by decide)) (fun _ => ?_)
  show Ev (d + 1) 90 169 [(1, .int (1 : Int32)), (0, .ref 0)] [] (cS L xs 261 83 4 2372) _
  refine Ev.seg D_90 [(.aload_n 0, 1)] (by decide +kernel) (j := 0) (pc' := 170) (lv' := [(1, .int (1 : Int32)), (0, .ref 0)]) (st' := [.ref 0]) rfl ?_
  refine Ev.getR D_90 (by decide +kernel) F_9_74 T_9_3 (x := 247) (oR_c (by decide +kernel)) ?_
  show Ev (d + 1) 90 173 [(1, .int (1 : Int32)), (0, .ref 0)] [.ref 247] (cS L xs 261 83 4 2372) _
  refine Ev.seg D_90 [(.iload_n 1, 1)] (by decide +kernel) (j := 0) (pc' := 174) (lv' := [(1, .int (1 : Int32)), (0, .ref 0)]) (st' := [.int (1 : Int32), .ref 247]) rfl ?_
  refine Ev.new D_90 (i := 25) (by decide +kernel) (ci := 2) (by decide +kernel) (by decide) (w := (cS L xs 262 83 4 2392)) (nO_c (by decide +kernel)) ?_
  show Ev (d + 1) 90 177 [(1, .int (1 : Int32)), (0, .ref 0)] [.ref 261, .int (1 : Int32), .ref 247] (cS L xs 262 83 4 2392) _
  refine Ev.seg D_90 [(.dup, 1)] (by decide +kernel) (j := 0) (pc' := 178) (lv' := [(1, .int (1 : Int32)), (0, .ref 0)]) (st' := [.ref 261, .ref 261, .int (1 : Int32), .ref 247]) rfl ?_
  refine Ev.calli D_90 E_33 (by decide +kernel) (Or.inr C_9_27) 261 [] (r := [.ref 261, .int (1 : Int32), .ref 247]) rfl rfl (Nat.le_of_ble_eq_true rfl) (Nat.le_of_ble_eq_true rfl) (ct_12 L xs (by omega)) ?_
  show Ev (d + 1) 90 181 [(1, .int (1 : Int32)), (0, .ref 0)] [.ref 261, .int (1 : Int32), .ref 247] (cS L xs 273 94 4 2522) _
  refine Ev.aast D_90 (by decide +kernel) (w := (cS L xs 273 95 4 2522)) (sR_c (by decide +kernel)) ?_
  show Ev (d + 1) 90 182 [(1, .int (1 : Int32)), (0, .ref 0)] [] (cS L xs 273 95 4 2522) _
  refine Ev.seg D_90 [(.iinc 1 1, 3), (.goto (-21), 3)] (by decide +kernel) (j := 0) (pc' := 164) (lv' := [(1, .int (2 : Int32)), (0, .ref 0)]) (st' := []) rfl ?_
  refine Ev.seg D_90 [(.iload_n 1, 1), (.iconst 3, 1)] (by decide +kernel) (j := 0) (pc' := 166) (lv' := [(1, .int (2 : Int32)), (0, .ref 0)]) (st' := [.int (3 : Int32), .int (2 : Int32)]) rfl ?_
  refine Ev.icmp D_90 (c := .ge) (off := 22) (by decide +kernel) (t := 188) rfl (fun c => absurd c (by decide)) (fun _ => ?_)
  show Ev (d + 1) 90 169 [(1, .int (2 : Int32)), (0, .ref 0)] [] (cS L xs 273 95 4 2522) _
  refine Ev.seg D_90 [(.aload_n 0, 1)] (by decide +kernel) (j := 0) (pc' := 170) (lv' := [(1, .int (2 : Int32)), (0, .ref 0)]) (st' := [.ref 0]) rfl ?_
  refine Ev.getR D_90 (by decide +kernel) F_9_74 T_9_3 (x := 247) (oR_c (by decide +kernel)) ?_
  show Ev (d + 1) 90 173 [(1, .int (2 : Int32)), (0, .ref 0)] [.ref 247] (cS L xs 273 95 4 2522) _
  refine Ev.seg D_90 [(.iload_n 1, 1)] (by decide +kernel) (j := 0) (pc' := 174) (lv' := [(1, .int (2 : Int32)), (0, .ref 0)]) (st' := [.int (2 : Int32), .ref 247]) rfl ?_
  refine Ev.new D_90 (i := 25) (by decide +kernel) (ci := 2) (by decide +kernel) (by decide) (w := (cS L xs 274 95 4 2542)) (nO_c (by decide +kernel)) ?_
  show Ev (d + 1) 90 177 [(1, .int (2 : Int32)), (0, .ref 0)] [.ref 273, .int (2 : Int32), .ref 247] (cS L xs 274 95 4 2542) _
  refine Ev.seg D_90 [(.dup, 1)] (by decide +kernel) (j := 0) (pc' := 178) (lv' := [(1, .int (2 : Int32)), (0, .ref 0)]) (st' := [.ref 273, .ref 273, .int (2 : Int32), .ref 247]) rfl ?_
  refine Ev.calli D_90 E_33 (by decide +kernel) (Or.inr C_9_27) 273 [] (r := [.ref 273, .int (2 : Int32), .ref 247]) rfl rfl (Nat.le_of_ble_eq_true rfl) (Nat.le_of_ble_eq_true rfl) (ct_13 L xs (by omega)) ?_
  show Ev (d + 1) 90 181 [(1, .int (2 : Int32)), (0, .ref 0)] [.ref 273, .int (2 : Int32), .ref 247] (cS L xs 285 106 4 2672) _
  refine Ev.aast D_90 (by decide +kernel) (w := (cS L xs 285 107 4 2672)) (sR_c (by decide +kernel)) ?_
  show Ev (d + 1) 90 182 [(1, .int (2 : Int32)), (0, .ref 0)] [] (cS L xs 285 107 4 2672) _
  refine Ev.seg D_90 [(.iinc 1 1, 3), (.goto (-21), 3)] (by decide +kernel) (j := 0) (pc' := 164) (lv' := [(1, .int (3 : Int32)), (0, .ref 0)]) (st' := []) rfl ?_
  refine Ev.seg D_90 [(.iload_n 1, 1), (.iconst 3, 1)] (by decide +kernel) (j := 0) (pc' := 166) (lv' := [(1, .int (3 : Int32)), (0, .ref 0)]) (st' := [.int (3 : Int32), .int (3 : Int32)]) rfl ?_
  refine Ev.icmp D_90 (c := .ge) (off := 22) (by decide +kernel) (t := 188) rfl (fun _ => ?_) (fun c => absurd c (by decide))
  show Ev (d + 1) 90 188 [(1, .int (3 : Int32)), (0, .ref 0)] [] (cS L xs 285 107 4 2672) _
  refine Ev.seg D_90 [(.aload_n 0, 1), (.iconst 4, 1)] (by decide +kernel) (j := 0) (pc' := 190) (lv' := [(1, .int (3 : Int32)), (0, .ref 0)]) (st' := [.int (4 : Int32), .ref 0]) rfl ?_
  refine Ev.newr D_90 (i := 82) (by decide +kernel) (kd := 25) (ci := 4) (by decide +kernel) (by decide) (w := (cS L xs 286 107 4 2676)) (nA_c (by decide +kernel)) ?_
  show Ev (d + 1) 90 193 [(1, .int (3 : Int32)), (0, .ref 0)] [.ref 285, .ref 0] (cS L xs 286 107 4 2676) _
  refine Ev.putR D_90 (by decide +kernel) F_9_84 (Or.inr ⟨by decide +kernel, rfl⟩) T_9_11 (pR_c (by decide +kernel)) ?_
  show Ev (d + 1) 90 196 [(1, .int (3 : Int32)), (0, .ref 0)] [] (cS L xs 286 108 4 2676) _
  refine Ev.seg D_90 [(.iconst 0, 1), (.istore_n 1, 1), (.iload_n 1, 1), (.iconst 4, 1)] (by decide +kernel) (j := 0) (pc' := 200) (lv' := [(1, .int (0 : Int32)), (0, .ref 0)]) (st' := [.int (4 : Int32), .int (0 : Int32)]) rfl ?_
  refine Ev.icmp D_90 (c := .ge) (off := 22) (by decide +kernel) (t := 222) rfl (fun c => absurd c (by decide)) (fun _ => ?_)
  show Ev (d + 1) 90 203 [(1, .int (0 : Int32)), (0, .ref 0)] [] (cS L xs 286 108 4 2676) _
  refine Ev.seg D_90 [(.aload_n 0, 1)] (by decide +kernel) (j := 0) (pc' := 204) (lv' := [(1, .int (0 : Int32)), (0, .ref 0)]) (st' := [.ref 0]) rfl ?_
  refine Ev.getR D_90 (by decide +kernel) F_9_84 T_9_11 (x := 285) (oR_c (by decide +kernel)) ?_
  show Ev (d + 1) 90 207 [(1, .int (0 : Int32)), (0, .ref 0)] [.ref 285] (cS L xs 286 108 4 2676) _
  refine Ev.seg D_90 [(.iload_n 1, 1)] (by decide +kernel) (j := 0) (pc' := 208) (lv' := [(1, .int (0 : Int32)), (0, .ref 0)]) (st' := [.int (0 : Int32), .ref 285]) rfl ?_
  refine Ev.new D_90 (i := 82) (by decide +kernel) (ci := 4) (by decide +kernel) (by decide) (w := (cS L xs 287 108 4 2680)) (nO_c (by decide +kernel)) ?_
  show Ev (d + 1) 90 211 [(1, .int (0 : Int32)), (0, .ref 0)] [.ref 286, .int (0 : Int32), .ref 285] (cS L xs 287 108 4 2680) _
  refine Ev.seg D_90 [(.dup, 1)] (by decide +kernel) (j := 0) (pc' := 212) (lv' := [(1, .int (0 : Int32)), (0, .ref 0)]) (st' := [.ref 286, .ref 286, .int (0 : Int32), .ref 285]) rfl ?_
  refine Ev.calli D_90 E_65 (by decide +kernel) (Or.inr C_9_88) 286 [] (r := [.ref 286, .int (0 : Int32), .ref 285]) rfl rfl (Nat.le_of_ble_eq_true rfl) (Nat.le_of_ble_eq_true rfl) (ct_14 L xs (by omega)) ?_
  show Ev (d + 1) 90 215 [(1, .int (0 : Int32)), (0, .ref 0)] [.ref 286, .int (0 : Int32), .ref 285] (cS L xs 288 109 4 2740) _
  refine Ev.aast D_90 (by decide +kernel) (w := (cS L xs 288 110 4 2740)) (sR_c (by decide +kernel)) ?_
  show Ev (d + 1) 90 216 [(1, .int (0 : Int32)), (0, .ref 0)] [] (cS L xs 288 110 4 2740) _
  refine Ev.seg D_90 [(.iinc 1 1, 3), (.goto (-21), 3)] (by decide +kernel) (j := 0) (pc' := 198) (lv' := [(1, .int (1 : Int32)), (0, .ref 0)]) (st' := []) rfl ?_
  refine Ev.seg D_90 [(.iload_n 1, 1), (.iconst 4, 1)] (by decide +kernel) (j := 0) (pc' := 200) (lv' := [(1, .int (1 : Int32)), (0, .ref 0)]) (st' := [.int (4 : Int32), .int (1 : Int32)]) rfl ?_
  refine Ev.icmp D_90 (c := .ge) (off := 22) (by decide +kernel) (t := 222) rfl (fun c => absurd c (by decide)) (fun _ => ?_)
  show Ev (d + 1) 90 203 [(1, .int (1 : Int32)), (0, .ref 0)] [] (cS L xs 288 110 4 2740) _
  refine Ev.seg D_90 [(.aload_n 0, 1)] (by decide +kernel) (j := 0) (pc' := 204) (lv' := [(1, .int (1 : Int32)), (0, .ref 0)]) (st' := [.ref 0]) rfl ?_
  refine Ev.getR D_90 (by decide +kernel) F_9_84 T_9_11 (x := 285) (oR_c (by decide +kernel)) ?_
  show Ev (d + 1) 90 207 [(1, .int (1 : Int32)), (0, .ref 0)] [.ref 285] (cS L xs 288 110 4 2740) _
  refine Ev.seg D_90 [(.iload_n 1, 1)] (by decide +kernel) (j := 0) (pc' := 208) (lv' := [(1, .int (1 : Int32)), (0, .ref 0)]) (st' := [.int (1 : Int32), .ref 285]) rfl ?_
  refine Ev.new D_90 (i := 82) (by decide +kernel) (ci := 4) (by decide +kernel) (by decide) (w := (cS L xs 289 110 4 2744)) (nO_c (by decide +kernel)) ?_
  show Ev (d + 1) 90 211 [(1, .int (1 : Int32)), (0, .ref 0)] [.ref 288, .int (1 : Int32), .ref 285] (cS L xs 289 110 4 2744) _
  refine Ev.seg D_90 [(.dup, 1)] (by decide +kernel) (j := 0) (pc' := 212) (lv' := [(1, .int (1 : Int32)), (0, .ref 0)]) (st' := [.ref 288, .ref 288, .int (1 : Int32), .ref 285]) rfl ?_
  refine Ev.calli D_90 E_65 (by decide +kernel) (Or.inr C_9_88) 288 [] (r := [.ref 288, .int (1 : Int32), .ref 285]) rfl rfl (Nat.le_of_ble_eq_true rfl) (Nat.le_of_ble_eq_true rfl) (ct_15 L xs (by omega)) ?_
  show Ev (d + 1) 90 215 [(1, .int (1 : Int32)), (0, .ref 0)] [.ref 288, .int (1 : Int32), .ref 285] (cS L xs 290 111 4 2804) _
  refine Ev.aast D_90 (by decide +kernel) (w := (cS L xs 290 112 4 2804)) (sR_c (by decide +kernel)) ?_
  show Ev (d + 1) 90 216 [(1, .int (1 : Int32)), (0, .ref 0)] [] (cS L xs 290 112 4 2804) _
  refine Ev.seg D_90 [(.iinc 1 1, 3), (.goto (-21), 3)] (by decide +kernel) (j := 0) (pc' := 198) (lv' := [(1, .int (2 : Int32)), (0, .ref 0)]) (st' := []) rfl ?_
  refine Ev.seg D_90 [(.iload_n 1, 1), (.iconst 4, 1)] (by decide +kernel) (j := 0) (pc' := 200) (lv' := [(1, .int (2 : Int32)), (0, .ref 0)]) (st' := [.int (4 : Int32), .int (2 : Int32)]) rfl ?_
  refine Ev.icmp D_90 (c := .ge) (off := 22) (by decide +kernel) (t := 222) rfl (fun c => absurd c (by decide)) (fun _ => ?_)
  show Ev (d + 1) 90 203 [(1, .int (2 : Int32)), (0, .ref 0)] [] (cS L xs 290 112 4 2804) _
  refine Ev.seg D_90 [(.aload_n 0, 1)] (by decide +kernel) (j := 0) (pc' := 204) (lv' := [(1, .int (2 : Int32)), (0, .ref 0)]) (st' := [.ref 0]) rfl ?_
  refine Ev.getR D_90 (by decide +kernel) F_9_84 T_9_11 (x := 285) (oR_c (by decide +kernel)) ?_
  show Ev (d + 1) 90 207 [(1, .int (2 : Int32)), (0, .ref 0)] [.ref 285] (cS L xs 290 112 4 2804) _
  refine Ev.seg D_90 [(.iload_n 1, 1)] (by decide +kernel) (j := 0) (pc' := 208) (lv' := [(1, .int (2 : Int32)), (0, .ref 0)]) (st' := [.int (2 : Int32), .ref 285]) rfl ?_
  refine Ev.new D_90 (i := 82) (by decide +kernel) (ci := 4) (by decide +kernel) (by decide) (w := (cS L xs 291 112 4 2808)) (nO_c (by decide +kernel)) ?_
  show Ev (d + 1) 90 211 [(1, .int (2 : Int32)), (0, .ref 0)] [.ref 290, .int (2 : Int32), .ref 285] (cS L xs 291 112 4 2808) _
  refine Ev.seg D_90 [(.dup, 1)] (by decide +kernel) (j := 0) (pc' := 212) (lv' := [(1, .int (2 : Int32)), (0, .ref 0)]) (st' := [.ref 290, .ref 290, .int (2 : Int32), .ref 285]) rfl ?_
  refine Ev.calli D_90 E_65 (by decide +kernel) (Or.inr C_9_88) 290 [] (r := [.ref 290, .int (2 : Int32), .ref 285]) rfl rfl (Nat.le_of_ble_eq_true rfl) (Nat.le_of_ble_eq_true rfl) (ct_16 L xs (by omega)) ?_
  show Ev (d + 1) 90 215 [(1, .int (2 : Int32)), (0, .ref 0)] [.ref 290, .int (2 : Int32), .ref 285] (cS L xs 292 113 4 2868) _
  refine Ev.aast D_90 (by decide +kernel) (w := (cS L xs 292 114 4 2868)) (sR_c (by decide +kernel)) ?_
  show Ev (d + 1) 90 216 [(1, .int (2 : Int32)), (0, .ref 0)] [] (cS L xs 292 114 4 2868) _
  refine Ev.seg D_90 [(.iinc 1 1, 3), (.goto (-21), 3)] (by decide +kernel) (j := 0) (pc' := 198) (lv' := [(1, .int (3 : Int32)), (0, .ref 0)]) (st' := []) rfl ?_
  refine Ev.seg D_90 [(.iload_n 1, 1), (.iconst 4, 1)] (by decide +kernel) (j := 0) (pc' := 200) (lv' := [(1, .int (3 : Int32)), (0, .ref 0)]) (st' := [.int (4 : Int32), .int (3 : Int32)]) rfl ?_
  refine Ev.icmp D_90 (c := .ge) (off := 22) (by decide +kernel) (t := 222) rfl (fun c => absurd c (by decide)) (fun _ => ?_)
  show Ev (d + 1) 90 203 [(1, .int (3 : Int32)), (0, .ref 0)] [] (cS L xs 292 114 4 2868) _
  refine Ev.seg D_90 [(.aload_n 0, 1)] (by decide +kernel) (j := 0) (pc' := 204) (lv' := [(1, .int (3 : Int32)), (0, .ref 0)]) (st' := [.ref 0]) rfl ?_
  refine Ev.getR D_90 (by decide +kernel) F_9_84 T_9_11 (x := 285) (oR_c (by decide +kernel)) ?_
  show Ev (d + 1) 90 207 [(1, .int (3 : Int32)), (0, .ref 0)] [.ref 285] (cS L xs 292 114 4 2868) _
  refine Ev.seg D_90 [(.iload_n 1, 1)] (by decide +kernel) (j := 0) (pc' := 208) (lv' := [(1, .int (3 : Int32)), (0, .ref 0)]) (st' := [.int (3 : Int32), .ref 285]) rfl ?_
  refine Ev.new D_90 (i := 82) (by decide +kernel) (ci := 4) (by decide +kernel) (by decide) (w := (cS L xs 293 114 4 2872)) (nO_c (by decide +kernel)) ?_
  show Ev (d + 1) 90 211 [(1, .int (3 : Int32)), (0, .ref 0)] [.ref 292, .int (3 : Int32), .ref 285] (cS L xs 293 114 4 2872) _
  refine Ev.seg D_90 [(.dup, 1)] (by decide +kernel) (j := 0) (pc' := 212) (lv' := [(1, .int (3 : Int32)), (0, .ref 0)]) (st' := [.ref 292, .ref 292, .int (3 : Int32), .ref 285]) rfl ?_
  refine Ev.calli D_90 E_65 (by decide +kernel) (Or.inr C_9_88) 292 [] (r := [.ref 292, .int (3 : Int32), .ref 285]) rfl rfl (Nat.le_of_ble_eq_true rfl) (Nat.le_of_ble_eq_true rfl) (ct_17 L xs (by omega)) ?_
  show Ev (d + 1) 90 215 [(1, .int (3 : Int32)), (0, .ref 0)] [.ref 292, .int (3 : Int32), .ref 285] (cS L xs 294 115 4 2932) _
  refine Ev.aast D_90 (by decide +kernel) (w := (cS L xs 294 116 4 2932)) (sR_c (by decide +kernel)) ?_
  show Ev (d + 1) 90 216 [(1, .int (3 : Int32)), (0, .ref 0)] [] (cS L xs 294 116 4 2932) _
  refine Ev.seg D_90 [(.iinc 1 1, 3), (.goto (-21), 3)] (by decide +kernel) (j := 0) (pc' := 198) (lv' := [(1, .int (4 : Int32)), (0, .ref 0)]) (st' := []) rfl ?_
  refine Ev.seg D_90 [(.iload_n 1, 1), (.iconst 4, 1)] (by decide +kernel) (j := 0) (pc' := 200) (lv' := [(1, .int (4 : Int32)), (0, .ref 0)]) (st' := [.int (4 : Int32), .int (4 : Int32)]) rfl ?_
  refine Ev.icmp D_90 (c := .ge) (off := 22) (by decide +kernel) (t := 222) rfl (fun _ => ?_) (fun c => absurd c (by decide))
  show Ev (d + 1) 90 222 [(1, .int (4 : Int32)), (0, .ref 0)] [] (cS L xs 294 116 4 2932) _
  exact Ev.vret D_90 (by decide +kernel)
set_option maxRecDepth 8000 in
theorem ct_19 (L : Nat) (xs : Nat → Int32) {d : Nat} (hd : 1 ≤ d) : Ev d 182 0 [(0, .ref 294)] [] (cS L xs 295 116 4 2979) (none, (cS L xs 317 138 9 20374)) := by
  obtain ⟨d, rfl⟩ : ∃ e, d = e + 1 := ⟨d - 1, by omega⟩
  refine Ev.seg D_182 [(.aload_n 0, 1)] (by decide +kernel) (j := 0) (pc' := 1) (lv' := [(0, .ref 294)]) (st' := [.ref 294]) rfl ?_
  refine Ev.obj D_182 (by decide +kernel) (Nat.succ_pos _) C_10_3 (Nat.le_of_ble_eq_true rfl) (Nat.le_of_ble_eq_true rfl) ?_
  show Ev (d + 1) 182 4 [(0, .ref 294)] [] (cS L xs 295 116 4 2979) _
  refine Ev.seg D_182 [(.aload_n 0, 1), (.bipush 79, 2)] (by decide +kernel) (j := 0) (pc' := 7) (lv' := [(0, .ref 294)]) (st' := [.int (79 : Int32), .ref 294]) rfl ?_
  refine Ev.newa D_182 (t := .int) (by decide +kernel) (kd := 20) (by decide) (w := (cS L xs 296 116 4 3058)) (nA_c (by decide +kernel)) ?_
  show Ev (d + 1) 182 9 [(0, .ref 294)] [.ref 295, .ref 294] (cS L xs 296 116 4 3058) _
  refine Ev.putR D_182 (by decide +kernel) F_10_9 (Or.inr ⟨by decide +kernel, rfl⟩) T_10_1 (pR_c (by decide +kernel)) ?_
  show Ev (d + 1) 182 12 [(0, .ref 294)] [] (cS L xs 296 117 4 3058) _
  refine Ev.seg D_182 [(.aload_n 0, 1), (.sipush 237, 3)] (by decide +kernel) (j := 0) (pc' := 16) (lv' := [(0, .ref 294)]) (st' := [.int (237 : Int32), .ref 294]) rfl ?_
  refine Ev.newa D_182 (t := .int) (by decide +kernel) (kd := 20) (by decide) (w := (cS L xs 297 117 4 3295)) (nA_c (by decide +kernel)) ?_
  show Ev (d + 1) 182 18 [(0, .ref 294)] [.ref 296, .ref 294] (cS L xs 297 117 4 3295) _
  refine Ev.putR D_182 (by decide +kernel) F_10_13 (Or.inr ⟨by decide +kernel, rfl⟩) T_10_2 (pR_c (by decide +kernel)) ?_
  show Ev (d + 1) 182 21 [(0, .ref 294)] [] (cS L xs 297 118 4 3295) _
  refine Ev.seg D_182 [(.aload_n 0, 1), (.iconst 3, 1)] (by decide +kernel) (j := 0) (pc' := 23) (lv' := [(0, .ref 294)]) (st' := [.int (3 : Int32), .ref 294]) rfl ?_
  refine Ev.newa D_182 (t := .boolean) (by decide +kernel) (kd := 22) (by decide) (w := (cS L xs 298 118 4 3298)) (nA_c (by decide +kernel)) ?_
  show Ev (d + 1) 182 25 [(0, .ref 294)] [.ref 297, .ref 294] (cS L xs 298 118 4 3298) _
  refine Ev.putR D_182 (by decide +kernel) F_10_16 (Or.inr ⟨by decide +kernel, rfl⟩) T_10_3 (pR_c (by decide +kernel)) ?_
  show Ev (d + 1) 182 28 [(0, .ref 294)] [] (cS L xs 298 119 4 3298) _
  refine Ev.seg D_182 [(.aload_n 0, 1), (.sipush 600, 3)] (by decide +kernel) (j := 0) (pc' := 32) (lv' := [(0, .ref 294)]) (st' := [.int (600 : Int32), .ref 294]) rfl ?_
  refine Ev.newa D_182 (t := .byte) (by decide +kernel) (kd := 21) (by decide) (w := (cS L xs 299 119 4 3898)) (nA_c (by decide +kernel)) ?_
  show Ev (d + 1) 182 34 [(0, .ref 294)] [.ref 298, .ref 294] (cS L xs 299 119 4 3898) _
  refine Ev.putR D_182 (by decide +kernel) F_10_20 (Or.inr ⟨by decide +kernel, rfl⟩) T_10_4 (pR_c (by decide +kernel)) ?_
  show Ev (d + 1) 182 37 [(0, .ref 294)] [] (cS L xs 299 120 4 3898) _
  refine Ev.seg D_182 [(.aload_n 0, 1), (.iconst 5, 1)] (by decide +kernel) (j := 0) (pc' := 39) (lv' := [(0, .ref 294)]) (st' := [.int (5 : Int32), .ref 294]) rfl ?_
  refine Ev.newa D_182 (t := .int) (by decide +kernel) (kd := 20) (by decide) (w := (cS L xs 300 120 4 3903)) (nA_c (by decide +kernel)) ?_
  show Ev (d + 1) 182 41 [(0, .ref 294)] [.ref 299, .ref 294] (cS L xs 300 120 4 3903) _
  refine Ev.putR D_182 (by decide +kernel) F_10_24 (Or.inr ⟨by decide +kernel, rfl⟩) T_10_6 (pR_c (by decide +kernel)) ?_
  show Ev (d + 1) 182 44 [(0, .ref 294)] [] (cS L xs 300 121 4 3903) _
  refine Ev.seg D_182 [(.aload_n 0, 1), (.iconst (-1), 1)] (by decide +kernel) (j := 0) (pc' := 46) (lv' := [(0, .ref 294)]) (st' := [.int (-1 : Int32), .ref 294]) rfl ?_
  refine Ev.putI D_182 (by decide +kernel) F_10_27 N_10_13 T_10_13 (pI_c1 (by decide +kernel)) ?_
  show Ev (d + 1) 182 49 [(0, .ref 294)] [] (cS L xs 300 121 5 3903) _
  refine Ev.seg D_182 [(.aload_n 0, 1), (.bipush 79, 2)] (by decide +kernel) (j := 0) (pc' := 52) (lv' := [(0, .ref 294)]) (st' := [.int (79 : Int32), .ref 294]) rfl ?_
  refine Ev.newa D_182 (t := .int) (by decide +kernel) (kd := 20) (by decide) (w := (cS L xs 301 121 5 3982)) (nA_c (by decide +kernel)) ?_
  show Ev (d + 1) 182 54 [(0, .ref 294)] [.ref 300, .ref 294] (cS L xs 301 121 5 3982) _
  refine Ev.putR D_182 (by decide +kernel) F_10_31 (Or.inr ⟨by decide +kernel, rfl⟩) T_10_14 (pR_c (by decide +kernel)) ?_
  show Ev (d + 1) 182 57 [(0, .ref 294)] [] (cS L xs 301 122 5 3982) _
  refine Ev.seg D_182 [(.aload_n 0, 1), (.iconst 5, 1)] (by decide +kernel) (j := 0) (pc' := 59) (lv' := [(0, .ref 294)]) (st' := [.int (5 : Int32), .ref 294]) rfl ?_
  refine Ev.newa D_182 (t := .int) (by decide +kernel) (kd := 20) (by decide) (w := (cS L xs 302 122 5 3987)) (nA_c (by decide +kernel)) ?_
  show Ev (d + 1) 182 61 [(0, .ref 294)] [.ref 301, .ref 294] (cS L xs 302 122 5 3987) _
  refine Ev.putR D_182 (by decide +kernel) F_10_34 (Or.inr ⟨by decide +kernel, rfl⟩) T_10_15 (pR_c (by decide +kernel)) ?_
  show Ev (d + 1) 182 64 [(0, .ref 294)] [] (cS L xs 302 123 5 3987) _
  refine Ev.seg D_182 [(.aload_n 0, 1), (.iconst 5, 1)] (by decide +kernel) (j := 0) (pc' := 66) (lv' := [(0, .ref 294)]) (st' := [.int (5 : Int32), .ref 294]) rfl ?_
  refine Ev.newa D_182 (t := .int) (by decide +kernel) (kd := 20) (by decide) (w := (cS L xs 303 123 5 3992)) (nA_c (by decide +kernel)) ?_
  show Ev (d + 1) 182 68 [(0, .ref 294)] [.ref 302, .ref 294] (cS L xs 303 123 5 3992) _
  refine Ev.putR D_182 (by decide +kernel) F_10_37 (Or.inr ⟨by decide +kernel, rfl⟩) T_10_16 (pR_c (by decide +kernel)) ?_
  show Ev (d + 1) 182 71 [(0, .ref 294)] [] (cS L xs 303 124 5 3992) _
  refine Ev.seg D_182 [(.aload_n 0, 1), (.iconst 5, 1)] (by decide +kernel) (j := 0) (pc' := 73) (lv' := [(0, .ref 294)]) (st' := [.int (5 : Int32), .ref 294]) rfl ?_
  refine Ev.newa D_182 (t := .int) (by decide +kernel) (kd := 20) (by decide) (w := (cS L xs 304 124 5 3997)) (nA_c (by decide +kernel)) ?_
  show Ev (d + 1) 182 75 [(0, .ref 294)] [.ref 303, .ref 294] (cS L xs 304 124 5 3997) _
  refine Ev.putR D_182 (by decide +kernel) F_10_40 (Or.inr ⟨by decide +kernel, rfl⟩) T_10_17 (pR_c (by decide +kernel)) ?_
  show Ev (d + 1) 182 78 [(0, .ref 294)] [] (cS L xs 304 125 5 3997) _
  refine Ev.seg D_182 [(.aload_n 0, 1), (.bipush 21, 2)] (by decide +kernel) (j := 0) (pc' := 81) (lv' := [(0, .ref 294)]) (st' := [.int (21 : Int32), .ref 294]) rfl ?_
  refine Ev.newa D_182 (t := .int) (by decide +kernel) (kd := 20) (by decide) (w := (cS L xs 305 125 5 4018)) (nA_c (by decide +kernel)) ?_
  show Ev (d + 1) 182 83 [(0, .ref 294)] [.ref 304, .ref 294] (cS L xs 305 125 5 4018) _
  refine Ev.putR D_182 (by decide +kernel) F_10_43 (Or.inr ⟨by decide +kernel, rfl⟩) T_10_18 (pR_c (by decide +kernel)) ?_
  show Ev (d + 1) 182 86 [(0, .ref 294)] [] (cS L xs 305 126 5 4018) _
  refine Ev.seg D_182 [(.aload_n 0, 1), (.bipush 105, 2)] (by decide +kernel) (j := 0) (pc' := 89) (lv' := [(0, .ref 294)]) (st' := [.int (105 : Int32), .ref 294]) rfl ?_
  refine Ev.newa D_182 (t := .int) (by decide +kernel) (kd := 20) (by decide) (w := (cS L xs 306 126 5 4123)) (nA_c (by decide +kernel)) ?_
  show Ev (d + 1) 182 91 [(0, .ref 294)] [.ref 305, .ref 294] (cS L xs 306 126 5 4123) _
  refine Ev.putR D_182 (by decide +kernel) F_10_46 (Or.inr ⟨by decide +kernel, rfl⟩) T_10_21 (pR_c (by decide +kernel)) ?_
  show Ev (d + 1) 182 94 [(0, .ref 294)] [] (cS L xs 306 127 5 4123) _
  refine Ev.seg D_182 [(.aload_n 0, 1), (.bipush 105, 2)] (by decide +kernel) (j := 0) (pc' := 97) (lv' := [(0, .ref 294)]) (st' := [.int (105 : Int32), .ref 294]) rfl ?_
  refine Ev.newa D_182 (t := .int) (by decide +kernel) (kd := 20) (by decide) (w := (cS L xs 307 127 5 4228)) (nA_c (by decide +kernel)) ?_
  show Ev (d + 1) 182 99 [(0, .ref 294)] [.ref 306, .ref 294] (cS L xs 307 127 5 4228) _
  refine Ev.putR D_182 (by decide +kernel) F_10_49 (Or.inr ⟨by decide +kernel, rfl⟩) T_10_22 (pR_c (by decide +kernel)) ?_
  show Ev (d + 1) 182 102 [(0, .ref 294)] [] (cS L xs 307 128 5 4228) _
  refine Ev.seg D_182 [(.aload_n 0, 1), (.bipush 105, 2)] (by decide +kernel) (j := 0) (pc' := 105) (lv' := [(0, .ref 294)]) (st' := [.int (105 : Int32), .ref 294]) rfl ?_
  refine Ev.newa D_182 (t := .int) (by decide +kernel) (kd := 20) (by decide) (w := (cS L xs 308 128 5 4333)) (nA_c (by decide +kernel)) ?_
  show Ev (d + 1) 182 107 [(0, .ref 294)] [.ref 307, .ref 294] (cS L xs 308 128 5 4333) _
  refine Ev.putR D_182 (by decide +kernel) F_10_52 (Or.inr ⟨by decide +kernel, rfl⟩) T_10_23 (pR_c (by decide +kernel)) ?_
  show Ev (d + 1) 182 110 [(0, .ref 294)] [] (cS L xs 308 129 5 4333) _
  refine Ev.seg D_182 [(.aload_n 0, 1), (.bipush 21, 2)] (by decide +kernel) (j := 0) (pc' := 113) (lv' := [(0, .ref 294)]) (st' := [.int (21 : Int32), .ref 294]) rfl ?_
  refine Ev.newa D_182 (t := .int) (by decide +kernel) (kd := 20) (by decide) (w := (cS L xs 309 129 5 4354)) (nA_c (by decide +kernel)) ?_
  show Ev (d + 1) 182 115 [(0, .ref 294)] [.ref 308, .ref 294] (cS L xs 309 129 5 4354) _
  refine Ev.putR D_182 (by decide +kernel) F_10_55 (Or.inr ⟨by decide +kernel, rfl⟩) T_10_24 (pR_c (by decide +kernel)) ?_
  show Ev (d + 1) 182 118 [(0, .ref 294)] [] (cS L xs 309 130 5 4354) _
  refine Ev.seg D_182 [(.aload_n 0, 1), (.iconst 5, 1)] (by decide +kernel) (j := 0) (pc' := 120) (lv' := [(0, .ref 294)]) (st' := [.int (5 : Int32), .ref 294]) rfl ?_
  refine Ev.newa D_182 (t := .int) (by decide +kernel) (kd := 20) (by decide) (w := (cS L xs 310 130 5 4359)) (nA_c (by decide +kernel)) ?_
  show Ev (d + 1) 182 122 [(0, .ref 294)] [.ref 309, .ref 294] (cS L xs 310 130 5 4359) _
  refine Ev.putR D_182 (by decide +kernel) F_10_58 (Or.inr ⟨by decide +kernel, rfl⟩) T_10_27 (pR_c (by decide +kernel)) ?_
  show Ev (d + 1) 182 125 [(0, .ref 294)] [] (cS L xs 310 131 5 4359) _
  refine Ev.seg D_182 [(.aload_n 0, 1), (.sipush 15625, 3)] (by decide +kernel) (j := 0) (pc' := 129) (lv' := [(0, .ref 294)]) (st' := [.int (15625 : Int32), .ref 294]) rfl ?_
  refine Ev.newa D_182 (t := .byte) (by decide +kernel) (kd := 21) (by decide) (w := (cS L xs 311 131 5 19984)) (nA_c (by decide +kernel)) ?_
  show Ev (d + 1) 182 131 [(0, .ref 294)] [.ref 310, .ref 294] (cS L xs 311 131 5 19984) _
  refine Ev.putR D_182 (by decide +kernel) F_10_61 (Or.inr ⟨by decide +kernel, rfl⟩) T_10_33 (pR_c (by decide +kernel)) ?_
  show Ev (d + 1) 182 134 [(0, .ref 294)] [] (cS L xs 311 132 5 19984) _
  refine Ev.seg D_182 [(.aload_n 0, 1), (.bipush 32, 2)] (by decide +kernel) (j := 0) (pc' := 137) (lv' := [(0, .ref 294)]) (st' := [.int (32 : Int32), .ref 294]) rfl ?_
  refine Ev.newa D_182 (t := .int) (by decide +kernel) (kd := 20) (by decide) (w := (cS L xs 312 132 5 20016)) (nA_c (by decide +kernel)) ?_
  show Ev (d + 1) 182 139 [(0, .ref 294)] [.ref 311, .ref 294] (cS L xs 312 132 5 20016) _
  refine Ev.putR D_182 (by decide +kernel) F_10_64 (Or.inr ⟨by decide +kernel, rfl⟩) T_10_36 (pR_c (by decide +kernel)) ?_
  show Ev (d + 1) 182 142 [(0, .ref 294)] [] (cS L xs 312 133 5 20016) _
  refine Ev.seg D_182 [(.aload_n 0, 1), (.bipush 50, 2)] (by decide +kernel) (j := 0) (pc' := 145) (lv' := [(0, .ref 294)]) (st' := [.int (50 : Int32), .ref 294]) rfl ?_
  refine Ev.newa D_182 (t := .int) (by decide +kernel) (kd := 20) (by decide) (w := (cS L xs 313 133 5 20066)) (nA_c (by decide +kernel)) ?_
  show Ev (d + 1) 182 147 [(0, .ref 294)] [.ref 312, .ref 294] (cS L xs 313 133 5 20066) _
  refine Ev.putR D_182 (by decide +kernel) F_10_67 (Or.inr ⟨by decide +kernel, rfl⟩) T_10_37 (pR_c (by decide +kernel)) ?_
  show Ev (d + 1) 182 150 [(0, .ref 294)] [] (cS L xs 313 134 5 20066) _
  refine Ev.seg D_182 [(.aload_n 0, 1), (.iconst 4, 1)] (by decide +kernel) (j := 0) (pc' := 152) (lv' := [(0, .ref 294)]) (st' := [.int (4 : Int32), .ref 294]) rfl ?_
  refine Ev.newa D_182 (t := .int) (by decide +kernel) (kd := 20) (by decide) (w := (cS L xs 314 134 5 20070)) (nA_c (by decide +kernel)) ?_
  show Ev (d + 1) 182 154 [(0, .ref 294)] [.ref 313, .ref 294] (cS L xs 314 134 5 20070) _
  refine Ev.seg D_182 [(.dup, 1), (.iconst 0, 1), (.iconst (-1), 1)] (by decide +kernel) (j := 0) (pc' := 157) (lv' := [(0, .ref 294)]) (st' := [.int (-1 : Int32), .int (0 : Int32), .ref 313, .ref 313, .ref 294]) rfl ?_
  refine Ev.iast D_182 (by decide +kernel) (w := (cS L xs 314 134 6 20070)) (sI_c (by decide +kernel)) ?_
  show Ev (d + 1) 182 158 [(0, .ref 294)] [.ref 313, .ref 294] (cS L xs 314 134 6 20070) _
  refine Ev.seg D_182 [(.dup, 1), (.iconst 1, 1), (.iconst (-1), 1)] (by decide +kernel) (j := 0) (pc' := 161) (lv' := [(0, .ref 294)]) (st' := [.int (-1 : Int32), .int (1 : Int32), .ref 313, .ref 313, .ref 294]) rfl ?_
  refine Ev.iast D_182 (by decide +kernel) (w := (cS L xs 314 134 7 20070)) (sI_c (by decide +kernel)) ?_
  show Ev (d + 1) 182 162 [(0, .ref 294)] [.ref 313, .ref 294] (cS L xs 314 134 7 20070) _
  refine Ev.seg D_182 [(.dup, 1), (.iconst 2, 1), (.iconst (-1), 1)] (by decide +kernel) (j := 0) (pc' := 165) (lv' := [(0, .ref 294)]) (st' := [.int (-1 : Int32), .int (2 : Int32), .ref 313, .ref 313, .ref 294]) rfl ?_
  refine Ev.iast D_182 (by decide +kernel) (w := (cS L xs 314 134 8 20070)) (sI_c (by decide +kernel)) ?_
  show Ev (d + 1) 182 166 [(0, .ref 294)] [.ref 313, .ref 294] (cS L xs 314 134 8 20070) _
  refine Ev.seg D_182 [(.dup, 1), (.iconst 3, 1), (.iconst (-1), 1)] (by decide +kernel) (j := 0) (pc' := 169) (lv' := [(0, .ref 294)]) (st' := [.int (-1 : Int32), .int (3 : Int32), .ref 313, .ref 313, .ref 294]) rfl ?_
  refine Ev.iast D_182 (by decide +kernel) (w := (cS L xs 314 134 9 20070)) (sI_c (by decide +kernel)) ?_
  show Ev (d + 1) 182 170 [(0, .ref 294)] [.ref 313, .ref 294] (cS L xs 314 134 9 20070) _
  refine Ev.putR D_182 (by decide +kernel) F_10_70 (Or.inr ⟨by decide +kernel, rfl⟩) T_10_43 (pR_c (by decide +kernel)) ?_
  show Ev (d + 1) 182 173 [(0, .ref 294)] [] (cS L xs 314 135 9 20070) _
  refine Ev.seg D_182 [(.aload_n 0, 1), (.iconst 4, 1)] (by decide +kernel) (j := 0) (pc' := 175) (lv' := [(0, .ref 294)]) (st' := [.int (4 : Int32), .ref 294]) rfl ?_
  refine Ev.newa D_182 (t := .int) (by decide +kernel) (kd := 20) (by decide) (w := (cS L xs 315 135 9 20074)) (nA_c (by decide +kernel)) ?_
  show Ev (d + 1) 182 177 [(0, .ref 294)] [.ref 314, .ref 294] (cS L xs 315 135 9 20074) _
  refine Ev.putR D_182 (by decide +kernel) F_10_73 (Or.inr ⟨by decide +kernel, rfl⟩) T_10_44 (pR_c (by decide +kernel)) ?_
  show Ev (d + 1) 182 180 [(0, .ref 294)] [] (cS L xs 315 136 9 20074) _
  refine Ev.seg D_182 [(.aload_n 0, 1), (.sipush 240, 3)] (by decide +kernel) (j := 0) (pc' := 184) (lv' := [(0, .ref 294)]) (st' := [.int (240 : Int32), .ref 294]) rfl ?_
  refine Ev.newa D_182 (t := .long) (by decide +kernel) (kd := 23) (by decide) (w := (cS L xs 316 136 9 20314)) (nA_c (by decide +kernel)) ?_
  show Ev (d + 1) 182 186 [(0, .ref 294)] [.ref 315, .ref 294] (cS L xs 316 136 9 20314) _
  refine Ev.putR D_182 (by decide +kernel) F_10_76 (Or.inr ⟨by decide +kernel, rfl⟩) T_10_45 (pR_c (by decide +kernel)) ?_
  show Ev (d + 1) 182 189 [(0, .ref 294)] [] (cS L xs 316 137 9 20314) _
  refine Ev.seg D_182 [(.aload_n 0, 1), (.bipush 60, 2)] (by decide +kernel) (j := 0) (pc' := 192) (lv' := [(0, .ref 294)]) (st' := [.int (60 : Int32), .ref 294]) rfl ?_
  refine Ev.newa D_182 (t := .long) (by decide +kernel) (kd := 23) (by decide) (w := (cS L xs 317 137 9 20374)) (nA_c (by decide +kernel)) ?_
  show Ev (d + 1) 182 194 [(0, .ref 294)] [.ref 316, .ref 294] (cS L xs 317 137 9 20374) _
  refine Ev.putR D_182 (by decide +kernel) F_10_80 (Or.inr ⟨by decide +kernel, rfl⟩) T_10_46 (pR_c (by decide +kernel)) ?_
  show Ev (d + 1) 182 197 [(0, .ref 294)] [] (cS L xs 317 138 9 20374) _
  exact Ev.vret D_182 (by decide +kernel)
set_option maxRecDepth 8000 in
theorem ct_law (L : Nat) (xs : Nat → Int32) {d : Nat} (hd : 13 ≤ d + 1) {o : Option Value × mS} (h : Ev (d + 1) 335 18 [(0, .ref XB), (1, .ref 0), (2, .ref 294), (3, .int (0 : Int32))] [] (cS L xs 317 138 9 20374) o) : Ev (d + 1) 335 0 [(0, .ref XB)] [] (cS L xs 0 0 0 0) o := by
  refine Ev.new D_335 (i := 7) (by decide +kernel) (ci := 9) (by decide +kernel) (by decide) (w := (cS L xs 1 0 0 12)) (nO_c (by decide +kernel)) ?_
  show Ev (d + 1) 335 3 [(0, .ref XB)] [.ref 0] (cS L xs 1 0 0 12) _
  refine Ev.seg D_335 [(.dup, 1)] (by decide +kernel) (j := 0) (pc' := 4) (lv' := [(0, .ref XB)]) (st' := [.ref 0, .ref 0]) rfl ?_
  refine Ev.calli D_335 E_90 (by decide +kernel) (Or.inl C_11_9) 0 [] (r := [.ref 0]) rfl rfl (Nat.le_of_ble_eq_true rfl) (Nat.le_of_ble_eq_true rfl) (ct_18 L xs (by omega)) ?_
  show Ev (d + 1) 335 7 [(0, .ref XB)] [.ref 0] (cS L xs 294 116 4 2932) _
  refine Ev.seg D_335 [(.astore_n 1, 1)] (by decide +kernel) (j := 0) (pc' := 8) (lv' := [(1, .ref 0), (0, .ref XB)]) (st' := []) rfl ?_
  refine Ev.new D_335 (i := 10) (by decide +kernel) (ci := 10) (by decide +kernel) (by decide) (w := (cS L xs 295 116 4 2979)) (nO_c (by decide +kernel)) ?_
  show Ev (d + 1) 335 11 [(1, .ref 0), (0, .ref XB)] [.ref 294] (cS L xs 295 116 4 2979) _
  refine Ev.seg D_335 [(.dup, 1)] (by decide +kernel) (j := 0) (pc' := 12) (lv' := [(1, .ref 0), (0, .ref XB)]) (st' := [.ref 294, .ref 294]) rfl ?_
  refine Ev.calli D_335 E_182 (by decide +kernel) (Or.inl C_11_12) 294 [] (r := [.ref 294]) rfl rfl (Nat.le_of_ble_eq_true rfl) (Nat.le_of_ble_eq_true rfl) (ct_19 L xs (by omega)) ?_
  show Ev (d + 1) 335 15 [(1, .ref 0), (0, .ref XB)] [.ref 294] (cS L xs 317 138 9 20374) _
  refine Ev.seg D_335 [(.astore_n 2, 1), (.iconst 0, 1), (.istore_n 3, 1)] (by decide +kernel) (j := 0) (pc' := 18) (lv' := [(3, .int (0 : Int32)), (2, .ref 294), (1, .ref 0), (0, .ref XB)]) (st' := []) rfl ?_
  exact Ev.sub2 h (subL_cons rfl (subL_cons rfl (subL_cons rfl (subL_cons rfl subL_nil))))
/-- the whole of the law: what its loop answers, the machine answers -/
theorem law_of (L : Nat) (xs : Nat → Int32) (s : mT) (h : wh FU (gLaw_law_h18 L) ((0 : Int32), s0 xs) = some (1, s)) : ∃ (n : Nat) (w : mS), ev n 14 335 0 (mA 0 [.ref XB]) [] (u0 L xs) = some (some (.int 1), w) ∧ mN w ≤ 600000 ∧ mZ w ≤ 7302250 := by
  have h1 := gLaw_loop (L := L) (d := 13) (by omega) h
  rw [← cS_uS] at h1
  have h2 := ct_law L xs (d := 13) (by omega) h1
  rw [← u0_cS] at h2
  obtain ⟨n, hn⟩ := h2
  exact ⟨n, _, hn, (by decide : 317 ≤ 600000), (by decide : 20374 ≤ 7302250)⟩
