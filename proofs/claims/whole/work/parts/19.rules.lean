/-! THE SMALL MACHINE's own rules: an instruction that asks the store, a rule -/
/-- a boolean array's number i -/
def aZ (u : mS) (a : Nat) (i : Int32) : Option Int32 := if (mK u a).1 = 22 ∧ a < mN u ∧ ¬ (i < 0 ∨ (mK u a).2 ≤ i.toNatClampNeg) then some (mI u a i.toNatClampNeg) else none
/-- a new object, a new array of a kind, new int[n][k] -/
def nO (u : mS) (ci : Nat) : Option mS := if mN u < XB then some (nC u ci (mm_nf ci)) else none
def nA (u : mS) (kd : Nat) (n : Int32) : Option mS := if ¬ n < 0 ∧ n.toNatClampNeg ≤ 20000 ∧ mN u < XB then some (nC u kd n.toNatClampNeg) else none
def nAA (u : mS) (n k : Int32) : Option mS := if ¬ n < 0 ∧ n.toNatClampNeg ≤ 20000 ∧ ¬ k < 0 ∧ k.toNatClampNeg ≤ 20000 ∧ mN u + n.toNatClampNeg < XB then some (nM u n.toNatClampNeg k.toNatClampNeg) else none
abbrev imax (x y : Int32) : Int32 := if x < y then y else x
abbrev imin (x y : Int32) : Int32 := if y < x then y else x
abbrev labs (x : Int64) : Int64 := if 0 < x then x else -x
theorem bd {α β : Type} {x : Option α} {f : α → Option β} {b : β} (h : x.bind f = some b) : ∃ a, x = some a ∧ f a = some b := by
  cases x with
  | none => cases h
  | some a => exact ⟨a, rfl, h⟩
section ER
variable {d k ow nL pc i ci j : Nat} {B : ByteArray} {rt : Option FieldType} {lv : mV} {st r : List Value} {u w : mS} {o : Option Value × mS} {a b : Nat}
theorem Ev.getI (hm : mD k ow B nL rt) (hd : decode B pc = .ok (.getfield i, 3)) (hf : mm_fld ow i = some (ci, j)) (ht : fkOf (mm_ty ci j) = 0 ∨ fkOf (mm_ty ci j) = 3) {x : Int32} (hx : oI u ci a j = some x) (h : Ev d k (pc + 3) lv (.int x :: r) u o) : Ev d k pc lv (.ref a :: r) u o := by
  refine Ev.h hm hd (fun _ => rfl) (st' := .int x :: r) (u' := u) ?_ h
  show hGet ow u i a r = _
  unfold hGet
  rw [hf]
  (try dsimp only)
  rcases ht with ht | ht <;> rw [ht] <;> (try dsimp only) <;> rw [hx] <;> rfl
theorem Ev.getL (hm : mD k ow B nL rt) (hd : decode B pc = .ok (.getfield i, 3)) (hf : mm_fld ow i = some (ci, j)) (ht : fkOf (mm_ty ci j) = 1) {x : Int64} (hx : oL u ci a j = some x) (h : Ev d k (pc + 3) lv (.long x :: r) u o) : Ev d k pc lv (.ref a :: r) u o := by
  refine Ev.h hm hd (fun _ => rfl) (st' := .long x :: r) (u' := u) ?_ h
  show hGet ow u i a r = _
  unfold hGet
  rw [hf]
  (try dsimp only)
  rw [ht]
  (try dsimp only)
  rw [hx]
  rfl
theorem Ev.getR (hm : mD k ow B nL rt) (hd : decode B pc = .ok (.getfield i, 3)) (hf : mm_fld ow i = some (ci, j)) (ht : fkOf (mm_ty ci j) = 2) {x : Nat} (hx : oR u ci a j = some x) (h : Ev d k (pc + 3) lv (.ref x :: r) u o) : Ev d k pc lv (.ref a :: r) u o := by
  refine Ev.h hm hd (fun _ => rfl) (st' := .ref x :: r) (u' := u) ?_ h
  show hGet ow u i a r = _
  unfold hGet
  rw [hf]
  (try dsimp only)
  rw [ht]
  (try dsimp only)
  rw [hx]
  rfl
/-- a text's row of bytes, its coder -/
def isS (u : mS) (a : Nat) : Option Unit := if XB ≤ a ∧ (mK u a).1 = 30 then some () else none
theorem isS_some {u : mS} {a : Nat} {x : Unit} (h : isS u a = some x) : XB ≤ a ∧ (mK u a).1 = 30 := by
  unfold isS at h
  split at h
  · rename_i h1; exact h1
  · cases h
theorem Ev.getV {q : Unit} (hm : mD k 13 B nL rt) (hd : decode B pc = .ok (.getfield 9, 3)) (hx : isS u a = some q) (h : Ev d k (pc + 3) lv (.ref (a + 1) :: r) u o) : Ev d k pc lv (.ref a :: r) u o := by
  refine Ev.h hm hd (fun _ => rfl) (st' := .ref (a + 1) :: r) (u' := u) ?_ h
  show hGet 13 u 9 a r = _
  unfold hGet
  rw [show mm_fld 13 9 = none by decide +kernel]
  (try dsimp only)
  rw [if_pos ⟨rfl, isS_some hx⟩, if_pos rfl]
theorem Ev.getC {q : Unit} (hm : mD k 13 B nL rt) (hd : decode B pc = .ok (.getfield 15, 3)) (hx : isS u a = some q) (h : Ev d k (pc + 3) lv (.int 0 :: r) u o) : Ev d k pc lv (.ref a :: r) u o := by
  refine Ev.h hm hd (fun _ => rfl) (st' := .int 0 :: r) (u' := u) ?_ h
  show hGet 13 u 15 a r = _
  unfold hGet
  rw [show mm_fld 13 15 = none by decide +kernel]
  (try dsimp only)
  rw [if_pos ⟨rfl, isS_some hx⟩, if_neg (by decide), if_pos rfl]
theorem Ev.put1 (hm : mD k ow B nL rt) (hd : decode B pc = .ok (.putfield i, 3)) (hf : mm_fld ow i = some (ci, j)) (hfin : mm_fin ci j = false ∨ (((mm_m k).2.1.name == "<init>") = true ∧ ow = ci)) {v : Value} (hx : hPutV u ci j v a r = some (r, w)) (h : Ev d k (pc + 3) lv r w o) : Ev d k pc lv (v :: .ref a :: r) u o := by
  refine Ev.h hm hd (fun _ => rfl) (st' := r) (u' := w) ?_ h
  show hPut ow u ((mm_m k).2.1.name == "<init>") i v a r = _
  unfold hPut
  rw [hf]
  (try dsimp only)
  rw [if_pos hfin]
  exact hx
theorem Ev.putI (hm : mD k ow B nL rt) (hd : decode B pc = .ok (.putfield i, 3)) (hf : mm_fld ow i = some (ci, j)) (hfin : mm_fin ci j = false) (ht : fkOf (mm_ty ci j) = 0) {x : Int32} (hx : pI u ci a j x = some w) (h : Ev d k (pc + 3) lv r w o) : Ev d k pc lv (.int x :: .ref a :: r) u o :=
  Ev.put1 hm hd hf (Or.inl hfin) (by unfold hPutV; rw [ht]; show (pI u ci a j x).map (fun w => (r, w)) = _; rw [hx]; rfl) h
theorem Ev.putZ (hm : mD k ow B nL rt) (hd : decode B pc = .ok (.putfield i, 3)) (hf : mm_fld ow i = some (ci, j)) (hfin : mm_fin ci j = false) (ht : fkOf (mm_ty ci j) = 3) {x : Int32} (hx : pZ u ci a j x = some w) (h : Ev d k (pc + 3) lv r w o) : Ev d k pc lv (.int x :: .ref a :: r) u o :=
  Ev.put1 hm hd hf (Or.inl hfin) (by unfold hPutV; rw [ht]; show (pZ u ci a j x).map (fun w => (r, w)) = _; rw [hx]; rfl) h
theorem Ev.putL (hm : mD k ow B nL rt) (hd : decode B pc = .ok (.putfield i, 3)) (hf : mm_fld ow i = some (ci, j)) (hfin : mm_fin ci j = false) (ht : fkOf (mm_ty ci j) = 1) {x : Int64} (hx : pL u ci a j x = some w) (h : Ev d k (pc + 3) lv r w o) : Ev d k pc lv (.long x :: .ref a :: r) u o :=
  Ev.put1 hm hd hf (Or.inl hfin) (by unfold hPutV; rw [ht]; show (pL u ci a j x).map (fun w => (r, w)) = _; rw [hx]; rfl) h
theorem Ev.putR (hm : mD k ow B nL rt) (hd : decode B pc = .ok (.putfield i, 3)) (hf : mm_fld ow i = some (ci, j)) (hfin : mm_fin ci j = false ∨ (((mm_m k).2.1.name == "<init>") = true ∧ ow = ci)) (ht : fkOf (mm_ty ci j) = 2) (hx : pR u ci a j b = some w) (h : Ev d k (pc + 3) lv r w o) : Ev d k pc lv (.ref b :: .ref a :: r) u o :=
  Ev.put1 hm hd hf hfin (by unfold hPutV; rw [ht]; show (pR u ci a j b).map (fun w => (r, w)) = _; rw [hx]; rfl) h
theorem Ev.iald (hm : mD k ow B nL rt) (hd : decode B pc = .ok (.iaload, 1)) {y x : Int32} (hx : aI u 20 a y = some x) (h : Ev d k (pc + 1) lv (.int x :: r) u o) : Ev d k pc lv (.int y :: .ref a :: r) u o := by
  refine Ev.h hm hd (fun _ => rfl) (st' := .int x :: r) (u' := u) ?_ h
  show (aI u 20 a y).map _ = _
  rw [hx]; rfl
theorem Ev.bald (hm : mD k ow B nL rt) (hd : decode B pc = .ok (.baload, 1)) {y x : Int32} (hx : aI u 21 a y = some x) (h : Ev d k (pc + 1) lv (.int x :: r) u o) : Ev d k pc lv (.int y :: .ref a :: r) u o := by
  refine Ev.h hm hd (fun _ => rfl) (st' := .int x :: r) (u' := u) ?_ h
  show (match aI u 21 a y with | some x => some (Value.int x :: r, u) | none => _) = _
  rw [hx]
theorem Ev.zald (hm : mD k ow B nL rt) (hd : decode B pc = .ok (.baload, 1)) {y x : Int32} (hx : aZ u a y = some x) (h : Ev d k (pc + 1) lv (.int x :: r) u o) : Ev d k pc lv (.int y :: .ref a :: r) u o := by
  refine Ev.h hm hd (fun _ => rfl) (st' := .int x :: r) (u' := u) ?_ h
  unfold aZ at hx
  split at hx
  · rename_i h1
    have e1 : aI u 21 a y = none := if_neg (fun z => by have := z.1; omega)
    have e2 : aI u 22 a y = some x := by rw [← hx]; exact if_pos ⟨h1.1, Or.inl h1.2.1, h1.2.2⟩
    show (match aI u 21 a y with | some x => some (Value.int x :: r, u) | none => if a < mN u then (aI u 22 a y).map (fun x => (Value.int x :: r, u)) else none) = _
    rw [e1, e2]
    (try dsimp only)
    rw [if_pos h1.2.1]
    rfl
  · cases hx
theorem Ev.lald (hm : mD k ow B nL rt) (hd : decode B pc = .ok (.laload, 1)) {y : Int32} {x : Int64} (hx : aL u a y = some x) (h : Ev d k (pc + 1) lv (.long x :: r) u o) : Ev d k pc lv (.int y :: .ref a :: r) u o := by
  refine Ev.h hm hd (fun _ => rfl) (st' := .long x :: r) (u' := u) ?_ h
  show (aL u a y).map _ = _
  rw [hx]; rfl
theorem Ev.aald (hm : mD k ow B nL rt) (hd : decode B pc = .ok (.aaload, 1)) {kd : Nat} (hk : 24 ≤ kd ∧ kd ≤ 26) {y : Int32} {x : Nat} (hx : aR u kd a y = some x) (h : Ev d k (pc + 1) lv (.ref x :: r) u o) : Ev d k pc lv (.int y :: .ref a :: r) u o := by
  refine Ev.h hm hd (fun _ => rfl) (st' := .ref x :: r) (u' := u) ?_ h
  have h1 := (aR_some hx).1
  show (if 1 = 1 ∧ 24 ≤ (mK u a).1 ∧ (mK u a).1 ≤ 26 then (aR u (mK u a).1 a y).map _ else none) = _
  rw [h1, if_pos ⟨rfl, hk⟩, hx]; rfl
theorem Ev.alen (hm : mD k ow B nL rt) (hd : decode B pc = .ok (.arraylength, 1)) {x : Int32} (hx : aLen u a = some x) (h : Ev d k (pc + 1) lv (.int x :: r) u o) : Ev d k pc lv (.ref a :: r) u o := by
  refine Ev.h hm hd (fun _ => rfl) (st' := .int x :: r) (u' := u) ?_ h
  show (aLen u a).map _ = _
  rw [hx]; rfl
theorem Ev.iast (hm : mD k ow B nL rt) (hd : decode B pc = .ok (.iastore, 1)) {y x : Int32} (hx : sI u a y x = some w) (h : Ev d k (pc + 1) lv r w o) : Ev d k pc lv (.int x :: .int y :: .ref a :: r) u o := by
  refine Ev.h hm hd (fun _ => rfl) (st' := r) (u' := w) ?_ h
  show (sI u a y x).map _ = _
  rw [hx]; rfl
theorem Ev.bast (hm : mD k ow B nL rt) (hd : decode B pc = .ok (.bastore, 1)) {y x : Int32} (hx : sB u a y x = some w) (h : Ev d k (pc + 1) lv r w o) : Ev d k pc lv (.int x :: .int y :: .ref a :: r) u o := by
  refine Ev.h hm hd (fun _ => rfl) (st' := r) (u' := w) ?_ h
  show (match sB u a y x with | some w => some (r, w) | none => _) = _
  rw [hx]
theorem Ev.zast (hm : mD k ow B nL rt) (hd : decode B pc = .ok (.bastore, 1)) {y x : Int32} (hx : sZ u a y x = some w) (h : Ev d k (pc + 1) lv r w o) : Ev d k pc lv (.int x :: .int y :: .ref a :: r) u o := by
  refine Ev.h hm hd (fun _ => rfl) (st' := r) (u' := w) ?_ h
  have e1 : sB u a y x = none := by
    unfold sZ at hx
    split at hx
    · rename_i h1
      exact if_neg (fun z => by have := z.1; have := h1.1; omega)
    · cases hx
  show (match sB u a y x with | some w => some (r, w) | none => (sZ u a y x).map (fun w => (r, w))) = _
  rw [e1, hx]; rfl
theorem Ev.last (hm : mD k ow B nL rt) (hd : decode B pc = .ok (.lastore, 1)) {y : Int32} {x : Int64} (hx : sL u a y x = some w) (h : Ev d k (pc + 1) lv r w o) : Ev d k pc lv (.long x :: .int y :: .ref a :: r) u o := by
  refine Ev.h hm hd (fun _ => rfl) (st' := r) (u' := w) ?_ h
  show (sL u a y x).map _ = _
  rw [hx]; rfl
theorem Ev.aast (hm : mD k ow B nL rt) (hd : decode B pc = .ok (.aastore, 1)) {y : Int32} (hx : sR u a y b = some w) (h : Ev d k (pc + 1) lv r w o) : Ev d k pc lv (.ref b :: .int y :: .ref a :: r) u o := by
  refine Ev.h hm hd (fun _ => rfl) (st' := r) (u' := w) ?_ h
  show (sR u a y b).map _ = _
  rw [hx]; rfl
theorem Ev.stat (hm : mD k ow B nL rt) (hd : decode B pc = .ok (.getstatic i, 3)) {v : Value} (hx : hStat ow i = some v) (h : Ev d k (pc + 3) lv (v :: r) u o) : Ev d k pc lv r u o := by
  refine Ev.h hm hd (fun _ => rfl) (st' := v :: r) (u' := u) ?_ h
  show (hStat ow i).map _ = _
  rw [hx]; rfl
theorem Ev.ldc (hm : mD k ow B nL rt) (hd : decode B pc = .ok (.ldc i, 2)) {v : Value} (hx : hConst ow i = some v) (h : Ev d k (pc + 2) lv (v :: r) u o) : Ev d k pc lv r u o := by
  refine Ev.h hm hd (fun _ => rfl) (st' := v :: r) (u' := u) ?_ h
  show (hConst ow i).map _ = _
  rw [hx]; rfl
theorem Ev.ldcw (hm : mD k ow B nL rt) (hd : decode B pc = .ok (.ldc_w i, 3)) {x : Int32} (hx : mm_int ow i = some x) (h : Ev d k (pc + 3) lv (.int x :: r) u o) : Ev d k pc lv r u o := by
  refine Ev.h hm hd (fun _ => rfl) (st' := .int x :: r) (u' := u) ?_ h
  show (mm_int ow i).map _ = _
  rw [hx]; rfl
theorem Ev.ldc2 (hm : mD k ow B nL rt) (hd : decode B pc = .ok (.ldc2_w i, 3)) {x : Int64} (hx : mm_long ow i = some x) (h : Ev d k (pc + 3) lv (.long x :: r) u o) : Ev d k pc lv r u o := by
  refine Ev.h hm hd (fun _ => rfl) (st' := .long x :: r) (u' := u) ?_ h
  show (mm_long ow i).map _ = _
  rw [hx]; rfl
theorem Ev.new (hm : mD k ow B nL rt) (hd : decode B pc = .ok (.new i, 3)) (hc : mm_new ow i = some ci) (hci : ci < 11) (hx : nO u ci = some w) (h : Ev d k (pc + 3) lv (.ref (mN u) :: r) w o) : Ev d k pc lv r u o := by
  refine Ev.h hm hd (fun _ => rfl) (st' := .ref (mN u) :: r) (u' := w) ?_ h
  unfold nO at hx
  split at hx
  · rename_i h1
    cases hx
    show hNew ow u i r = _
    unfold hNew
    rw [hc]
    exact if_pos ⟨hci, h1⟩
  · cases hx
theorem Ev.newa (hm : mD k ow B nL rt) {t : ClassFile.ArrayType} (hd : decode B pc = .ok (.newarray t, 2)) {kd : Nat} (ht : (t = .int ∧ kd = 20) ∨ (t = .byte ∧ kd = 21) ∨ (t = .boolean ∧ kd = 22) ∨ (t = .long ∧ kd = 23)) {n : Int32} (hx : nA u kd n = some w) (h : Ev d k (pc + 2) lv (.ref (mN u) :: r) w o) : Ev d k pc lv (.int n :: r) u o := by
  refine Ev.h hm hd (fun _ => rfl) (st' := .ref (mN u) :: r) (u' := w) ?_ h
  unfold nA at hx
  split at hx
  · rename_i h1
    cases hx
    show hNewA u t n r = _
    unfold hNewA
    rw [if_pos h1]
    rcases ht with ⟨rfl, rfl⟩ | ⟨rfl, rfl⟩ | ⟨rfl, rfl⟩ | ⟨rfl, rfl⟩ <;> rfl
  · cases hx
theorem Ev.newr (hm : mD k ow B nL rt) (hd : decode B pc = .ok (.anewarray i, 3)) {kd : Nat} (hc : mm_new ow i = some ci) (ht : (ci = 2 ∧ kd = 24) ∨ (ci = 4 ∧ kd = 25)) {n : Int32} (hx : nA u kd n = some w) (h : Ev d k (pc + 3) lv (.ref (mN u) :: r) w o) : Ev d k pc lv (.int n :: r) u o := by
  refine Ev.h hm hd (fun _ => rfl) (st' := .ref (mN u) :: r) (u' := w) ?_ h
  unfold nA at hx
  split at hx
  · rename_i h1
    cases hx
    show hNewR ow u i n r = _
    unfold hNewR
    rw [hc]
    rcases ht with ⟨rfl, rfl⟩ | ⟨rfl, rfl⟩
    · exact if_pos ⟨h1, Or.inl rfl⟩
    · exact if_pos ⟨h1, Or.inr rfl⟩
  · cases hx
theorem Ev.newm (hm : mD k ow B nL rt) (hd : decode B pc = .ok (.multianewarray i 2, 4)) (hc : mm_new ow i = some 26) {n m : Int32} (hx : nAA u n m = some w) (h : Ev d k (pc + 4) lv (.ref (mN u) :: r) w o) : Ev d k pc lv (.int m :: .int n :: r) u o := by
  refine Ev.h hm hd (fun _ => rfl) (st' := .ref (mN u) :: r) (u' := w) ?_ h
  unfold nAA at hx
  split at hx
  · rename_i h1
    cases hx
    show hNewM ow u i n m r = _
    unfold hNewM
    rw [hc]
    exact if_pos ⟨h1, rfl⟩
  · cases hx
theorem Ev.prim (hm : mD k ow B nL rt) (hd : decode B pc = .ok (.invokestatic i, 3)) (hp : 0 < d) {st' : List Value} (hx : hPrim ow u i st = some (st', w)) (h : Ev d k (pc + 3) lv st' w o) : Ev d k pc lv st u o := by
  refine Ev.h hm hd (fun _ => rfl) (st' := st') (u' := w) ?_ h
  have e : hF ow d ((mm_m k).2.1.name == "<init>") (.invokestatic i) 3 st u = if 3 = 3 ∧ 0 < d then hPrim ow u i st else none := by
    cases st <;> rfl
  rw [e, if_pos ⟨rfl, hp⟩]
  exact hx
theorem Ev.max (hm : mD k ow B nL rt) (hd : decode B pc = .ok (.invokestatic i, 3)) (hp : 0 < d) {q : Nat} (hc : mm_call ow i = some (11, q)) (h8 : stW r ≤ 8) {x y : Int32} (h : Ev d k (pc + 3) lv (.int (imax x y) :: r) u o) : Ev d k pc lv (.int y :: .int x :: r) u o :=
  Ev.prim hm hd hp (st' := .int (imax x y) :: r) (w := u) (by unfold hPrim; rw [hc]; exact if_pos h8) h
theorem Ev.min (hm : mD k ow B nL rt) (hd : decode B pc = .ok (.invokestatic i, 3)) (hp : 0 < d) {q : Nat} (hc : mm_call ow i = some (12, q)) (h8 : stW r ≤ 8) {x y : Int32} (h : Ev d k (pc + 3) lv (.int (imin x y) :: r) u o) : Ev d k pc lv (.int y :: .int x :: r) u o :=
  Ev.prim hm hd hp (st' := .int (imin x y) :: r) (w := u) (by unfold hPrim; rw [hc]; exact if_pos h8) h
theorem Ev.abs (hm : mD k ow B nL rt) (hd : decode B pc = .ok (.invokestatic i, 3)) (hp : 0 < d) {q : Nat} (hc : mm_call ow i = some (13, q)) (h8 : stW r ≤ 8) {x : Int64} (h : Ev d k (pc + 3) lv (.long (labs x) :: r) u o) : Ev d k pc lv (.long x :: r) u o :=
  Ev.prim hm hd hp (st' := .long (labs x) :: r) (w := u) (by unfold hPrim; rw [hc]; exact if_pos h8) h
theorem cpyL_n {sp dp n : Int32} (hx : cpyL u a sp b dp n = some w) : cpyI u a sp b dp n = none := by
  unfold cpyL at hx
  split at hx
  · rename_i h1
    exact if_neg (fun z => by have := z.1.1; have := h1.1.1; omega)
  · cases hx
theorem Ev.cpI (hm : mD k ow B nL rt) (hd : decode B pc = .ok (.invokestatic i, 3)) (hp : 0 < d) {q : Nat} (hc : mm_call ow i = some (14, q)) (h8 : stW r ≤ 8) {sp dp n : Int32} (hx : cpyI u a sp b dp n = some w) (h : Ev d k (pc + 3) lv r w o) : Ev d k pc lv (.int n :: .int dp :: .ref b :: .int sp :: .ref a :: r) u o :=
  Ev.prim hm hd hp (st' := r) (w := w) (by
    unfold hPrim; rw [hc]
    show (if stW r ≤ 8 then (match cpyI u a sp b dp n with
      | some w => some (r, w)
      | none => (cpyL u a sp b dp n).map (fun w => (r, w))) else none) = _
    rw [if_pos h8, hx]) h
theorem Ev.cpL (hm : mD k ow B nL rt) (hd : decode B pc = .ok (.invokestatic i, 3)) (hp : 0 < d) {q : Nat} (hc : mm_call ow i = some (14, q)) (h8 : stW r ≤ 8) {sp dp n : Int32} (hx : cpyL u a sp b dp n = some w) (h : Ev d k (pc + 3) lv r w o) : Ev d k pc lv (.int n :: .int dp :: .ref b :: .int sp :: .ref a :: r) u o :=
  Ev.prim hm hd hp (st' := r) (w := w) (by
    unfold hPrim; rw [hc]
    show (if stW r ≤ 8 then (match cpyI u a sp b dp n with
      | some w => some (r, w)
      | none => (cpyL u a sp b dp n).map (fun w => (r, w))) else none) = _
    rw [if_pos h8, cpyL_n hx, hx]; rfl) h
theorem hPrim_none {k' : Nat} (hc : mm_call ow i = some (1, k')) : hPrim ow u i st = none := by
  unfold hPrim
  rw [hc]
  split <;> first | rfl | (rename_i heq; simp at heq)
theorem hSp_none {k' : Nat} {b : Bool} (hc : mm_call ow i = some (2, k') ∨ mm_call ow i = some (3, k')) : hF ow d b (.invokespecial i) 3 st u = none := by
  cases st with
  | nil => rfl
  | cons v r2 =>
    cases v with
    | ref a =>
      show (if 3 = 3 ∧ 0 < d then hObj ow u i a r2 else none) = none
      split
      · unfold hObj
        rcases hc with hc | hc <;> rw [hc] <;> rfl
      · rfl
    | _ => rfl
theorem Ev.obj (hm : mD k ow B nL rt) (hd : decode B pc = .ok (.invokespecial i, 3)) (hp : 0 < d) {q : Nat} (hc : mm_call ow i = some (10, q)) (h8 : stW r ≤ 8) (ha : a < mN u) (h : Ev d k (pc + 3) lv r u o) : Ev d k pc lv (.ref a :: r) u o := by
  refine Ev.h hm hd (fun _ => rfl) (st' := r) (u' := u) ?_ h
  show (if 3 = 3 ∧ 0 < d then hObj ow u i a r else none) = _
  rw [if_pos ⟨rfl, hp⟩]
  unfold hObj
  rw [hc]
  exact if_pos ⟨h8, ha⟩
theorem cA_is {k' : Nat} {as : List Value} (h1 : (mm_m k').2.2.2.2.2.1 = as.length) (h2 : stW as ≤ (mm_m k').2.2.2.1) (h8 : stW r ≤ 8) : cA k' (as.reverse ++ r) = some (k', as, r) := by
  have e1 : (as.reverse ++ r).take as.length = as.reverse := by
    rw [← List.length_reverse, List.take_left]
  have e2 : (as.reverse ++ r).drop as.length = r := by
    rw [← List.length_reverse, List.drop_left]
  unfold cA
  rw [h1, e1, e2, List.reverse_reverse, if_pos ⟨h8, by rw [List.length_append, List.length_reverse]; omega, h2⟩]
/-- the method k': its class, arguments, locals -/
def mE1 (k' c' na nl : Nat) : Prop := (mm_m k').1 = c' ∧ (mm_m k').2.2.2.2.2.1 = na ∧ (mm_m k').2.2.2.1 = nl
theorem Ev.calls (hm : mD k ow B nL rt) {k' c' na nl : Nat} (hm' : mE1 k' c' na nl) (hd : decode B pc = .ok (.invokestatic i, 3)) (hc : mm_call ow i = some (1, k')) (as : List Value) (hst : st = as.reverse ++ r) (h1 : na = as.length) (h2 : stW as ≤ nl) (h8 : stW r ≤ 8) {v : Option Value} (hcall : Ev d k' 0 (mA 0 as) [] u (v, w)) (h : Ev (d + 1) k (pc + 3) lv (v.toList ++ r) w o) : Ev (d + 1) k pc lv st u o := by
  obtain ⟨-, m1, m2⟩ := hm'
  refine Ev.call hm hd (fun _ => rfl) ?_ ?_ hcall h
  · have e : hF ow (d + 1) ((mm_m k).2.1.name == "<init>") (.invokestatic i) 3 st u = if 3 = 3 ∧ 0 < d + 1 then hPrim ow u i st else none := by cases st <;> rfl
    rw [e, if_pos ⟨rfl, Nat.succ_pos d⟩]
    exact hPrim_none hc
  · unfold cF
    rw [if_pos rfl]
    (try dsimp only)
    rw [hc]
    (try dsimp only)
    rw [hst]
    exact cA_is (m1.trans h1) (by rw [m2]; exact h2) h8
theorem Ev.callv (hm : mD k ow B nL rt) {k' c' na nl : Nat} (hm' : mE1 k' c' na nl) (hd : decode B pc = .ok (.invokevirtual i, 3)) (hc : mm_call ow i = some (0, k')) (a : Nat) (As : List Value) (hst : st = (Value.ref a :: As).reverse ++ r) (ho : (a < mN u ∧ (mK u a).1 = c' ∧ c' < 11) ∨ (XB ≤ a ∧ (mK u a).1 = 30 ∧ c' = 13)) (h1 : na = As.length + 1) (h2 : stW (Value.ref a :: As) ≤ nl) (h8 : stW r ≤ 8) {v : Option Value} (hcall : Ev d k' 0 (mA 0 (Value.ref a :: As)) [] u (v, w)) (h : Ev (d + 1) k (pc + 3) lv (v.toList ++ r) w o) : Ev (d + 1) k pc lv st u o := by
  obtain ⟨m0, m1, m2⟩ := hm'
  refine Ev.call hm hd (fun _ => rfl) ?_ ?_ hcall h
  · cases st <;> rfl
  · unfold cF
    rw [if_pos rfl]
    (try dsimp only)
    rw [hc]
    show (match cA k' st with
      | some q => if cR u k' q.2.1 = true then some q else none
      | none => none) = _
    rw [hst, cA_is (as := Value.ref a :: As) (m1.trans h1) (by rw [m2]; exact h2) h8]
    exact if_pos (by unfold cR; (try dsimp only); rw [m0]; exact decide_eq_true ho)
theorem Ev.calli (hm : mD k ow B nL rt) {k' c' na nl : Nat} (hm' : mE1 k' c' na nl) (hd : decode B pc = .ok (.invokespecial i, 3)) (hc : mm_call ow i = some (2, k') ∨ mm_call ow i = some (3, k')) (a : Nat) (As : List Value) (hst : st = (Value.ref a :: As).reverse ++ r) (h1 : na = As.length + 1) (h2 : stW (Value.ref a :: As) ≤ nl) (h8 : stW r ≤ 8) {v : Option Value} (hcall : Ev d k' 0 (mA 0 (Value.ref a :: As)) [] u (v, w)) (h : Ev (d + 1) k (pc + 3) lv (v.toList ++ r) w o) : Ev (d + 1) k pc lv st u o := by
  obtain ⟨m0, m1, m2⟩ := hm'
  refine Ev.call hm hd (fun _ => rfl) ?_ ?_ hcall h
  · exact hSp_none hc
  · unfold cF
    rw [if_pos rfl]
    (try dsimp only)
    rcases hc with hc | hc
    · rw [hc]
      show (match cA k' st with
        | some q => if cO q.2.1 = true then some q else none
        | none => none) = _
      rw [hst, cA_is (as := Value.ref a :: As) (m1.trans h1) (by rw [m2]; exact h2) h8]
      exact if_pos rfl
    · rw [hc]
      show (match cA k' st with
        | some q => if cO q.2.1 = true then some q else none
        | none => none) = _
      rw [hst, cA_is (as := Value.ref a :: As) (m1.trans h1) (by rw [m2]; exact h2) h8]
      exact if_pos rfl
end ER
