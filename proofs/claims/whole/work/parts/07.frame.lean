/-! THE SMALL MACHINE against the real one: steps that touch the frame alone -/
/-- the place of the outside's and the own cells: the base, the outside's addresses, the classes, the classes of arrays, the script -/
abbrev mE : Type := Nat × (Nat → Nat) × va_G × (Nat → ClassId) × Nat × (Nat → Int32)
def eA (E : mE) (a : Nat) : Nat := if a < XB then E.1 + a else E.2.1 a
/-- the one reference of which it is not known whether it is null (the small machine has it as 'retAddr') -/
def eFm (E : mE) : Value := if E.2.1 (XB + 2) = 0 then .null else .ref (E.2.1 (XB + 2) - 1)
def eV (E : mE) (v : Value) : Value := match v with
  | .ref a => .ref (eA E a)
  | .retAddr _ => eFm E
  | w => w
def eLv (E : mE) (lv : mV) : mV := lv.map (fun q => (q.1, eV E q.2))
theorem eFm_cat (E : mE) : (eFm E).category = 1 := by
  unfold eFm
  split <;> rfl
theorem eV_cat (E : mE) (v : Value) : (eV E v).category = v.category := by cases v <;> first | rfl | exact eFm_cat E
theorem lget_at {E : mE} {ls : Array Slot} {nL i : Nat} {lv : mV} {v : Value} (h : lv_has ls nL (eLv E lv)) (hg : lget i lv = some v) : ls[i]? = some (.val (eV E v)) := by
  unfold lget at hg
  cases hf : lv.find? (fun q => q.1 == i) with
  | none => rw [hf] at hg; cases hg
  | some q =>
    rw [hf] at hg
    cases hg
    have h1 := List.find?_some hf
    have h2 : q.1 = i := by simpa using h1
    have h3 := List.mem_of_find?_eq_some hf
    have h4 := h.2.2 (q.1, eV E q.2) (List.mem_map.mpr ⟨q, h3, rfl⟩)
    rw [h2] at h4
    exact h4
theorem filt_map {E : mE} (f : Nat × Value → Bool) (hf : ∀ q : Nat × Value, f (q.1, eV E q.2) = f q) (lv : mV) : eLv E (lv.filter f) = (eLv E lv).filter f := by
  unfold eLv
  rw [List.filter_map]
  congr 1
  refine List.filter_congr (fun q _ => ?_)
  exact (hf q).symm
theorem lst1_e (E : mE) (i : Nat) (v : Value) (lv : mV) : eLv E (lst1 i v lv) = (i, eV E v) :: (eLv E lv).filter (fun q => !(q.1 == i) && !(q.1 + 1 == i && q.2.category == 2)) := by
  show (i, eV E v) :: eLv E (lv.filter _) = _
  rw [filt_map]
  intro q
  show (!(q.1 == i) && !(q.1 + 1 == i && (eV E q.2).category == 2)) = _
  rw [eV_cat]
theorem lst2_e (E : mE) (i : Nat) (v : Value) (lv : mV) : eLv E (lst2 i v lv) = (i, eV E v) :: (eLv E lv).filter (fun q => !(q.1 == i) && (!(q.1 == i + 1) && !(q.1 + 1 == i && q.2.category == 2))) := by
  show (i, eV E v) :: eLv E (lv.filter _) = _
  rw [filt_map]
  intro q
  show (!(q.1 == i) && (!(q.1 == i + 1) && !(q.1 + 1 == i && (eV E q.2).category == 2))) = _
  rw [eV_cat]
theorem jT_eq {pc t : Nat} {off : Int} (h : jT pc off = some t) : (pc : Int) + off = (t : Int) := by
  unfold jT at h
  split at h
  · cases h; omega
  · cases h
theorem cH_t {c : ClassFile.Cond} {x y : Int32} {a b : Nat} (h : cH c x y = true) : (if cH c x y = true then a else b) = a := if_pos h
theorem cH_f {c : ClassFile.Cond} {x y : Int32} {a b : Nat} (h : cH c x y = false) : (if cH c x y = true then a else b) = b := if_neg (by rw [h]; exact Bool.false_ne_true)
section SF
variable {p : Program} {l : Launch} {e : Env} {R : Room} {s : State} {m : MethodId} {args : Array Value} {below : List Frame} {meth : Method} {c : Code} {H : Heap} {locs : List Loc} {cells slots : Nat} {Q : State → Prop}
variable {cc : ByteArray} {ls : Array Slot} {E : mE} {len pc nL pc' : Nat} {lv lv' : mV} {st st' : List Value}

theorem sF_iconst (hx : p.tables.exec = Jvm.exec) (hb : c.code = cc) {n : Int} (hd : decode cc pc = .ok (.iconst n, len)) (hf : fK len pc lv st 1 (.int (Int32.ofInt n)) = some (pc', lv', st')) (hl : lv_has ls nL (eLv E lv)) (kk : ∀ ls' : Array Slot, lv_has ls' nL (eLv E lv') → W p l e R s m args below meth c H locs cells slots Q (F0 m pc' ls' (st'.map (eV E)))) : W p l e R s m args below meth c H locs cells slots Q (F0 m pc ls (st.map (eV E))) := by
  unfold fK at hf
  split at hf
  · rename_i h1
    subst h1
    cases hf
    exact lv_iconst hx hb hd rfl (kk ls hl)
  · cases hf
theorem sF_bipush (hx : p.tables.exec = Jvm.exec) (hb : c.code = cc) {n : Int} (hd : decode cc pc = .ok (.bipush n, len)) (hf : fK len pc lv st 2 (.int (Int8.ofInt n).toInt32) = some (pc', lv', st')) (hl : lv_has ls nL (eLv E lv)) (kk : ∀ ls' : Array Slot, lv_has ls' nL (eLv E lv') → W p l e R s m args below meth c H locs cells slots Q (F0 m pc' ls' (st'.map (eV E)))) : W p l e R s m args below meth c H locs cells slots Q (F0 m pc ls (st.map (eV E))) := by
  unfold fK at hf
  split at hf
  · rename_i h1
    subst h1
    cases hf
    exact lv_bipush hx hb hd rfl (kk ls hl)
  · cases hf
theorem sF_sipush (hx : p.tables.exec = Jvm.exec) (hb : c.code = cc) {n : Int} (hd : decode cc pc = .ok (.sipush n, len)) (hf : fK len pc lv st 3 (.int (Int16.ofInt n).toInt32) = some (pc', lv', st')) (hl : lv_has ls nL (eLv E lv)) (kk : ∀ ls' : Array Slot, lv_has ls' nL (eLv E lv') → W p l e R s m args below meth c H locs cells slots Q (F0 m pc' ls' (st'.map (eV E)))) : W p l e R s m args below meth c H locs cells slots Q (F0 m pc ls (st.map (eV E))) := by
  unfold fK at hf
  split at hf
  · rename_i h1
    subst h1
    cases hf
    exact lv_sipush hx hb hd rfl (kk ls hl)
  · cases hf
theorem sF_lconst (hx : p.tables.exec = Jvm.exec) (hb : c.code = cc) {n : Fin 2} (hd : decode cc pc = .ok (.lconst n, len)) (hf : fK len pc lv st 1 (.long (Int64.ofNat (n : Nat))) = some (pc', lv', st')) (hl : lv_has ls nL (eLv E lv)) (kk : ∀ ls' : Array Slot, lv_has ls' nL (eLv E lv') → W p l e R s m args below meth c H locs cells slots Q (F0 m pc' ls' (st'.map (eV E)))) : W p l e R s m args below meth c H locs cells slots Q (F0 m pc ls (st.map (eV E))) := by
  unfold fK at hf
  split at hf
  · rename_i h1
    subst h1
    cases hf
    exact lv_lconst hx hb hd rfl (kk ls hl)
  · cases hf
theorem sF_iload (hx : p.tables.exec = Jvm.exec) (hb : c.code = cc) {i : Nat} (hd : decode cc pc = .ok (.iload i, len)) (hf : fIld len pc lv st 2 i = some (pc', lv', st')) (hl : lv_has ls nL (eLv E lv)) (kk : ∀ ls' : Array Slot, lv_has ls' nL (eLv E lv') → W p l e R s m args below meth c H locs cells slots Q (F0 m pc' ls' (st'.map (eV E)))) : W p l e R s m args below meth c H locs cells slots Q (F0 m pc ls (st.map (eV E))) := by
  unfold fIld at hf
  split at hf
  · rename_i h1
    subst h1
    split at hf
    · rename_i hg
      cases hf
      exact lv_iload hx hb hd (lget_at hl hg) (kk ls hl)
    · cases hf
  · cases hf
theorem sF_iload_n (hx : p.tables.exec = Jvm.exec) (hb : c.code = cc) {k : Fin 4} (hd : decode cc pc = .ok (.iload_n k, len)) (hf : fIld len pc lv st 1 k = some (pc', lv', st')) (hl : lv_has ls nL (eLv E lv)) (kk : ∀ ls' : Array Slot, lv_has ls' nL (eLv E lv') → W p l e R s m args below meth c H locs cells slots Q (F0 m pc' ls' (st'.map (eV E)))) : W p l e R s m args below meth c H locs cells slots Q (F0 m pc ls (st.map (eV E))) := by
  unfold fIld at hf
  split at hf
  · rename_i h1
    subst h1
    split at hf
    · rename_i hg
      cases hf
      exact lv_iload_n hx hb hd rfl (lget_at hl hg) (kk ls hl)
    · cases hf
  · cases hf
theorem sF_lload (hx : p.tables.exec = Jvm.exec) (hb : c.code = cc) {i : Nat} (hd : decode cc pc = .ok (.lload i, len)) (hf : fLld len pc lv st 2 i = some (pc', lv', st')) (hl : lv_has ls nL (eLv E lv)) (kk : ∀ ls' : Array Slot, lv_has ls' nL (eLv E lv') → W p l e R s m args below meth c H locs cells slots Q (F0 m pc' ls' (st'.map (eV E)))) : W p l e R s m args below meth c H locs cells slots Q (F0 m pc ls (st.map (eV E))) := by
  unfold fLld at hf
  split at hf
  · rename_i h1
    subst h1
    split at hf
    · rename_i hg
      cases hf
      exact lv_lload hx hb hd (lget_at hl hg) (kk ls hl)
    · cases hf
  · cases hf
theorem sF_lload_n (hx : p.tables.exec = Jvm.exec) (hb : c.code = cc) {k : Fin 4} (hd : decode cc pc = .ok (.lload_n k, len)) (hf : fLld len pc lv st 1 k = some (pc', lv', st')) (hl : lv_has ls nL (eLv E lv)) (kk : ∀ ls' : Array Slot, lv_has ls' nL (eLv E lv') → W p l e R s m args below meth c H locs cells slots Q (F0 m pc' ls' (st'.map (eV E)))) : W p l e R s m args below meth c H locs cells slots Q (F0 m pc ls (st.map (eV E))) := by
  unfold fLld at hf
  split at hf
  · rename_i h1
    subst h1
    split at hf
    · rename_i hg
      cases hf
      exact lv_lload_n hx hb hd rfl (lget_at hl hg) (kk ls hl)
    · cases hf
  · cases hf
theorem sF_aload (hx : p.tables.exec = Jvm.exec) (hb : c.code = cc) {i : Nat} (hd : decode cc pc = .ok (.aload i, len)) (hf : fAld len pc lv st 2 i = some (pc', lv', st')) (hl : lv_has ls nL (eLv E lv)) (kk : ∀ ls' : Array Slot, lv_has ls' nL (eLv E lv') → W p l e R s m args below meth c H locs cells slots Q (F0 m pc' ls' (st'.map (eV E)))) : W p l e R s m args below meth c H locs cells slots Q (F0 m pc ls (st.map (eV E))) := by
  unfold fAld at hf
  split at hf
  · rename_i h1
    subst h1
    split at hf
    · rename_i hg
      cases hf
      exact lv_aload hx hb hd (lget_at hl hg) (kk ls hl)
    · cases hf
  · cases hf
theorem sF_aload_n (hx : p.tables.exec = Jvm.exec) (hb : c.code = cc) {k : Fin 4} (hd : decode cc pc = .ok (.aload_n k, len)) (hf : fAld len pc lv st 1 k = some (pc', lv', st')) (hl : lv_has ls nL (eLv E lv)) (kk : ∀ ls' : Array Slot, lv_has ls' nL (eLv E lv') → W p l e R s m args below meth c H locs cells slots Q (F0 m pc' ls' (st'.map (eV E)))) : W p l e R s m args below meth c H locs cells slots Q (F0 m pc ls (st.map (eV E))) := by
  unfold fAld at hf
  split at hf
  · rename_i h1
    subst h1
    split at hf
    · rename_i hg
      cases hf
      exact lv_aload_n hx hb hd rfl (lget_at hl hg) (kk ls hl)
    · cases hf
  · cases hf
theorem sF_istore (hx : p.tables.exec = Jvm.exec) (hb : c.code = cc) {i : Nat} (hd : decode cc pc = .ok (.istore i, len)) (hf : fIst len pc nL lv st 2 i = some (pc', lv', st')) (hl : lv_has ls nL (eLv E lv)) (kk : ∀ ls' : Array Slot, lv_has ls' nL (eLv E lv') → W p l e R s m args below meth c H locs cells slots Q (F0 m pc' ls' (st'.map (eV E)))) : W p l e R s m args below meth c H locs cells slots Q (F0 m pc ls (st.map (eV E))) := by
  unfold fIst at hf
  split at hf
  · split at hf
    · rename_i h1
      obtain ⟨h0, h2⟩ := id h1
      subst h0
      cases hf
      exact lv_istore hx hb hd hl h1.2 (lst1_e E i (.int _) lv).symm (fun ls9 h9 => kk ls9 h9)
    · cases hf
  · cases hf
theorem sF_istore_n (hx : p.tables.exec = Jvm.exec) (hb : c.code = cc) {k : Fin 4} (hd : decode cc pc = .ok (.istore_n k, len)) (hf : fIst len pc nL lv st 1 k = some (pc', lv', st')) (hl : lv_has ls nL (eLv E lv)) (kk : ∀ ls' : Array Slot, lv_has ls' nL (eLv E lv') → W p l e R s m args below meth c H locs cells slots Q (F0 m pc' ls' (st'.map (eV E)))) : W p l e R s m args below meth c H locs cells slots Q (F0 m pc ls (st.map (eV E))) := by
  unfold fIst at hf
  split at hf
  · split at hf
    · rename_i h1
      obtain ⟨h0, h2⟩ := id h1
      subst h0
      cases hf
      exact lv_istore_n hx hb hd rfl hl h1.2 (lst1_e E k (.int _) lv).symm (fun ls9 h9 => kk ls9 h9)
    · cases hf
  · cases hf
theorem sF_lstore (hx : p.tables.exec = Jvm.exec) (hb : c.code = cc) {i : Nat} (hd : decode cc pc = .ok (.lstore i, len)) (hf : fLst len pc nL lv st 2 i = some (pc', lv', st')) (hl : lv_has ls nL (eLv E lv)) (kk : ∀ ls' : Array Slot, lv_has ls' nL (eLv E lv') → W p l e R s m args below meth c H locs cells slots Q (F0 m pc' ls' (st'.map (eV E)))) : W p l e R s m args below meth c H locs cells slots Q (F0 m pc ls (st.map (eV E))) := by
  unfold fLst at hf
  split at hf
  · split at hf
    · rename_i h1
      obtain ⟨h0, h2⟩ := id h1
      subst h0
      cases hf
      exact lv_lstore hx hb hd hl h1.2 (lst2_e E i (.long _) lv).symm (fun ls9 h9 => kk ls9 h9)
    · cases hf
  · cases hf
theorem sF_lstore_n (hx : p.tables.exec = Jvm.exec) (hb : c.code = cc) {k : Fin 4} (hd : decode cc pc = .ok (.lstore_n k, len)) (hf : fLst len pc nL lv st 1 k = some (pc', lv', st')) (hl : lv_has ls nL (eLv E lv)) (kk : ∀ ls' : Array Slot, lv_has ls' nL (eLv E lv') → W p l e R s m args below meth c H locs cells slots Q (F0 m pc' ls' (st'.map (eV E)))) : W p l e R s m args below meth c H locs cells slots Q (F0 m pc ls (st.map (eV E))) := by
  unfold fLst at hf
  split at hf
  · split at hf
    · rename_i h1
      obtain ⟨h0, h2⟩ := id h1
      subst h0
      cases hf
      exact lv_lstore_n hx hb hd rfl hl h1.2 (lst2_e E k (.long _) lv).symm (fun ls9 h9 => kk ls9 h9)
    · cases hf
  · cases hf
theorem sF_astore (hx : p.tables.exec = Jvm.exec) (hb : c.code = cc) {i : Nat} (hd : decode cc pc = .ok (.astore i, len)) (hf : fAst len pc nL lv st 2 i = some (pc', lv', st')) (hl : lv_has ls nL (eLv E lv)) (kk : ∀ ls' : Array Slot, lv_has ls' nL (eLv E lv') → W p l e R s m args below meth c H locs cells slots Q (F0 m pc' ls' (st'.map (eV E)))) : W p l e R s m args below meth c H locs cells slots Q (F0 m pc ls (st.map (eV E))) := by
  unfold fAst at hf
  split at hf
  · split at hf
    · rename_i h1
      obtain ⟨h0, h2⟩ := id h1
      subst h0
      cases hf
      exact lv_astore hx hb hd hl h1.2 (lst1_e E i (.ref _) lv).symm (fun ls9 h9 => kk ls9 h9)
    · cases hf
  · cases hf
theorem sF_astore_n (hx : p.tables.exec = Jvm.exec) (hb : c.code = cc) {k : Fin 4} (hd : decode cc pc = .ok (.astore_n k, len)) (hf : fAst len pc nL lv st 1 k = some (pc', lv', st')) (hl : lv_has ls nL (eLv E lv)) (kk : ∀ ls' : Array Slot, lv_has ls' nL (eLv E lv') → W p l e R s m args below meth c H locs cells slots Q (F0 m pc' ls' (st'.map (eV E)))) : W p l e R s m args below meth c H locs cells slots Q (F0 m pc ls (st.map (eV E))) := by
  unfold fAst at hf
  split at hf
  · split at hf
    · rename_i h1
      obtain ⟨h0, h2⟩ := id h1
      subst h0
      cases hf
      exact lv_astore_n hx hb hd rfl hl h1.2 (lst1_e E k (.ref _) lv).symm (fun ls9 h9 => kk ls9 h9)
    · cases hf
  · cases hf
theorem sF_iinc (hx : p.tables.exec = Jvm.exec) (hb : c.code = cc) {i : Nat} {n : Int} (hd : decode cc pc = .ok (.iinc i n, len)) (hf : fInc len pc nL lv st i n = some (pc', lv', st')) (hl : lv_has ls nL (eLv E lv)) (kk : ∀ ls' : Array Slot, lv_has ls' nL (eLv E lv') → W p l e R s m args below meth c H locs cells slots Q (F0 m pc' ls' (st'.map (eV E)))) : W p l e R s m args below meth c H locs cells slots Q (F0 m pc ls (st.map (eV E))) := by
  unfold fInc at hf
  split at hf
  · rename_i h1
    obtain ⟨h0, h2⟩ := h1
    subst h0
    split at hf
    · rename_i x hg
      cases hf
      have hm : ∃ k : Nat, (eLv E lv : List (Nat × Value))[k]? = some (i, Value.int x) := by
        unfold lget at hg
        cases hf9 : lv.find? (fun q => q.1 == i) with
        | none => rw [hf9] at hg; cases hg
        | some q =>
          rw [hf9] at hg
          have h7 : q.2 = Value.int x := Option.some.inj hg
          have h8 : q.1 = i := by simpa using List.find?_some hf9
          have h5 : (i, Value.int x) ∈ eLv E lv := List.mem_map.mpr ⟨q, List.mem_of_find?_eq_some hf9, by rw [h7, h8]; rfl⟩
          exact List.getElem?_of_mem h5
      obtain ⟨k, hk⟩ := hm
      exact lv_iinc hx hb hd hl hk rfl h2 (lst1_e E i (.int _) lv).symm (fun ls9 h9 => kk ls9 h9)
    · cases hf
  · cases hf
theorem sF_iadd (hx : p.tables.exec = Jvm.exec) (hb : c.code = cc) (hd : decode cc pc = .ok (.iadd, len)) (hf : fB len pc lv st (fun x y => x + y) = some (pc', lv', st')) (hl : lv_has ls nL (eLv E lv)) (kk : ∀ ls' : Array Slot, lv_has ls' nL (eLv E lv') → W p l e R s m args below meth c H locs cells slots Q (F0 m pc' ls' (st'.map (eV E)))) : W p l e R s m args below meth c H locs cells slots Q (F0 m pc ls (st.map (eV E))) := by
  unfold fB at hf
  split at hf
  · split at hf
    · rename_i h1
      subst h1
      cases hf
      exact lv_iadd hx hb hd (kk ls hl)
    · cases hf
  · cases hf
theorem sF_isub (hx : p.tables.exec = Jvm.exec) (hb : c.code = cc) (hd : decode cc pc = .ok (.isub, len)) (hf : fB len pc lv st (fun x y => x - y) = some (pc', lv', st')) (hl : lv_has ls nL (eLv E lv)) (kk : ∀ ls' : Array Slot, lv_has ls' nL (eLv E lv') → W p l e R s m args below meth c H locs cells slots Q (F0 m pc' ls' (st'.map (eV E)))) : W p l e R s m args below meth c H locs cells slots Q (F0 m pc ls (st.map (eV E))) := by
  unfold fB at hf
  split at hf
  · split at hf
    · rename_i h1
      subst h1
      cases hf
      exact lv_isub hx hb hd (kk ls hl)
    · cases hf
  · cases hf
theorem sF_imul (hx : p.tables.exec = Jvm.exec) (hb : c.code = cc) (hd : decode cc pc = .ok (.imul, len)) (hf : fB len pc lv st (fun x y => x * y) = some (pc', lv', st')) (hl : lv_has ls nL (eLv E lv)) (kk : ∀ ls' : Array Slot, lv_has ls' nL (eLv E lv') → W p l e R s m args below meth c H locs cells slots Q (F0 m pc' ls' (st'.map (eV E)))) : W p l e R s m args below meth c H locs cells slots Q (F0 m pc ls (st.map (eV E))) := by
  unfold fB at hf
  split at hf
  · split at hf
    · rename_i h1
      subst h1
      cases hf
      exact lv_imul hx hb hd (kk ls hl)
    · cases hf
  · cases hf
theorem sF_iand (hx : p.tables.exec = Jvm.exec) (hb : c.code = cc) (hd : decode cc pc = .ok (.iand, len)) (hf : fB len pc lv st (fun x y => x &&& y) = some (pc', lv', st')) (hl : lv_has ls nL (eLv E lv)) (kk : ∀ ls' : Array Slot, lv_has ls' nL (eLv E lv') → W p l e R s m args below meth c H locs cells slots Q (F0 m pc' ls' (st'.map (eV E)))) : W p l e R s m args below meth c H locs cells slots Q (F0 m pc ls (st.map (eV E))) := by
  unfold fB at hf
  split at hf
  · split at hf
    · rename_i h1
      subst h1
      cases hf
      exact lv_iand hx hb hd (kk ls hl)
    · cases hf
  · cases hf
theorem sF_ior (hx : p.tables.exec = Jvm.exec) (hb : c.code = cc) (hd : decode cc pc = .ok (.ior, len)) (hf : fB len pc lv st (fun x y => x ||| y) = some (pc', lv', st')) (hl : lv_has ls nL (eLv E lv)) (kk : ∀ ls' : Array Slot, lv_has ls' nL (eLv E lv') → W p l e R s m args below meth c H locs cells slots Q (F0 m pc' ls' (st'.map (eV E)))) : W p l e R s m args below meth c H locs cells slots Q (F0 m pc ls (st.map (eV E))) := by
  unfold fB at hf
  split at hf
  · split at hf
    · rename_i h1
      subst h1
      cases hf
      exact lv_ior hx hb hd (kk ls hl)
    · cases hf
  · cases hf
theorem sF_ixor (hx : p.tables.exec = Jvm.exec) (hb : c.code = cc) (hd : decode cc pc = .ok (.ixor, len)) (hf : fB len pc lv st (fun x y => x ^^^ y) = some (pc', lv', st')) (hl : lv_has ls nL (eLv E lv)) (kk : ∀ ls' : Array Slot, lv_has ls' nL (eLv E lv') → W p l e R s m args below meth c H locs cells slots Q (F0 m pc' ls' (st'.map (eV E)))) : W p l e R s m args below meth c H locs cells slots Q (F0 m pc ls (st.map (eV E))) := by
  unfold fB at hf
  split at hf
  · split at hf
    · rename_i h1
      subst h1
      cases hf
      exact lv_ixor hx hb hd (kk ls hl)
    · cases hf
  · cases hf
theorem sF_ishl (hx : p.tables.exec = Jvm.exec) (hb : c.code = cc) (hd : decode cc pc = .ok (.ishl, len)) (hf : fB len pc lv st (fun x y => x <<< (y &&& 31)) = some (pc', lv', st')) (hl : lv_has ls nL (eLv E lv)) (kk : ∀ ls' : Array Slot, lv_has ls' nL (eLv E lv') → W p l e R s m args below meth c H locs cells slots Q (F0 m pc' ls' (st'.map (eV E)))) : W p l e R s m args below meth c H locs cells slots Q (F0 m pc ls (st.map (eV E))) := by
  unfold fB at hf
  split at hf
  · split at hf
    · rename_i h1
      subst h1
      cases hf
      exact lv_ishl hx hb hd (kk ls hl)
    · cases hf
  · cases hf
theorem sF_ishr (hx : p.tables.exec = Jvm.exec) (hb : c.code = cc) (hd : decode cc pc = .ok (.ishr, len)) (hf : fB len pc lv st (fun x y => x >>> (y &&& 31)) = some (pc', lv', st')) (hl : lv_has ls nL (eLv E lv)) (kk : ∀ ls' : Array Slot, lv_has ls' nL (eLv E lv') → W p l e R s m args below meth c H locs cells slots Q (F0 m pc' ls' (st'.map (eV E)))) : W p l e R s m args below meth c H locs cells slots Q (F0 m pc ls (st.map (eV E))) := by
  unfold fB at hf
  split at hf
  · split at hf
    · rename_i h1
      subst h1
      cases hf
      exact lv_ishr hx hb hd (kk ls hl)
    · cases hf
  · cases hf
theorem sF_iushr (hx : p.tables.exec = Jvm.exec) (hb : c.code = cc) (hd : decode cc pc = .ok (.iushr, len)) (hf : fB len pc lv st (fun x y => (x.toUInt32 >>> (y.toUInt32 &&& Int32.toUInt32 31)).toInt32) = some (pc', lv', st')) (hl : lv_has ls nL (eLv E lv)) (kk : ∀ ls' : Array Slot, lv_has ls' nL (eLv E lv') → W p l e R s m args below meth c H locs cells slots Q (F0 m pc' ls' (st'.map (eV E)))) : W p l e R s m args below meth c H locs cells slots Q (F0 m pc ls (st.map (eV E))) := by
  unfold fB at hf
  split at hf
  · split at hf
    · rename_i h1
      subst h1
      cases hf
      exact lv_iushr hx hb hd rfl (kk ls hl)
    · cases hf
  · cases hf
theorem sF_idiv (hx : p.tables.exec = Jvm.exec) (hb : c.code = cc) (hd : decode cc pc = .ok (.idiv, len)) (hf : fD len pc lv st (fun x y => x / y) = some (pc', lv', st')) (hl : lv_has ls nL (eLv E lv)) (kk : ∀ ls' : Array Slot, lv_has ls' nL (eLv E lv') → W p l e R s m args below meth c H locs cells slots Q (F0 m pc' ls' (st'.map (eV E)))) : W p l e R s m args below meth c H locs cells slots Q (F0 m pc ls (st.map (eV E))) := by
  unfold fD at hf
  split at hf
  · split at hf
    · rename_i h1
      obtain ⟨h0, h2⟩ := h1; subst h0
      cases hf
      exact lv_idiv hx hb hd h2 (kk ls hl)
    · cases hf
  · cases hf
theorem sF_irem (hx : p.tables.exec = Jvm.exec) (hb : c.code = cc) (hd : decode cc pc = .ok (.irem, len)) (hf : fD len pc lv st (fun x y => x - x / y * y) = some (pc', lv', st')) (hl : lv_has ls nL (eLv E lv)) (kk : ∀ ls' : Array Slot, lv_has ls' nL (eLv E lv') → W p l e R s m args below meth c H locs cells slots Q (F0 m pc' ls' (st'.map (eV E)))) : W p l e R s m args below meth c H locs cells slots Q (F0 m pc ls (st.map (eV E))) := by
  unfold fD at hf
  split at hf
  · split at hf
    · rename_i h1
      obtain ⟨h0, h2⟩ := h1; subst h0
      cases hf
      exact lv_irem hx hb hd h2 (kk ls hl)
    · cases hf
  · cases hf
theorem sF_ladd (hx : p.tables.exec = Jvm.exec) (hb : c.code = cc) (hd : decode cc pc = .ok (.ladd, len)) (hf : fBL len pc lv st (fun x y => x + y) = some (pc', lv', st')) (hl : lv_has ls nL (eLv E lv)) (kk : ∀ ls' : Array Slot, lv_has ls' nL (eLv E lv') → W p l e R s m args below meth c H locs cells slots Q (F0 m pc' ls' (st'.map (eV E)))) : W p l e R s m args below meth c H locs cells slots Q (F0 m pc ls (st.map (eV E))) := by
  unfold fBL at hf
  split at hf
  · split at hf
    · rename_i h1
      subst h1
      cases hf
      exact lv_ladd hx hb hd (kk ls hl)
    · cases hf
  · cases hf
theorem sF_lsub (hx : p.tables.exec = Jvm.exec) (hb : c.code = cc) (hd : decode cc pc = .ok (.lsub, len)) (hf : fBL len pc lv st (fun x y => x - y) = some (pc', lv', st')) (hl : lv_has ls nL (eLv E lv)) (kk : ∀ ls' : Array Slot, lv_has ls' nL (eLv E lv') → W p l e R s m args below meth c H locs cells slots Q (F0 m pc' ls' (st'.map (eV E)))) : W p l e R s m args below meth c H locs cells slots Q (F0 m pc ls (st.map (eV E))) := by
  unfold fBL at hf
  split at hf
  · split at hf
    · rename_i h1
      subst h1
      cases hf
      exact lv_lsub hx hb hd (kk ls hl)
    · cases hf
  · cases hf
theorem sF_lmul (hx : p.tables.exec = Jvm.exec) (hb : c.code = cc) (hd : decode cc pc = .ok (.lmul, len)) (hf : fBL len pc lv st (fun x y => x * y) = some (pc', lv', st')) (hl : lv_has ls nL (eLv E lv)) (kk : ∀ ls' : Array Slot, lv_has ls' nL (eLv E lv') → W p l e R s m args below meth c H locs cells slots Q (F0 m pc' ls' (st'.map (eV E)))) : W p l e R s m args below meth c H locs cells slots Q (F0 m pc ls (st.map (eV E))) := by
  unfold fBL at hf
  split at hf
  · split at hf
    · rename_i h1
      subst h1
      cases hf
      exact lv_lmul hx hb hd (kk ls hl)
    · cases hf
  · cases hf
theorem sF_land (hx : p.tables.exec = Jvm.exec) (hb : c.code = cc) (hd : decode cc pc = .ok (.land, len)) (hf : fBL len pc lv st (fun x y => x &&& y) = some (pc', lv', st')) (hl : lv_has ls nL (eLv E lv)) (kk : ∀ ls' : Array Slot, lv_has ls' nL (eLv E lv') → W p l e R s m args below meth c H locs cells slots Q (F0 m pc' ls' (st'.map (eV E)))) : W p l e R s m args below meth c H locs cells slots Q (F0 m pc ls (st.map (eV E))) := by
  unfold fBL at hf
  split at hf
  · split at hf
    · rename_i h1
      subst h1
      cases hf
      exact lv_land hx hb hd (kk ls hl)
    · cases hf
  · cases hf
theorem sF_lor (hx : p.tables.exec = Jvm.exec) (hb : c.code = cc) (hd : decode cc pc = .ok (.lor, len)) (hf : fBL len pc lv st (fun x y => x ||| y) = some (pc', lv', st')) (hl : lv_has ls nL (eLv E lv)) (kk : ∀ ls' : Array Slot, lv_has ls' nL (eLv E lv') → W p l e R s m args below meth c H locs cells slots Q (F0 m pc' ls' (st'.map (eV E)))) : W p l e R s m args below meth c H locs cells slots Q (F0 m pc ls (st.map (eV E))) := by
  unfold fBL at hf
  split at hf
  · split at hf
    · rename_i h1
      subst h1
      cases hf
      exact lv_lor hx hb hd (kk ls hl)
    · cases hf
  · cases hf
theorem sF_ldiv (hx : p.tables.exec = Jvm.exec) (hb : c.code = cc) (hd : decode cc pc = .ok (.ldiv, len)) (hf : fDL len pc lv st (fun x y => x / y) = some (pc', lv', st')) (hl : lv_has ls nL (eLv E lv)) (kk : ∀ ls' : Array Slot, lv_has ls' nL (eLv E lv') → W p l e R s m args below meth c H locs cells slots Q (F0 m pc' ls' (st'.map (eV E)))) : W p l e R s m args below meth c H locs cells slots Q (F0 m pc ls (st.map (eV E))) := by
  unfold fDL at hf
  split at hf
  · split at hf
    · rename_i h1
      obtain ⟨h0, h2⟩ := h1; subst h0
      cases hf
      exact lv_ldiv hx hb hd h2 (kk ls hl)
    · cases hf
  · cases hf
theorem sF_lrem (hx : p.tables.exec = Jvm.exec) (hb : c.code = cc) (hd : decode cc pc = .ok (.lrem, len)) (hf : fDL len pc lv st (fun x y => x - x / y * y) = some (pc', lv', st')) (hl : lv_has ls nL (eLv E lv)) (kk : ∀ ls' : Array Slot, lv_has ls' nL (eLv E lv') → W p l e R s m args below meth c H locs cells slots Q (F0 m pc' ls' (st'.map (eV E)))) : W p l e R s m args below meth c H locs cells slots Q (F0 m pc ls (st.map (eV E))) := by
  unfold fDL at hf
  split at hf
  · split at hf
    · rename_i h1
      obtain ⟨h0, h2⟩ := h1; subst h0
      cases hf
      exact lv_lrem hx hb hd h2 (kk ls hl)
    · cases hf
  · cases hf
theorem sF_lshl (hx : p.tables.exec = Jvm.exec) (hb : c.code = cc) (hd : decode cc pc = .ok (.lshl, len)) (hf : fSL len pc lv st (fun x y => x <<< (y.toInt64 &&& 63)) = some (pc', lv', st')) (hl : lv_has ls nL (eLv E lv)) (kk : ∀ ls' : Array Slot, lv_has ls' nL (eLv E lv') → W p l e R s m args below meth c H locs cells slots Q (F0 m pc' ls' (st'.map (eV E)))) : W p l e R s m args below meth c H locs cells slots Q (F0 m pc ls (st.map (eV E))) := by
  unfold fSL at hf
  split at hf
  · split at hf
    · rename_i h1
      subst h1
      cases hf
      exact lv_lshl hx hb hd rfl (kk ls hl)
    · cases hf
  · cases hf
theorem sF_lshr (hx : p.tables.exec = Jvm.exec) (hb : c.code = cc) (hd : decode cc pc = .ok (.lshr, len)) (hf : fSL len pc lv st (fun x y => x >>> (y.toInt64 &&& 63)) = some (pc', lv', st')) (hl : lv_has ls nL (eLv E lv)) (kk : ∀ ls' : Array Slot, lv_has ls' nL (eLv E lv') → W p l e R s m args below meth c H locs cells slots Q (F0 m pc' ls' (st'.map (eV E)))) : W p l e R s m args below meth c H locs cells slots Q (F0 m pc ls (st.map (eV E))) := by
  unfold fSL at hf
  split at hf
  · split at hf
    · rename_i h1
      subst h1
      cases hf
      exact lv_lshr hx hb hd rfl (kk ls hl)
    · cases hf
  · cases hf
theorem sF_i2l (hx : p.tables.exec = Jvm.exec) (hb : c.code = cc) (hd : decode cc pc = .ok (.i2l, len)) (hf : fIL len pc lv st = some (pc', lv', st')) (hl : lv_has ls nL (eLv E lv)) (kk : ∀ ls' : Array Slot, lv_has ls' nL (eLv E lv') → W p l e R s m args below meth c H locs cells slots Q (F0 m pc' ls' (st'.map (eV E)))) : W p l e R s m args below meth c H locs cells slots Q (F0 m pc ls (st.map (eV E))) := by
  unfold fIL at hf
  split at hf
  · split at hf
    · rename_i h1
      subst h1
      cases hf
      exact lv_i2l hx hb hd rfl (kk ls hl)
    · cases hf
  · cases hf
theorem sF_l2i (hx : p.tables.exec = Jvm.exec) (hb : c.code = cc) (hd : decode cc pc = .ok (.l2i, len)) (hf : fLI len pc lv st = some (pc', lv', st')) (hl : lv_has ls nL (eLv E lv)) (kk : ∀ ls' : Array Slot, lv_has ls' nL (eLv E lv') → W p l e R s m args below meth c H locs cells slots Q (F0 m pc' ls' (st'.map (eV E)))) : W p l e R s m args below meth c H locs cells slots Q (F0 m pc ls (st.map (eV E))) := by
  unfold fLI at hf
  split at hf
  · split at hf
    · rename_i h1
      subst h1
      cases hf
      exact lv_l2i hx hb hd rfl (kk ls hl)
    · cases hf
  · cases hf
theorem sF_i2b (hx : p.tables.exec = Jvm.exec) (hb : c.code = cc) (hd : decode cc pc = .ok (.i2b, len)) (hf : fU len pc lv st (fun x => x.toInt8.toInt32) = some (pc', lv', st')) (hl : lv_has ls nL (eLv E lv)) (kk : ∀ ls' : Array Slot, lv_has ls' nL (eLv E lv') → W p l e R s m args below meth c H locs cells slots Q (F0 m pc' ls' (st'.map (eV E)))) : W p l e R s m args below meth c H locs cells slots Q (F0 m pc ls (st.map (eV E))) := by
  unfold fU at hf
  split at hf
  · split at hf
    · rename_i h1
      subst h1
      cases hf
      exact lv_i2b hx hb hd rfl (kk ls hl)
    · cases hf
  · cases hf
theorem sF_i2s (hx : p.tables.exec = Jvm.exec) (hb : c.code = cc) (hd : decode cc pc = .ok (.i2s, len)) (hf : fU len pc lv st (fun x => x.toInt16.toInt32) = some (pc', lv', st')) (hl : lv_has ls nL (eLv E lv)) (kk : ∀ ls' : Array Slot, lv_has ls' nL (eLv E lv') → W p l e R s m args below meth c H locs cells slots Q (F0 m pc' ls' (st'.map (eV E)))) : W p l e R s m args below meth c H locs cells slots Q (F0 m pc ls (st.map (eV E))) := by
  unfold fU at hf
  split at hf
  · split at hf
    · rename_i h1
      subst h1
      cases hf
      exact lv_i2s hx hb hd rfl (kk ls hl)
    · cases hf
  · cases hf
theorem sF_i2c (hx : p.tables.exec = Jvm.exec) (hb : c.code = cc) (hd : decode cc pc = .ok (.i2c, len)) (hf : fU len pc lv st (fun x => (x.toUInt32 % 65536).toInt32) = some (pc', lv', st')) (hl : lv_has ls nL (eLv E lv)) (kk : ∀ ls' : Array Slot, lv_has ls' nL (eLv E lv') → W p l e R s m args below meth c H locs cells slots Q (F0 m pc' ls' (st'.map (eV E)))) : W p l e R s m args below meth c H locs cells slots Q (F0 m pc ls (st.map (eV E))) := by
  unfold fU at hf
  split at hf
  · split at hf
    · rename_i h1
      subst h1
      cases hf
      exact lv_i2c hx hb hd rfl (kk ls hl)
    · cases hf
  · cases hf
theorem sF_lcmp (hx : p.tables.exec = Jvm.exec) (hb : c.code = cc) (hd : decode cc pc = .ok (.lcmp, len)) (hf : fCmp len pc lv st = some (pc', lv', st')) (hl : lv_has ls nL (eLv E lv)) (kk : ∀ ls' : Array Slot, lv_has ls' nL (eLv E lv') → W p l e R s m args below meth c H locs cells slots Q (F0 m pc' ls' (st'.map (eV E)))) : W p l e R s m args below meth c H locs cells slots Q (F0 m pc ls (st.map (eV E))) := by
  unfold fCmp at hf
  split at hf
  · split at hf
    · rename_i h1
      subst h1
      cases hf
      exact W.lcmp hx hb hd (kk ls hl)
    · cases hf
  · cases hf
theorem sF_dup (hx : p.tables.exec = Jvm.exec) (hb : c.code = cc) (hd : decode cc pc = .ok (.dup, len)) (hf : fDup len pc lv st = some (pc', lv', st')) (hl : lv_has ls nL (eLv E lv)) (kk : ∀ ls' : Array Slot, lv_has ls' nL (eLv E lv') → W p l e R s m args below meth c H locs cells slots Q (F0 m pc' ls' (st'.map (eV E)))) : W p l e R s m args below meth c H locs cells slots Q (F0 m pc ls (st.map (eV E))) := by
  unfold fDup at hf
  split at hf
  · split at hf
    · rename_i h1
      obtain ⟨h0, h2⟩ := h1; subst h0
      cases hf
      exact lv_dup hx hb hd ((eV_cat E _).trans h2) (kk ls hl)
    · cases hf
  · cases hf
theorem sF_pop (hx : p.tables.exec = Jvm.exec) (hb : c.code = cc) (hd : decode cc pc = .ok (.pop, len)) (hf : fPop len pc lv st = some (pc', lv', st')) (hl : lv_has ls nL (eLv E lv)) (kk : ∀ ls' : Array Slot, lv_has ls' nL (eLv E lv') → W p l e R s m args below meth c H locs cells slots Q (F0 m pc' ls' (st'.map (eV E)))) : W p l e R s m args below meth c H locs cells slots Q (F0 m pc ls (st.map (eV E))) := by
  unfold fPop at hf
  split at hf
  · split at hf
    · rename_i h1
      obtain ⟨h0, h2⟩ := h1; subst h0
      cases hf
      exact lv_pop hx hb hd ((eV_cat E _).trans h2) (kk ls hl)
    · cases hf
  · cases hf
theorem sF_dup2 (hx : p.tables.exec = Jvm.exec) (hb : c.code = cc) (hd : decode cc pc = .ok (.dup2, len)) (hf : fDup2 len pc lv st = some (pc', lv', st')) (hl : lv_has ls nL (eLv E lv)) (kk : ∀ ls' : Array Slot, lv_has ls' nL (eLv E lv') → W p l e R s m args below meth c H locs cells slots Q (F0 m pc' ls' (st'.map (eV E)))) : W p l e R s m args below meth c H locs cells slots Q (F0 m pc ls (st.map (eV E))) := by
  unfold fDup2 at hf
  split at hf
  · split at hf
    · rename_i h1
      obtain ⟨h0, h2⟩ := h1; subst h0
      cases hf
      exact lv_dup2_2 hx hb hd ((eV_cat E _).trans h2) (kk ls hl)
    · split at hf
      · split at hf
        · rename_i h1
          obtain ⟨h0, h2, h3⟩ := h1; subst h0
          cases hf
          exact lv_dup2_11 hx hb hd ((eV_cat E _).trans h2) ((eV_cat E _).trans h3) (kk ls hl)
        · cases hf
      · cases hf
  · cases hf
theorem sF_if (hx : p.tables.exec = Jvm.exec) (hb : c.code = cc) {cd : ClassFile.Cond} {off : Int} (hd : decode cc pc = .ok (.ifCond cd off, len)) (hf : fIf len pc lv st cd off = some (pc', lv', st')) (hl : lv_has ls nL (eLv E lv)) (kk : ∀ ls' : Array Slot, lv_has ls' nL (eLv E lv') → W p l e R s m args below meth c H locs cells slots Q (F0 m pc' ls' (st'.map (eV E)))) : W p l e R s m args below meth c H locs cells slots Q (F0 m pc ls (st.map (eV E))) := by
  unfold fIf at hf
  split at hf
  · split at hf
    · rename_i h0
      subst h0
      split at hf
      · rename_i t ht
        cases hf
        have ht := jT_eq ht
        cases cd
        · exact lv_if_eq hx hb hd ht (fun h => by have k9 := kk ls hl; rw [cH_t (c := .eq) (decide_eq_true h)] at k9; exact k9) (fun h => by have k9 := kk ls hl; rw [cH_f (c := .eq) (decide_eq_false h)] at k9; exact k9)
        · exact lv_if_ne hx hb hd ht (fun h => by have k9 := kk ls hl; rw [cH_t (c := .ne) (decide_eq_true h)] at k9; exact k9) (fun h => by have k9 := kk ls hl; rw [cH_f (c := .ne) (decide_eq_false (fun w => w h))] at k9; exact k9)
        · exact lv_if_lt hx hb hd ht (fun h => by have k9 := kk ls hl; rw [cH_t (c := .lt) (decide_eq_true h)] at k9; exact k9) (fun h => by have k9 := kk ls hl; rw [cH_f (c := .lt) (decide_eq_false h)] at k9; exact k9)
        · exact lv_if_ge hx hb hd ht (fun h => by have k9 := kk ls hl; rw [cH_t (c := .ge) (decide_eq_true h)] at k9; exact k9) (fun h => by have k9 := kk ls hl; rw [cH_f (c := .ge) (decide_eq_false h)] at k9; exact k9)
        · exact lv_if_gt hx hb hd ht (fun h => by have k9 := kk ls hl; rw [cH_t (c := .gt) (decide_eq_true h)] at k9; exact k9) (fun h => by have k9 := kk ls hl; rw [cH_f (c := .gt) (decide_eq_false h)] at k9; exact k9)
        · exact lv_if_le hx hb hd ht (fun h => by have k9 := kk ls hl; rw [cH_t (c := .le) (decide_eq_true h)] at k9; exact k9) (fun h => by have k9 := kk ls hl; rw [cH_f (c := .le) (decide_eq_false h)] at k9; exact k9)
      · cases hf
    · cases hf
  · cases hf
theorem sF_icmp (hx : p.tables.exec = Jvm.exec) (hb : c.code = cc) {cd : ClassFile.Cond} {off : Int} (hd : decode cc pc = .ok (.if_icmp cd off, len)) (hf : fIc len pc lv st cd off = some (pc', lv', st')) (hl : lv_has ls nL (eLv E lv)) (kk : ∀ ls' : Array Slot, lv_has ls' nL (eLv E lv') → W p l e R s m args below meth c H locs cells slots Q (F0 m pc' ls' (st'.map (eV E)))) : W p l e R s m args below meth c H locs cells slots Q (F0 m pc ls (st.map (eV E))) := by
  unfold fIc at hf
  split at hf
  · split at hf
    · rename_i h0
      subst h0
      split at hf
      · rename_i t ht
        cases hf
        have ht := jT_eq ht
        cases cd
        · exact lv_icmp_eq hx hb hd ht (fun h => by have k9 := kk ls hl; rw [cH_t (c := .eq) (decide_eq_true h)] at k9; exact k9) (fun h => by have k9 := kk ls hl; rw [cH_f (c := .eq) (decide_eq_false h)] at k9; exact k9)
        · exact lv_icmp_ne hx hb hd ht (fun h => by have k9 := kk ls hl; rw [cH_t (c := .ne) (decide_eq_true h)] at k9; exact k9) (fun h => by have k9 := kk ls hl; rw [cH_f (c := .ne) (decide_eq_false (fun w => w h))] at k9; exact k9)
        · exact lv_icmp_lt hx hb hd ht (fun h => by have k9 := kk ls hl; rw [cH_t (c := .lt) (decide_eq_true h)] at k9; exact k9) (fun h => by have k9 := kk ls hl; rw [cH_f (c := .lt) (decide_eq_false h)] at k9; exact k9)
        · exact lv_icmp_ge hx hb hd ht (fun h => by have k9 := kk ls hl; rw [cH_t (c := .ge) (decide_eq_true h)] at k9; exact k9) (fun h => by have k9 := kk ls hl; rw [cH_f (c := .ge) (decide_eq_false h)] at k9; exact k9)
        · exact lv_icmp_gt hx hb hd ht (fun h => by have k9 := kk ls hl; rw [cH_t (c := .gt) (decide_eq_true h)] at k9; exact k9) (fun h => by have k9 := kk ls hl; rw [cH_f (c := .gt) (decide_eq_false h)] at k9; exact k9)
        · exact lv_icmp_le hx hb hd ht (fun h => by have k9 := kk ls hl; rw [cH_t (c := .le) (decide_eq_true h)] at k9; exact k9) (fun h => by have k9 := kk ls hl; rw [cH_f (c := .le) (decide_eq_false h)] at k9; exact k9)
      · cases hf
    · cases hf
  · cases hf
theorem sF_goto (hx : p.tables.exec = Jvm.exec) (hb : c.code = cc) {off : Int} (hd : decode cc pc = .ok (.goto off, len)) (hf : fGo len pc lv st off = some (pc', lv', st')) (hl : lv_has ls nL (eLv E lv)) (kk : ∀ ls' : Array Slot, lv_has ls' nL (eLv E lv') → W p l e R s m args below meth c H locs cells slots Q (F0 m pc' ls' (st'.map (eV E)))) : W p l e R s m args below meth c H locs cells slots Q (F0 m pc ls (st.map (eV E))) := by
  unfold fGo at hf
  split at hf
  · rename_i h0
    subst h0
    split at hf
    · rename_i t ht
      cases hf
      exact lv_goto hx hb hd (jT_eq ht) (kk ls hl)
    · cases hf
  · cases hf
theorem sF_table (hx : p.tables.exec = Jvm.exec) (hb : c.code = cc) {df lo hi : Int} {offs : Array Int} (hd : decode cc pc = .ok (.tableswitch df lo hi offs, len)) (hf : fTab pc lv st df lo hi offs = some (pc', lv', st')) (hl : lv_has ls nL (eLv E lv)) (kk : ∀ ls' : Array Slot, lv_has ls' nL (eLv E lv') → W p l e R s m args below meth c H locs cells slots Q (F0 m pc' ls' (st'.map (eV E)))) : W p l e R s m args below meth c H locs cells slots Q (F0 m pc ls (st.map (eV E))) := by
  unfold fTab at hf
  split at hf
  · split at hf
    · rename_i h0
      split at hf
      · rename_i t ht
        cases hf
        exact lv_tableOut hx hb hd h0 (jT_eq ht) (kk ls hl)
      · cases hf
    · rename_i h0
      split at hf
      · rename_i off ho
        split at hf
        · rename_i t ht
          cases hf
          exact lv_tableIn hx hb hd (fun z => h0 (Or.inl z)) (fun z => h0 (Or.inr z)) ho (jT_eq ht) (kk ls hl)
        · cases hf
      · cases hf
  · cases hf
set_option maxHeartbeats 4000000 in
theorem sF (hx : p.tables.exec = Jvm.exec) (hb : c.code = cc) {ins : ClassFile.Instr} (hd : decode cc pc = .ok (ins, len)) (hf : fF ins len pc nL lv st = some (pc', lv', st')) (hl : lv_has ls nL (eLv E lv)) (kk : ∀ ls' : Array Slot, lv_has ls' nL (eLv E lv') → W p l e R s m args below meth c H locs cells slots Q (F0 m pc' ls' (st'.map (eV E)))) : W p l e R s m args below meth c H locs cells slots Q (F0 m pc ls (st.map (eV E))) := by
  unfold fF at hf
  split at hf
  · exact sF_iconst hx hb hd hf hl kk
  · exact sF_bipush hx hb hd hf hl kk
  · exact sF_sipush hx hb hd hf hl kk
  · exact sF_lconst hx hb hd hf hl kk
  · exact sF_iload hx hb hd hf hl kk
  · exact sF_iload_n hx hb hd hf hl kk
  · exact sF_lload hx hb hd hf hl kk
  · exact sF_lload_n hx hb hd hf hl kk
  · exact sF_aload hx hb hd hf hl kk
  · exact sF_aload_n hx hb hd hf hl kk
  · exact sF_istore hx hb hd hf hl kk
  · exact sF_istore_n hx hb hd hf hl kk
  · exact sF_lstore hx hb hd hf hl kk
  · exact sF_lstore_n hx hb hd hf hl kk
  · exact sF_astore hx hb hd hf hl kk
  · exact sF_astore_n hx hb hd hf hl kk
  · exact sF_iinc hx hb hd hf hl kk
  · exact sF_iadd hx hb hd hf hl kk
  · exact sF_isub hx hb hd hf hl kk
  · exact sF_imul hx hb hd hf hl kk
  · exact sF_iand hx hb hd hf hl kk
  · exact sF_ior hx hb hd hf hl kk
  · exact sF_ixor hx hb hd hf hl kk
  · exact sF_ishl hx hb hd hf hl kk
  · exact sF_ishr hx hb hd hf hl kk
  · exact sF_iushr hx hb hd hf hl kk
  · exact sF_idiv hx hb hd hf hl kk
  · exact sF_irem hx hb hd hf hl kk
  · exact sF_ladd hx hb hd hf hl kk
  · exact sF_lsub hx hb hd hf hl kk
  · exact sF_lmul hx hb hd hf hl kk
  · exact sF_land hx hb hd hf hl kk
  · exact sF_lor hx hb hd hf hl kk
  · exact sF_ldiv hx hb hd hf hl kk
  · exact sF_lrem hx hb hd hf hl kk
  · exact sF_lshl hx hb hd hf hl kk
  · exact sF_lshr hx hb hd hf hl kk
  · exact sF_i2l hx hb hd hf hl kk
  · exact sF_l2i hx hb hd hf hl kk
  · exact sF_i2b hx hb hd hf hl kk
  · exact sF_i2s hx hb hd hf hl kk
  · exact sF_i2c hx hb hd hf hl kk
  · exact sF_lcmp hx hb hd hf hl kk
  · exact sF_dup hx hb hd hf hl kk
  · exact sF_dup2 hx hb hd hf hl kk
  · exact sF_pop hx hb hd hf hl kk
  · exact sF_if hx hb hd hf hl kk
  · exact sF_icmp hx hb hd hf hl kk
  · exact sF_goto hx hb hd hf hl kk
  · exact sF_table hx hb hd hf hl kk
  · cases hf
end SF
