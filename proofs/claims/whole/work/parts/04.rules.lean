/-! ===== what a walk stands on ===== -/
def zL (ρ : Nat → Nat) (L : List (Option Value)) : List (Nat × Value) := (List.range L.length).filterMap (fun j => match L[j]? with
  | some (some v) => some (j, zv ρ v)
  | _ => none)
theorem zL_mem {ρ : Nat → Nat} {L : List (Option Value)} {q : Nat × Value} : q ∈ zL ρ L ↔ ∃ v, L[q.1]? = some (some v) ∧ q.2 = zv ρ v := by
  unfold zL
  rw [List.mem_filterMap]
  constructor
  · rintro ⟨j, hj, h⟩
    split at h
    · rename_i v hv
      cases h
      exact ⟨v, hv, rfl⟩
    · cases h
  · rintro ⟨v, hv, h⟩
    have hlt : q.1 < L.length := (List.getElem?_eq_some_iff.mp hv).1
    refine ⟨q.1, List.mem_range.mpr hlt, ?_⟩
    rw [hv]
    obtain ⟨a, b⟩ := q
    cases h
    rfl
theorem lv_mono {ls : Array Slot} {n : Nat} {l l' : List (Nat × Value)} (h : lv_has ls n l) (hs : ∀ q ∈ l', q ∈ l) : lv_has ls n l' := ⟨h.1, h.2.1, fun q hq => h.2.2 q (hs q hq)⟩
/-- the tables of the class's constants -/
def zxs (a j : Nat) : Int32 := match a with
  | 1001 => ([20, 10, 1, 2, 1, 0, 1, 0, 0] : List Int32).getD j 0
  | 1002 => ([200, 100, 100, 64, 127, 9, 30, 50, 200] : List Int32).getD j 0
  | _ => ([40, 20, 80, 10, 24, 1, 6, 2, 30] : List Int32).getD j 0
/-- the script, and the tables of constants: cells that no walk changes -/
def zX (E : Nat × (Nat → Int32)) (ρ : Nat → Nat) (A : Nat → Prop) (U : State) : Prop :=
  (va_X (ρ 1000) E.1 E.2 U U.heap ∧ ρ 1000 < U.heap.size ∧ ¬ A (ρ 1000)) ∧
  (va_Z "FeltGlass" "LEAST_SETTING" "[I" (.ref (ρ 1001)) A U U.heap ∧ va_T .int (ρ 1001) 9 (fun j => .int (zxs 1001 j)) A U U.heap) ∧
  (va_Z "FeltGlass" "MOST_SETTING" "[I" (.ref (ρ 1002)) A U U.heap ∧ va_T .int (ρ 1002) 9 (fun j => .int (zxs 1002 j)) A U U.heap) ∧
  (va_Z "FeltGlass" "FIRST_SETTING" "[I" (.ref (ρ 1003)) A U U.heap ∧ va_T .int (ρ 1003) 9 (fun j => .int (zxs 1003 j)) A U U.heap)
theorem zX.ext {E : Nat × (Nat → Int32)} {ρ ρ' : Nat → Nat} {A : Nat → Prop} {U : State} (h : zX E ρ A U) (hr : ∀ i, 1000 ≤ i → ρ' i = ρ i) : zX E ρ' A U := by
  unfold zX at h ⊢
  rw [hr 1000 (by omega), hr 1001 (by omega), hr 1002 (by omega), hr 1003 (by omega)]
  exact h
theorem zX.call {E : Nat × (Nat → Int32)} {ρ : Nat → Nat} {A B : Nat → Prop} {s U : State} {H : Heap} {locs : List Loc} (h : zX E ρ A s) (hvm : s.vm.Alike U.vm) (hS : va_S A s.heap H locs) (hU : U.heap = H) (hB : ∀ q, B q → A q) : zX E ρ B U := by
  obtain ⟨⟨x1, x2, x3⟩, ⟨a1, a2⟩, ⟨b1, b2⟩, c1, c2⟩ := h
  have hk : ∀ a : Nat, a < s.heap.size → ¬ A a → U.heap[a]? = s.heap[a]? := fun a h1 h2 => by rw [hU]; exact hS.2.1 a h1 h2
  have tz : ∀ {n : String} {v : Value}, va_Z "FeltGlass" n "[I" v A s s.heap → va_Z "FeltGlass" n "[I" v B U U.heap := fun z => ((z.moved hvm).kept hk).narrow hB
  have tt : ∀ {t : Nat} {f : Nat → Value}, va_T .int t 9 f A s s.heap → va_T .int t 9 f B U U.heap := fun z => ((z.moved hvm).kept hk).narrow hB
  exact ⟨⟨(x1.moved hvm).kept (hk _ x2 x3), by rw [hU]; exact Nat.lt_of_lt_of_le x2 hS.1, fun q => x3 (hB _ q)⟩, ⟨tz a1, tt a2⟩, ⟨tz b1, tt b2⟩, tz c1, tt c2⟩
def va_AOA (ty : FieldType) (U : State) : Prop := (Cond.arrayOver (.array ty)).before #[] U = true
theorem va_AOA.use {ty : FieldType} {A : Array Value} {U : State} (h : va_AOA ty U) : (Cond.arrayOver (.array ty)).before A U = true := h
theorem va_AOA.moved {ty : FieldType} {u U : State} (hvm : u.vm.Alike U.vm) (h : va_AOA ty u) : va_AOA ty U := Jvm.Stand.arrayOver_alikeB hvm h
def zNm : List (String × Nat × MethodName × String) := [("FeltGlass", 9, yX5_init, "FeltGlass"), ("FeltGlass$Page", 17, yX2_init, "FeltGlass"), ("FeltGlass", 18, yX4_init, "FeltGlass"), ("FeltGlass$Panel", 11, yX1_init, "FeltGlass"), ("FeltGlass$Panel", 20, yX2_init, "FeltGlass"), ("FeltGlass$Panel", 27, yX0_init, "FeltGlass"), ("FeltGlass$Panel", 38, yX6_init, "FeltGlass"), ("FeltGlass$Page", 59, yX11_within, "FeltGlass"), ("FeltGlass$Panel", 118, yX11_within, "FeltGlass"), ("FeltGlass$Journal", 28, yX11_within, "FeltGlass")]
/-- the words that nest mates need -/
def zNw (U : State) : Prop := (∀ q ∈ zNm, va_Nw (.methodLinkNest q.1 q.2.1 q.2.2.1 q.2.2.2) U) ∧ va_Nw (.fieldLinkNest "FeltGlass$Panel" 89 "FeltGlass" "FIRST_SETTING" "[I" "FeltGlass") U ∧ va_AOA .int U
theorem zNw.warm {s U : State} (hW : s.WarmedH U.vm) (h : zNw s) : zNw U := ⟨fun q hq => va_Nw.warmM hW (h.1 q hq), va_Nw.warmF hW h.2.1, h.2.2.moved hW.alike⟩
/-- the array of rows' class is one of arrays of ints -/
def zQ (κ : Nat → ClassId) (U : State) : Prop := ∃ kA : Class, U.vm.classes[κ 2]? = some kA ∧ kA.kind = .array (κ 0) (.array .int)
theorem zQ.moved {κ : Nat → ClassId} {u U : State} (hvm : u.vm.Alike U.vm) (h : zQ κ u) : zQ κ U := by
  obtain ⟨kA, h1, h2⟩ := h
  obtain ⟨k', hk', he⟩ := hvm.2.2 _ _ h1
  exact ⟨k', hk', by rw [he]; exact h2⟩
def zC (E : Nat × (Nat → Int32)) (p : Program) (R : Room) (s : State) (mid : MethodId) (args : Array Value) (meth : Method) (c : Code) (y : zY) (D : va_G) (κ : Nat → ClassId) (A : Nat → Prop) (ρ : Nat → Nat) : Prop :=
  p.tables.exec = Jvm.exec ∧ c.code = y.2.1 ∧ c.maxLocals = y.2.2.1 ∧ s.vm.findClass y.1.cls = some mid.cls ∧ (∀ w ∈ zALL, w.before args s = true) ∧ va_K D vwCl (zt κ) s ∧ zQ κ s ∧ (∀ q, s.heap.size ≤ q → A q) ∧ zNw s ∧ zX E ρ A s ∧ y.2.2.2.2.1 ≤ R.frames ∧ y.2.2.2.2.2 ≤ R.locals ∧ (y.1.name = "<init>" → meth.name = "<init>")
def zsm (ρ ρ' : Nat → Nat) (sh sh' : List zS) : Prop := (∀ i, i < sh.length ∨ 1000 ≤ i → ρ' i = ρ i) ∧ (sh'.length = sh.length → ρ' = ρ)
def zret (cc : ByteArray) (pc : Nat) (rv : Option Value) : Prop := match rv with
  | none => decode cc pc = .ok (.return_, 1)
  | some (.int _) => decode cc pc = .ok (.ireturn, 1)
  | some (.long _) => decode cc pc = .ok (.lreturn, 1)
  | _ => False
/-- from this point of the method the walk comes to its return, with that answer and those cells -/
def Rn (E : Nat × (Nat → Int32)) (y : zY) (pc : Nat) (L : List (Option Value)) (st : List Value) (sh : List zS) (m : zM) (rv : Option Value) (sh' : List zS) (m' : zM) : Prop :=
  sh.length ≤ sh'.length ∧ zsz sh ≤ zsz sh' ∧
  ∀ (p : Program) (l : Launch) (e : Env) (R : Room) (s : State) (mid : MethodId) (args : Array Value) (below : List Frame) (meth : Method) (c : Code) (D : va_G) (κ : Nat → ClassId) (A : Nat → Prop) (ρ : Nat → Nat) (H : Heap) (locs : List Loc) (cells slots : Nat) (ls : Array Slot) (Q : State → Prop),
   zC E p R s mid args meth c y D κ A ρ → lv_has ls y.2.2.1 (zL ρ L) → va_P D vwCl (zw ρ κ m sh) H → va_D A (zw ρ κ m sh) → va_S A s.heap H locs → cells + sh'.length ≤ R.cells + sh.length → slots + zsz sh' ≤ R.slots + zsz sh →
   (∀ (ρ' : Nat → Nat) (H' : Heap) (locs' : List Loc) (ls' : Array Slot) (pc' cells' slots' : Nat), zsm ρ ρ' sh sh' → zret y.2.1 pc' rv → va_P D vwCl (zw ρ' κ m' sh') H' → va_D A (zw ρ' κ m' sh') → va_S A s.heap H' locs' → cells' + sh.length = cells + sh'.length → slots' + zsz sh = slots + zsz sh' → W p l e R s mid args below meth c H' locs' cells' slots' Q (F0 mid pc' ls' rv.toList)) →
   W p l e R s mid args below meth c H locs cells slots Q (F0 mid pc ls (st.map (zv ρ)))
section ZRULES
variable {E : Nat × (Nat → Int32)} {y : zY} {pc q : Nat} {L L' : List (Option Value)} {st : List Value} {sh sh' : List zS} {m m' m1 : zM} {rv : Option Value}
/-- a step that changes neither cells nor locals -/
theorem Rn.go {st' : List Value} (h : ∀ (p : Program) (l : Launch) (e : Env) (R : Room) (s : State) (mid : MethodId) (args : Array Value) (below : List Frame) (meth : Method) (c : Code) (D : va_G) (κ : Nat → ClassId) (A : Nat → Prop) (ρ : Nat → Nat) (H : Heap) (locs : List Loc) (cells slots : Nat) (ls : Array Slot) (Q : State → Prop),
   zC E p R s mid args meth c y D κ A ρ → lv_has ls y.2.2.1 (zL ρ L) → va_P D vwCl (zw ρ κ m sh) H → va_S A s.heap H locs → W p l e R s mid args below meth c H locs cells slots Q (F0 mid q ls (st'.map (zv ρ))) → W p l e R s mid args below meth c H locs cells slots Q (F0 mid pc ls (st.map (zv ρ))))
   (k : Rn E y q L st' sh m rv sh' m') : Rn E y pc L st sh m rv sh' m' :=
  ⟨k.1, k.2.1, fun p l e R s mid args below meth c D κ A ρ H locs cells slots ls Q C hl hP hD hS hc hs kk => h p l e R s mid args below meth c D κ A ρ H locs cells slots ls Q C hl hP hS (k.2.2 p l e R s mid args below meth c D κ A ρ H locs cells slots ls Q C hl hP hD hS hc hs kk)⟩
/-- a branch -/
theorem Rn.br {c0 : Prop} {q1 q2 : Nat} {st' : List Value} (h : ∀ (p : Program) (l : Launch) (e : Env) (R : Room) (s : State) (mid : MethodId) (args : Array Value) (below : List Frame) (meth : Method) (c : Code) (D : va_G) (κ : Nat → ClassId) (A : Nat → Prop) (ρ : Nat → Nat) (H : Heap) (locs : List Loc) (cells slots : Nat) (ls : Array Slot) (Q : State → Prop),
   zC E p R s mid args meth c y D κ A ρ → (c0 → W p l e R s mid args below meth c H locs cells slots Q (F0 mid q1 ls (st'.map (zv ρ)))) → (¬ c0 → W p l e R s mid args below meth c H locs cells slots Q (F0 mid q2 ls (st'.map (zv ρ)))) → W p l e R s mid args below meth c H locs cells slots Q (F0 mid pc ls (st.map (zv ρ))))
   (kt : c0 → Rn E y q1 L st' sh m rv sh' m') (kf : ¬ c0 → Rn E y q2 L st' sh m rv sh' m') : Rn E y pc L st sh m rv sh' m' := by
  have hd : c0 ∨ ¬ c0 := Classical.em c0
  have h1 : sh.length ≤ sh'.length := hd.elim (fun a => (kt a).1) (fun a => (kf a).1)
  have h2 : zsz sh ≤ zsz sh' := hd.elim (fun a => (kt a).2.1) (fun a => (kf a).2.1)
  exact ⟨h1, h2, fun p l e R s mid args below meth c D κ A ρ H locs cells slots ls Q C hl hP hD hS hc hs kk => h p l e R s mid args below meth c D κ A ρ H locs cells slots ls Q C
    (fun a => (kt a).2.2 p l e R s mid args below meth c D κ A ρ H locs cells slots ls Q C hl hP hD hS hc hs kk) (fun a => (kf a).2.2 p l e R s mid args below meth c D κ A ρ H locs cells slots ls Q C hl hP hD hS hc hs kk)⟩
/-- a step that changes a local -/
theorem Rn.loc {st' : List Value} (h : ∀ (p : Program) (l : Launch) (e : Env) (R : Room) (s : State) (mid : MethodId) (args : Array Value) (below : List Frame) (meth : Method) (c : Code) (D : va_G) (κ : Nat → ClassId) (A : Nat → Prop) (ρ : Nat → Nat) (H : Heap) (locs : List Loc) (cells slots : Nat) (ls : Array Slot) (Q : State → Prop),
   zC E p R s mid args meth c y D κ A ρ → lv_has ls y.2.2.1 (zL ρ L) → (∀ ls' : Array Slot, lv_has ls' y.2.2.1 (zL ρ L') → W p l e R s mid args below meth c H locs cells slots Q (F0 mid q ls' (st'.map (zv ρ)))) → W p l e R s mid args below meth c H locs cells slots Q (F0 mid pc ls (st.map (zv ρ))))
   (k : Rn E y q L' st' sh m rv sh' m') : Rn E y pc L st sh m rv sh' m' :=
  ⟨k.1, k.2.1, fun p l e R s mid args below meth c D κ A ρ H locs cells slots ls Q C hl hP hD hS hc hs kk => h p l e R s mid args below meth c D κ A ρ H locs cells slots ls Q C hl (fun ls' hl' => k.2.2 p l e R s mid args below meth c D κ A ρ H locs cells slots ls' Q C hl' hP hD hS hc hs kk)⟩
/-- a step that changes cells, not their forms -/
theorem Rn.mw {st' : List Value} (h : ∀ (p : Program) (l : Launch) (e : Env) (R : Room) (s : State) (mid : MethodId) (args : Array Value) (below : List Frame) (meth : Method) (c : Code) (D : va_G) (κ : Nat → ClassId) (A : Nat → Prop) (ρ : Nat → Nat) (H : Heap) (locs : List Loc) (cells slots : Nat) (ls : Array Slot) (Q : State → Prop),
   zC E p R s mid args meth c y D κ A ρ → lv_has ls y.2.2.1 (zL ρ L) → va_P D vwCl (zw ρ κ m sh) H → va_D A (zw ρ κ m sh) → va_S A s.heap H locs → (∀ (H1 : Heap) (locs1 : List Loc), va_P D vwCl (zw ρ κ m1 sh) H1 → va_D A (zw ρ κ m1 sh) → va_S A s.heap H1 locs1 → W p l e R s mid args below meth c H1 locs1 cells slots Q (F0 mid q ls (st'.map (zv ρ)))) → W p l e R s mid args below meth c H locs cells slots Q (F0 mid pc ls (st.map (zv ρ))))
   (k : Rn E y q L st' sh m1 rv sh' m') : Rn E y pc L st sh m rv sh' m' :=
  ⟨k.1, k.2.1, fun p l e R s mid args below meth c D κ A ρ H locs cells slots ls Q C hl hP hD hS hc hs kk => h p l e R s mid args below meth c D κ A ρ H locs cells slots ls Q C hl hP hD hS (fun H1 locs1 hP1 hD1 hS1 => k.2.2 p l e R s mid args below meth c D κ A ρ H1 locs1 cells slots ls Q C hl hP1 hD1 hS1 hc hs kk)⟩
/-- fewer locals -/
theorem Rn.weak (h : ∀ (i : Nat) (v : Value), L'[i]? = some (some v) → L[i]? = some (some v)) (k : Rn E y pc L' st sh m rv sh' m') : Rn E y pc L st sh m rv sh' m' :=
  ⟨k.1, k.2.1, fun p l e R s mid args below meth c D κ A ρ H locs cells slots ls Q C hl hP hD hS hc hs kk => k.2.2 p l e R s mid args below meth c D κ A ρ H locs cells slots ls Q C (lv_mono hl (fun q hq => by
    obtain ⟨v, h1, h2⟩ := zL_mem.mp hq
    exact zL_mem.mpr ⟨v, h _ _ h1, h2⟩)) hP hD hS hc hs kk⟩
theorem zLv {ρ : Nat → Nat} {ls : Array Slot} {n i : Nat} {v : Value} (hl : lv_has ls n (zL ρ L)) (h : L[i]? = some (some v)) : ls[i]? = some (.val (zv ρ v)) := hl.2.2 (i, zv ρ v) (zL_mem.mpr ⟨v, h, rfl⟩)
/-! constants, loads -/
theorem zi_iconst {n : Int} {v : Int32} (hd : decode y.2.1 pc = .ok (.iconst n, 1)) (hv : Int32.ofInt n = v) (hq : pc + 1 = q) (k : Rn E y q L (.int v :: st) sh m rv sh' m') : Rn E y pc L st sh m rv sh' m' := by
  subst hq
  exact Rn.go (fun p l e R s mid args below meth c D κ A ρ H locs cells slots ls Q C hl hP hS k => lv_iconst C.1 C.2.1 hd hv k) k
theorem zi_bipush {n : Int} {v : Int32} (hd : decode y.2.1 pc = .ok (.bipush n, 2)) (hv : (Int8.ofInt n).toInt32 = v) (hq : pc + 2 = q) (k : Rn E y q L (.int v :: st) sh m rv sh' m') : Rn E y pc L st sh m rv sh' m' := by
  subst hq
  exact Rn.go (fun p l e R s mid args below meth c D κ A ρ H locs cells slots ls Q C hl hP hS k => lv_bipush C.1 C.2.1 hd hv k) k
theorem zi_sipush {n : Int} {v : Int32} (hd : decode y.2.1 pc = .ok (.sipush n, 3)) (hv : (Int16.ofInt n).toInt32 = v) (hq : pc + 3 = q) (k : Rn E y q L (.int v :: st) sh m rv sh' m') : Rn E y pc L st sh m rv sh' m' := by
  subst hq
  exact Rn.go (fun p l e R s mid args below meth c D κ A ρ H locs cells slots ls Q C hl hP hS k => lv_sipush C.1 C.2.1 hd hv k) k
theorem zi_ldc {i : Nat} {v : Int32} (hd : decode y.2.1 pc = .ok (.ldc i, 2)) (hw : Cond.constant y.1.cls i v ∈ zALL) (hq : pc + 2 = q) (k : Rn E y q L (.int v :: st) sh m rv sh' m') : Rn E y pc L st sh m rv sh' m' := by
  subst hq
  exact Rn.go (fun p l e R s mid args below meth c D κ A ρ H locs cells slots ls Q C hl hP hS k => lv_ldc C.1 C.2.1 C.2.2.2.1 (C.2.2.2.2.1 _ hw) hd k) k
theorem zi_ldcw {i : Nat} {v : Int32} (hd : decode y.2.1 pc = .ok (.ldc_w i, 3)) (hw : Cond.constant y.1.cls i v ∈ zALL) (hq : pc + 3 = q) (k : Rn E y q L (.int v :: st) sh m rv sh' m') : Rn E y pc L st sh m rv sh' m' := by
  subst hq
  exact Rn.go (fun p l e R s mid args below meth c D κ A ρ H locs cells slots ls Q C hl hP hS k => lv_ldcw C.1 C.2.1 C.2.2.2.1 (C.2.2.2.2.1 _ hw) hd k) k
theorem zi_ldc2 {i : Nat} {v : Int64} (hd : decode y.2.1 pc = .ok (.ldc2_w i, 3)) (hw : Cond.constantLong y.1.cls i v ∈ zALL) (hq : pc + 3 = q) (k : Rn E y q L (.long v :: st) sh m rv sh' m') : Rn E y pc L st sh m rv sh' m' := by
  subst hq
  exact Rn.go (fun p l e R s mid args below meth c D κ A ρ H locs cells slots ls Q C hl hP hS k => lv_ldc2 C.1 C.2.1 C.2.2.2.1 (C.2.2.2.2.1 _ hw) hd k) k
theorem zi_iloadn {f : Fin 4} {x : Int32} (hd : decode y.2.1 pc = .ok (.iload_n f, 1)) (hL : L[(f : Nat)]? = some (some (.int x))) (hq : pc + 1 = q) (k : Rn E y q L (.int x :: st) sh m rv sh' m') : Rn E y pc L st sh m rv sh' m' := by
  subst hq
  exact Rn.go (fun p l e R s mid args below meth c D κ A ρ H locs cells slots ls Q C hl hP hS k => lv_iload_n C.1 C.2.1 hd rfl (zLv hl hL) k) k
theorem zi_iload {i : Nat} {x : Int32} (hd : decode y.2.1 pc = .ok (.iload i, 2)) (hL : L[i]? = some (some (.int x))) (hq : pc + 2 = q) (k : Rn E y q L (.int x :: st) sh m rv sh' m') : Rn E y pc L st sh m rv sh' m' := by
  subst hq
  exact Rn.go (fun p l e R s mid args below meth c D κ A ρ H locs cells slots ls Q C hl hP hS k => lv_iload C.1 C.2.1 hd (zLv hl hL) k) k
theorem zi_lloadn {f : Fin 4} {x : Int64} (hd : decode y.2.1 pc = .ok (.lload_n f, 1)) (hL : L[(f : Nat)]? = some (some (.long x))) (hq : pc + 1 = q) (k : Rn E y q L (.long x :: st) sh m rv sh' m') : Rn E y pc L st sh m rv sh' m' := by
  subst hq
  exact Rn.go (fun p l e R s mid args below meth c D κ A ρ H locs cells slots ls Q C hl hP hS k => lv_lload_n C.1 C.2.1 hd rfl (zLv hl hL) k) k
theorem zi_aloadn {f : Fin 4} {a : Nat} (hd : decode y.2.1 pc = .ok (.aload_n f, 1)) (hL : L[(f : Nat)]? = some (some (.ref a))) (hq : pc + 1 = q) (k : Rn E y q L (.ref a :: st) sh m rv sh' m') : Rn E y pc L st sh m rv sh' m' := by
  subst hq
  exact Rn.go (fun p l e R s mid args below meth c D κ A ρ H locs cells slots ls Q C hl hP hS k => lv_aload_n C.1 C.2.1 hd rfl (zLv hl hL) k) k
theorem zi_aload {i a : Nat} (hd : decode y.2.1 pc = .ok (.aload i, 2)) (hL : L[i]? = some (some (.ref a))) (hq : pc + 2 = q) (k : Rn E y q L (.ref a :: st) sh m rv sh' m') : Rn E y pc L st sh m rv sh' m' := by
  subst hq
  exact Rn.go (fun p l e R s mid args below meth c D κ A ρ H locs cells slots ls Q C hl hP hS k => lv_aload C.1 C.2.1 hd (zLv hl hL) k) k
/-! arithmetic -/
theorem zi_iadd {a b : Int32} (hd : decode y.2.1 pc = .ok (.iadd, 1)) (hq : pc + 1 = q) (k : Rn E y q L (.int (a + b) :: st) sh m rv sh' m') : Rn E y pc L (.int b :: .int a :: st) sh m rv sh' m' := by
  subst hq
  exact Rn.go (fun p l e R s mid args below meth c D κ A ρ H locs cells slots ls Q C hl hP hS k => lv_iadd C.1 C.2.1 hd k) k
theorem zi_isub {a b : Int32} (hd : decode y.2.1 pc = .ok (.isub, 1)) (hq : pc + 1 = q) (k : Rn E y q L (.int (a - b) :: st) sh m rv sh' m') : Rn E y pc L (.int b :: .int a :: st) sh m rv sh' m' := by
  subst hq
  exact Rn.go (fun p l e R s mid args below meth c D κ A ρ H locs cells slots ls Q C hl hP hS k => lv_isub C.1 C.2.1 hd k) k
theorem zi_imul {a b : Int32} (hd : decode y.2.1 pc = .ok (.imul, 1)) (hq : pc + 1 = q) (k : Rn E y q L (.int (a * b) :: st) sh m rv sh' m') : Rn E y pc L (.int b :: .int a :: st) sh m rv sh' m' := by
  subst hq
  exact Rn.go (fun p l e R s mid args below meth c D κ A ρ H locs cells slots ls Q C hl hP hS k => lv_imul C.1 C.2.1 hd k) k
theorem zi_iand {a b : Int32} (hd : decode y.2.1 pc = .ok (.iand, 1)) (hq : pc + 1 = q) (k : Rn E y q L (.int (a &&& b) :: st) sh m rv sh' m') : Rn E y pc L (.int b :: .int a :: st) sh m rv sh' m' := by
  subst hq
  exact Rn.go (fun p l e R s mid args below meth c D κ A ρ H locs cells slots ls Q C hl hP hS k => lv_iand C.1 C.2.1 hd k) k
theorem zi_ior {a b : Int32} (hd : decode y.2.1 pc = .ok (.ior, 1)) (hq : pc + 1 = q) (k : Rn E y q L (.int (a ||| b) :: st) sh m rv sh' m') : Rn E y pc L (.int b :: .int a :: st) sh m rv sh' m' := by
  subst hq
  exact Rn.go (fun p l e R s mid args below meth c D κ A ρ H locs cells slots ls Q C hl hP hS k => lv_ior C.1 C.2.1 hd k) k
theorem zi_ixor {a b : Int32} (hd : decode y.2.1 pc = .ok (.ixor, 1)) (hq : pc + 1 = q) (k : Rn E y q L (.int (a ^^^ b) :: st) sh m rv sh' m') : Rn E y pc L (.int b :: .int a :: st) sh m rv sh' m' := by
  subst hq
  exact Rn.go (fun p l e R s mid args below meth c D κ A ρ H locs cells slots ls Q C hl hP hS k => lv_ixor C.1 C.2.1 hd k) k
theorem zi_ishl {a b : Int32} (hd : decode y.2.1 pc = .ok (.ishl, 1)) (hq : pc + 1 = q) (k : Rn E y q L (.int (a <<< (b &&& 31)) :: st) sh m rv sh' m') : Rn E y pc L (.int b :: .int a :: st) sh m rv sh' m' := by
  subst hq
  exact Rn.go (fun p l e R s mid args below meth c D κ A ρ H locs cells slots ls Q C hl hP hS k => lv_ishl C.1 C.2.1 hd k) k
theorem zi_ishr {a b : Int32} (hd : decode y.2.1 pc = .ok (.ishr, 1)) (hq : pc + 1 = q) (k : Rn E y q L (.int (a >>> (b &&& 31)) :: st) sh m rv sh' m') : Rn E y pc L (.int b :: .int a :: st) sh m rv sh' m' := by
  subst hq
  exact Rn.go (fun p l e R s mid args below meth c D κ A ρ H locs cells slots ls Q C hl hP hS k => lv_ishr C.1 C.2.1 hd k) k
theorem zi_idiv {a b : Int32} (hd : decode y.2.1 pc = .ok (.idiv, 1)) (hn : ¬ b = 0) (hq : pc + 1 = q) (k : Rn E y q L (.int (a / b) :: st) sh m rv sh' m') : Rn E y pc L (.int b :: .int a :: st) sh m rv sh' m' := by
  subst hq
  exact Rn.go (fun p l e R s mid args below meth c D κ A ρ H locs cells slots ls Q C hl hP hS k => lv_idiv C.1 C.2.1 hd hn k) k
theorem zi_irem {a b : Int32} (hd : decode y.2.1 pc = .ok (.irem, 1)) (hn : ¬ b = 0) (hq : pc + 1 = q) (k : Rn E y q L (.int (a - a / b * b) :: st) sh m rv sh' m') : Rn E y pc L (.int b :: .int a :: st) sh m rv sh' m' := by
  subst hq
  exact Rn.go (fun p l e R s mid args below meth c D κ A ρ H locs cells slots ls Q C hl hP hS k => lv_irem C.1 C.2.1 hd hn k) k
theorem zi_ineg {a : Int32} (hd : decode y.2.1 pc = .ok (.ineg, 1)) (hq : pc + 1 = q) (k : Rn E y q L (.int (-a) :: st) sh m rv sh' m') : Rn E y pc L (.int a :: st) sh m rv sh' m' := by
  subst hq
  exact Rn.go (fun p l e R s mid args below meth c D κ A ρ H locs cells slots ls Q C hl hP hS k => lv_ineg C.1 C.2.1 hd k) k
theorem zi_ladd {a b : Int64} (hd : decode y.2.1 pc = .ok (.ladd, 1)) (hq : pc + 1 = q) (k : Rn E y q L (.long (a + b) :: st) sh m rv sh' m') : Rn E y pc L (.long b :: .long a :: st) sh m rv sh' m' := by
  subst hq
  exact Rn.go (fun p l e R s mid args below meth c D κ A ρ H locs cells slots ls Q C hl hP hS k => lv_ladd C.1 C.2.1 hd k) k
theorem zi_lmul {a b : Int64} (hd : decode y.2.1 pc = .ok (.lmul, 1)) (hq : pc + 1 = q) (k : Rn E y q L (.long (a * b) :: st) sh m rv sh' m') : Rn E y pc L (.long b :: .long a :: st) sh m rv sh' m' := by
  subst hq
  exact Rn.go (fun p l e R s mid args below meth c D κ A ρ H locs cells slots ls Q C hl hP hS k => lv_lmul C.1 C.2.1 hd k) k
theorem zi_ldiv {a b : Int64} (hd : decode y.2.1 pc = .ok (.ldiv, 1)) (hn : ¬ b = 0) (hq : pc + 1 = q) (k : Rn E y q L (.long (a / b) :: st) sh m rv sh' m') : Rn E y pc L (.long b :: .long a :: st) sh m rv sh' m' := by
  subst hq
  exact Rn.go (fun p l e R s mid args below meth c D κ A ρ H locs cells slots ls Q C hl hP hS k => lv_ldiv C.1 C.2.1 hd hn k) k
theorem zi_lrem {a b : Int64} (hd : decode y.2.1 pc = .ok (.lrem, 1)) (hn : ¬ b = 0) (hq : pc + 1 = q) (k : Rn E y q L (.long (a - a / b * b) :: st) sh m rv sh' m') : Rn E y pc L (.long b :: .long a :: st) sh m rv sh' m' := by
  subst hq
  exact Rn.go (fun p l e R s mid args below meth c D κ A ρ H locs cells slots ls Q C hl hP hS k => lv_lrem C.1 C.2.1 hd hn k) k
theorem zi_i2l {a : Int32} (hd : decode y.2.1 pc = .ok (.i2l, 1)) (hq : pc + 1 = q) (k : Rn E y q L (.long a.toInt64 :: st) sh m rv sh' m') : Rn E y pc L (.int a :: st) sh m rv sh' m' := by
  subst hq
  exact Rn.go (fun p l e R s mid args below meth c D κ A ρ H locs cells slots ls Q C hl hP hS k => lv_i2l C.1 C.2.1 hd rfl k) k
theorem zi_l2i {a : Int64} (hd : decode y.2.1 pc = .ok (.l2i, 1)) (hq : pc + 1 = q) (k : Rn E y q L (.int a.toInt32 :: st) sh m rv sh' m') : Rn E y pc L (.long a :: st) sh m rv sh' m' := by
  subst hq
  exact Rn.go (fun p l e R s mid args below meth c D κ A ρ H locs cells slots ls Q C hl hP hS k => lv_l2i C.1 C.2.1 hd rfl k) k
theorem zi_lcmp {a b : Int64} (hd : decode y.2.1 pc = .ok (.lcmp, 1)) (hq : pc + 1 = q) (k : Rn E y q L (.int (lg_cmp a b) :: st) sh m rv sh' m') : Rn E y pc L (.long b :: .long a :: st) sh m rv sh' m' := by
  subst hq
  exact Rn.go (fun p l e R s mid args below meth c D κ A ρ H locs cells slots ls Q C hl hP hS k => W.lcmp C.1 C.2.1 hd k) k
/-! the stack -/
theorem zv_cat (ρ : Nat → Nat) (v : Value) : (zv ρ v).category = v.category := by cases v <;> rfl
theorem zi_dup {v : Value} (hd : decode y.2.1 pc = .ok (.dup, 1)) (hc : v.category = 1) (hq : pc + 1 = q) (k : Rn E y q L (v :: v :: st) sh m rv sh' m') : Rn E y pc L (v :: st) sh m rv sh' m' := by
  subst hq
  exact Rn.go (fun p l e R s mid args below meth c D κ A ρ H locs cells slots ls Q C hl hP hS k => lv_dup C.1 C.2.1 hd ((zv_cat ρ v).trans hc) k) k
theorem zi_dup2 {v w : Value} (hd : decode y.2.1 pc = .ok (.dup2, 1)) (hc : v.category = 1) (hc2 : w.category = 1) (hq : pc + 1 = q) (k : Rn E y q L (v :: w :: v :: w :: st) sh m rv sh' m') : Rn E y pc L (v :: w :: st) sh m rv sh' m' := by
  subst hq
  exact Rn.go (fun p l e R s mid args below meth c D κ A ρ H locs cells slots ls Q C hl hP hS k => lv_dup2_11 C.1 C.2.1 hd ((zv_cat ρ v).trans hc) ((zv_cat ρ w).trans hc2) k) k
theorem zi_pop {v : Value} (hd : decode y.2.1 pc = .ok (.pop, 1)) (hc : v.category = 1) (hq : pc + 1 = q) (k : Rn E y q L st sh m rv sh' m') : Rn E y pc L (v :: st) sh m rv sh' m' := by
  subst hq
  exact Rn.go (fun p l e R s mid args below meth c D κ A ρ H locs cells slots ls Q C hl hP hS k => lv_pop C.1 C.2.1 hd ((zv_cat ρ v).trans hc) k) k
end ZRULES
