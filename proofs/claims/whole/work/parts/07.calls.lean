/-! ===== contracts and calls ===== -/
def zfit (r : Option FieldType) (rv : Option Value) : Prop := match r, rv with
  | none, none => True
  | some ty, some (.int v) => narrow ty (.int v) = .int v
  | some .long, some (.long _) => True
  | _, _ => False
def zents (vs : List Value) : List (Option Value) := vs.flatMap (fun v => if v.category = 2 then [some v, none] else [some v])
theorem zents_in (ρ : Nat → Nat) (k : Nat) : ∀ (vs : List Value) (i j : Nat) (w : Value), (zents vs ++ List.replicate k none)[j]? = some (some w) → (i + j, zv ρ w) ∈ lv_args i (vs.map (zv ρ))
  | [], i, j, w, h => by
    simp only [zents, List.flatMap_nil, List.nil_append] at h
    have := List.mem_of_getElem? h
    rw [List.mem_replicate] at this
    cases this.2
  | v :: vs, i, j, w, h => by
    by_cases hc : v.category = 2
    · have e : zents (v :: vs) = some v :: none :: zents vs := by simp [zents, hc]
      rw [e] at h
      show (i + j, zv ρ w) ∈ (i, zv ρ v) :: lv_args (if (zv ρ v).category = 2 then i + 2 else i + 1) (vs.map (zv ρ))
      rw [zv_cat, if_pos hc]
      match j, h with
      | 0, h => cases h; exact List.mem_cons_self
      | 1, h => cases h
      | j + 2, h =>
        have := zents_in ρ k vs (i + 2) j w h
        rw [show i + 2 + j = i + (j + 2) by omega] at this
        exact List.mem_cons_of_mem _ this
    · have e : zents (v :: vs) = some v :: zents vs := by simp [zents, hc]
      rw [e] at h
      show (i + j, zv ρ w) ∈ (i, zv ρ v) :: lv_args (if (zv ρ v).category = 2 then i + 2 else i + 1) (vs.map (zv ρ))
      rw [zv_cat, if_neg hc]
      match j, h with
      | 0, h => cases h; exact List.mem_cons_self
      | j + 1, h =>
        have := zents_in ρ k vs (i + 1) j w h
        rw [show i + 1 + j = i + (j + 1) by omega] at this
        exact List.mem_cons_of_mem _ this
theorem zents_len (ρ : Nat → Nat) : ∀ (vs : List Value), (lg_sl (vs.map (zv ρ))).length = (zents vs).length
  | [] => rfl
  | v :: vs => by
    have ih := zents_len ρ vs
    unfold lg_sl zents at ih ⊢
    rw [List.map_cons, List.flatMap_cons, List.flatMap_cons, List.length_append, List.length_append, ih, zv_cat]
    by_cases hc : v.category = 2
    · rw [if_pos hc, if_pos hc]; rfl
    · rw [if_neg hc, if_neg hc]; rfl
/-- the method's contract, at these arguments and cells -/
def zMet (E : Nat × (Nat → Int32)) (y : zY) (vs : List Value) (sh : List zS) (m : zM) (rv : Option Value) (sh' : List zS) (m' : zM) : Prop :=
  sh.length ≤ sh'.length ∧ zsz sh ≤ zsz sh' ∧ zfit y.2.2.2.1 rv ∧ ∀ (l : Launch) (D : va_G) (κ : Nat → ClassId) (ρ : Nat → Nat) (sz : Nat),
   Met l y.1 (Cond.code y.1 y.2.1 y.2.2.1 y.2.2.2.1 :: zALL) ({ frames := y.2.2.2.2.1, cells := sh'.length - sh.length, slots := zsz sh' - zsz sh, locals := y.2.2.2.2.2 })
    (va_Pc (vs.map (zv ρ)) (fun U => U.heap.size = sz ∧ va_P D vwCl (zw ρ κ m sh) U.heap ∧ va_K D vwCl (zt κ) U ∧ va_D (fun _ => True) (zw ρ κ m sh) ∧ zQ κ U ∧ zNw U ∧ zX E ρ (va_A (zw ρ κ m sh) sz) U))
    (fun _ st oc t => (∃ ρ' : Nat → Nat, zsm ρ ρ' sh sh' ∧ oc = .returned rv ∧ va_P D vwCl (zw ρ' κ m' sh') t.heap ∧ va_D (va_A (zw ρ κ m sh) sz) (zw ρ' κ m' sh')) ∧ va_F (va_A (zw ρ κ m sh) sz) st t)
    (sh'.length - sh.length) (zsz sh' - zsz sh) (va_A (zw ρ κ m sh) sz)
/-- Met.ofW for a method of a class some of whose methods are run by an entry (turned from the kit's row) -/
theorem zofW {l : Launch} {y : MethodName} {ws ws' : List Cond} {rm : Room} {Pc : Array Value → State → Prop} {Qc : Array Value → State → Outcome → State → Prop} {mc ms : Nat} {free : Addr → Prop} {cc : ByteArray} {maxL : Nat} {ret : Option FieldType}
    (hy : plainFor y = true) (hw : ws = Cond.code y cc maxL ret :: ws')
    (body : ∀ p e s m args below meth c s₁, BodyLoose p l y (headSpec ws rm) cc maxL ret e s m args below meth c s₁ → c.maxLocals = maxL → Pc args s →
      W p l e (headSpec ws rm).room s m args below meth c s.heap [] 0 0 (MQ below Qc args s mc ms free) (entryFrame m args maxL)) : Met l y ws rm Pc Qc mc ms free := by
  refine MetFree.of_bodySF (code := cc) (maxLocals := maxL) (ret := ret) hy ?_ ?_
  · intro args s m h hn
    obtain ⟨meth, c, h1, h2, h3, h4, h5, h6, -, -⟩ := Cond.code_spec hn (atoms_spec (ws := ws) h _ (by rw [hw]; exact List.mem_cons_self))
    exact ⟨meth, c, h1, h2, h3, h4, h5, h6⟩
  · intro p e s m args below meth c s₁ B hml hP _
    have hh0 : s₁.heap = s.heap := by rw [B.state]; rfl
    obtain ⟨t, a1, o, b1, b2, b3⟩ := body p e s m args below meth c s₁ B hml hP s₁ hh0 (Stand.of_body B)
    exact ⟨t, o, a1, b1, b2, ⟨b3.1, b3.2⟩⟩
theorem zMet.of {E : Nat × (Nat → Int32)} {y : zY} {vs : List Value} {L0 : List (Option Value)} {sh sh' : List zS} {m m' : zM} {rv : Option Value} (hp : plainFor y.1 = true) (hf : zfit y.2.2.2.1 rv) (hn : (zents vs).length ≤ y.2.2.1) (hL : zents vs ++ List.replicate (y.2.2.1 - (zents vs).length) none = L0) (h : Rn E y 0 L0 [] sh m rv sh' m') : zMet E y vs sh m rv sh' m' := by
  subst hL
  refine ⟨h.1, h.2.1, hf, fun l D κ ρ sz => ?_⟩
  refine zofW (cc := y.2.1) (maxL := y.2.2.1) (ret := y.2.2.2.1) hp rfl ?_
  intro p e s mid args below meth c s₁ B hml hv
  obtain ⟨rfl, hsz, hP, hK, hD0, hQ, hN, hX⟩ := hv
  subst hsz
  have hx := B.exec
  have hb := B.bytes
  have hr := B.returns
  have hts := atoms_spec (ws := Cond.code y.1 y.2.1 y.2.2.1 y.2.2.2.1 :: zALL) B.pre
  have hown : s.vm.findClass y.1.cls = some mid.cls := findClass_of_methodNamed B.named
  have hlocks := B.notSynchronized
  have hD := hD0.self (sz := s.heap.size)
  have hin : y.1.name = "<init>" → meth.name = "<init>" := fun h => (name_of_methodNamed B.named B.method).1.trans h
  have hl := lv_entry (vs.map (zv ρ)) (n := y.2.2.1) (by rw [zents_len]; exact hn)
  rw [lg_entry_eq]
  generalize (lg_sl (vs.map (zv ρ)) ++ List.replicate (y.2.2.1 - (lg_sl (vs.map (zv ρ))).length) Slot.unset).toArray = ls at hl ⊢
  have hl2 := lv_mono hl (fun q hq => by
    obtain ⟨w, h1, h2⟩ := zL_mem.mp hq
    have := zents_in ρ _ vs 0 q.1 w h1
    rw [Nat.zero_add, ← h2] at this
    exact this : ∀ q ∈ zL ρ (zents vs ++ List.replicate (y.2.2.1 - (zents vs).length) none), q ∈ lv_args 0 (vs.map (zv ρ)))
  refine h.2.2 p l e _ s mid _ below meth c D κ (va_A (zw ρ κ m sh) s.heap.size) ρ s.heap [] 0 0 ls _ ⟨hx, hb, hml, hown, fun w h => hts w (List.mem_cons_of_mem _ h), hK, hQ, fun q h => Or.inr h, hN, hX, Nat.le_refl _, Nat.le_refl _, hin⟩ hl2 hP hD va_S.rf ?_ ?_ ?_
  · show 0 + sh'.length ≤ (sh'.length - sh.length) + sh.length
    have := h.1
    omega
  · show 0 + zsz sh' ≤ (zsz sh' - zsz sh) + zsz sh
    have := h.2.1
    omega
  · intro ρ' H' locs' ls' pc' cells' slots' hsm hret hP' hD' hS' hc hs
    have e1 : cells' = sh'.length - sh.length := by have := h.1; omega
    have e2 : slots' = zsz sh' - zsz sh := by have := h.2.1; omega
    subst e1
    subst e2
    match rv, hret, hf with
    | none, hret, hf =>
      have hr2 : meth.sig.returnType = none := by
        rw [hr]
        cases hq : y.2.2.2.1 with
        | none => rfl
        | some ty => rw [hq] at hf; cases ty <;> exact absurd hf (by simp [zfit])
      exact W.vret hx hb hr2 (fun t ht hw => ⟨⟨ρ', hsm, rfl, by rw [ht]; exact hP', hD'⟩, hS'.F ht⟩) (fun q hq => hS'.2.2 q hq) hret hlocks
    | some (.int v), hret, hf =>
      cases hq : y.2.2.2.1 with
      | none => rw [hq] at hf; exact absurd hf (by simp [zfit])
      | some ty =>
        have hn2 : narrow ty (.int v) = .int v := by rw [hq] at hf; cases ty <;> exact hf
        exact W.zret hx hb (hr.trans hq) hn2 (fun t ht hw => ⟨⟨ρ', hsm, rfl, by rw [ht]; exact hP', hD'⟩, hS'.F ht⟩) (fun q hq => hS'.2.2 q hq) hret hlocks
    | some (.long v), hret, hf =>
      have hr2 : meth.sig.returnType = some .long := by
        rw [hr]
        cases hq : y.2.2.2.1 with
        | none => rw [hq] at hf; exact absurd hf (by simp [zfit])
        | some ty => rw [hq] at hf; cases ty <;> first | rfl | exact absurd hf (by simp [zfit])
      exact W.lret hx hb hr2 (fun t ht hw => ⟨⟨ρ', hsm, rfl, by rw [ht]; exact hP', hD'⟩, hS'.F ht⟩) (fun q hq => hS'.2.2 q hq) hret hlocks
theorem zfit_rv {r : Option FieldType} {rv : Option Value} (h : zfit r rv) (ρ : Nat → Nat) : rv.toList.map (zv ρ) = rv.toList := by
  cases rv with
  | none => rfl
  | some v =>
    cases v with
    | int x => rfl
    | long x => rfl
    | _ =>
      cases r with
      | none => exact absurd h (by simp [zfit])
      | some ty => cases ty <;> exact absurd h (by simp [zfit])
/-! what a caller keeps -/
def zok (n : Nat) (v : Value) : Bool := match v with
  | .ref a => decide (a < n) || decide (1000 ≤ a)
  | _ => true
theorem zok_eq {n : Nat} {v : Value} {ρ ρ' : Nat → Nat} (h : ∀ i, i < n ∨ 1000 ≤ i → ρ' i = ρ i) (hv : zok n v = true) : zv ρ' v = zv ρ v := by
  cases v with
  | ref a =>
    have : a < n ∨ 1000 ≤ a := by simpa [zok] using hv
    show Value.ref (ρ' a) = Value.ref (ρ a)
    rw [h a this]
  | _ => rfl
theorem zok_st {n : Nat} {st : List Value} {ρ ρ' : Nat → Nat} (h : ∀ i, i < n ∨ 1000 ≤ i → ρ' i = ρ i) (hv : st.all (zok n) = true) : st.map (zv ρ') = st.map (zv ρ) :=
  List.map_congr_left (fun v hm => zok_eq h (List.all_eq_true.mp hv v hm))
def zokL (n : Nat) (L : List (Option Value)) : Bool := L.all (fun o => match o with
  | some v => zok n v
  | none => true)
theorem zok_L {n : Nat} {L : List (Option Value)} {ρ ρ' : Nat → Nat} (h : ∀ i, i < n ∨ 1000 ≤ i → ρ' i = ρ i) (hv : zokL n L = true) : zL ρ' L = zL ρ L := by
  unfold zL
  congr 1
  funext j
  cases hj : L[j]? with
  | none => rfl
  | some o =>
    cases o with
    | none => rfl
    | some v =>
      have := List.all_eq_true.mp hv (some v) (List.mem_of_getElem? hj)
      show some (j, zv ρ' v) = some (j, zv ρ v)
      rw [zok_eq h this]
section ZCALL
variable {E : Nat × (Nat → Int32)} {y y2 : zY} {pc q i : Nat} {L L' : List (Option Value)} {S st vs : List Value} {sh sh2 sh' : List zS} {m m2 m' : zM} {rv rv2 : Option Value}
/-- behind a call -/
theorem Rn.call (hm1 : sh.length ≤ sh2.length) (hm2 : zsz sh ≤ zsz sh2) (hok : sh2.length = sh.length ∨ (st.all (zok sh.length) && zokL sh.length L) = true) (hrv : ∀ ρ : Nat → Nat, rv2.toList.map (zv ρ) = rv2.toList)
   (h : ∀ (p : Program) (l : Launch) (e : Env) (R : Room) (s : State) (mid : MethodId) (args : Array Value) (below : List Frame) (meth : Method) (c : Code) (D : va_G) (κ : Nat → ClassId) (A : Nat → Prop) (ρ : Nat → Nat) (H : Heap) (locs : List Loc) (cells slots : Nat) (ls : Array Slot),
   zC E p R s mid args meth c y D κ A ρ → lv_has ls y.2.2.1 (zL ρ L) → va_P D vwCl (zw ρ κ m sh) H → va_D A (zw ρ κ m sh) → va_S A s.heap H locs → (∀ q, va_A (zw ρ κ m sh) H.size q → A q) → cells + (sh2.length - sh.length) ≤ R.cells ∧ slots + (zsz sh2 - zsz sh) ≤ R.slots →
   va_Run p l e R s mid args below meth c H locs cells slots (sh2.length - sh.length) (zsz sh2 - zsz sh) (F0 mid pc ls (S.map (zv ρ))) (st.map (zv ρ)) (fun st oc t => (∃ ρ' : Nat → Nat, zsm ρ ρ' sh sh2 ∧ oc = .returned rv2 ∧ va_P D vwCl (zw ρ' κ m2 sh2) t.heap ∧ va_D (va_A (zw ρ κ m sh) H.size) (zw ρ' κ m2 sh2)) ∧ va_F (va_A (zw ρ κ m sh) H.size) st t) (va_A (zw ρ κ m sh) H.size))
   (k : Rn E y (pc + 3) L (rv2.toList ++ st) sh2 m2 rv sh' m') : Rn E y pc L S sh m rv sh' m' := by
  have k1 := k.1
  have k2 := k.2.1
  refine ⟨Nat.le_trans hm1 k1, Nat.le_trans hm2 k2, fun p l e R s mid args below meth c D κ A ρ H locs cells slots ls Q C hl hP hD hS hc hs kk => ?_⟩
  have hA := C.2.2.2.2.2.2.2.1
  have hFc : ∀ q, va_A (zw ρ κ m sh) H.size q → A q := by
    intro q hq
    rcases hq with ⟨j, e, hj⟩ | hq
    · exact hD.2 j (q, e) hj
    · exact hA q (Nat.le_trans hS.1 hq)
  have run := h p l e R s mid args below meth c D κ A ρ H locs cells slots ls C hl hP hD hS hFc ⟨by omega, by omega⟩
  intro T hT X
  obtain ⟨v, st₀, t, T', L', h0, X', hL, e1, e2, ⟨⟨ρ', hsm, hv, hP1, hD1⟩, hz, hkp⟩, stp⟩ := run T hT X
  cases hv
  rw [h0] at hz hkp
  rw [← e1] at hP1 hz hkp
  have hS1 : va_S A s.heap T'.heap (locs ++ L') := ⟨Nat.le_trans hS.1 hz, fun q g1 g2 => by
      rw [hkp q (Nat.lt_of_lt_of_le g1 hS.1) (fun z => g2 (hFc q z))]
      exact hS.2.1 q g1 g2, fun q hq => by
      rcases List.mem_append.mp hq with g | g
      · exact hS.2.2 q g
      · exact hFc _ (hL q g)⟩
  have hst : st.map (zv ρ') = st.map (zv ρ) := by
    rcases hok with hok | hok
    · rw [hsm.2 hok]
    · exact zok_st hsm.1 (Bool.and_eq_true_iff.mp hok).1
  have hLL : zL ρ' L = zL ρ L := by
    rcases hok with hok | hok
    · rw [hsm.2 hok]
    · exact zok_L hsm.1 (Bool.and_eq_true_iff.mp hok).2
  have C' : zC E p R s mid args meth c y D κ A ρ' := by
    obtain ⟨c1, c2, c3, c4, c5, c6, c7, c8, c9, c10, c11⟩ := C
    exact ⟨c1, c2, c3, c4, c5, c6, c7, c8, c9, c10.ext (fun i hi => hsm.1 i (Or.inr hi)), c11⟩
  have K := k.2.2 p l e R s mid args below meth c D κ A ρ' T'.heap (locs ++ L') (cells + (sh2.length - sh.length)) (slots + (zsz sh2 - zsz sh)) ls Q C' (by rw [hLL]; exact hl) hP1 (hD1.weaken (fun _ q _ g => hFc q.1 g)) hS1 (by omega) (by omega) (fun ρ2 H2 locs2 ls2 pc2 cells2 slots2 hsm2 hret2 hP2 hD2 hS2 hc2 hs2 => kk ρ2 H2 locs2 ls2 pc2 cells2 slots2 ⟨fun i hi => (hsm2.1 i (by omega)).trans (hsm.1 i hi), fun hh => (hsm2.2 (by omega)).trans (hsm.2 (by omega))⟩ hret2 hP2 hD2 hS2 (by omega) (by omega))
  rw [List.map_append, hrv ρ', hst] at K
  obtain ⟨t2, a1, b1⟩ := K T' rfl X'
  exact ⟨t2, stp t2 a1, b1⟩
theorem zALL_GoodIn {ws : List Cond} (h : ∀ w ∈ ws, w ∈ zALL) : GoodIn zALL ws := fun w hw => ⟨h w hw, good_of_word (zALL_good w (h w hw))⟩
/-- what a call needs of the tables: the method's class is no handle, it takes n arguments, its code is known -/
def zcB (y2 : zY) (n : Nat) : Prop := (y2.1.cls ≠ "java/lang/invoke/MethodHandle" ∧ y2.1.cls ≠ "java/lang/invoke/VarHandle" ∧ (parseMethodDescriptor y2.1.desc).map (fun d => d.parameters.length) = some n) ∧ Cond.code y2.1 y2.2.1 y2.2.2.1 y2.2.2.2.1 ∈ zALL ∧ Cond.initialized y2.1.cls ∈ zALL
/-- the callee's room within the caller's -/
def zrm (y y2 : zY) : Prop := y2.2.2.2.2.1 + 1 ≤ y.2.2.2.2.1 ∧ 8 + (y2.2.2.1 + 11) + y2.2.2.2.2.2 ≤ y.2.2.2.2.2
theorem zblind {E : Nat × (Nat → Int32)} {y : zY} {sh : List zS} {m : zM} {D : va_G} {κ : Nat → ClassId} {ρ : Nat → Nat} {sz : Nat} {vs : List Value} : FrameBlind (va_Pc (vs.map (zv ρ)) (fun U => U.heap.size = sz ∧ va_P D vwCl (zw ρ κ m sh) U.heap ∧ va_K D vwCl (zt κ) U ∧ va_D (fun _ => True) (zw ρ κ m sh) ∧ zQ κ U ∧ zNw U ∧ zX E ρ (va_A (zw ρ κ m sh) sz) U)) := by
  intro a U g mk h
  obtain ⟨h1, h2, h3, h4, h5, h6, h7, h8⟩ := h
  have hv : U.vm.Alike (U.calling g mk a).vm := Vm.Alike.refl U.vm
  obtain ⟨⟨x1, x2, x3⟩, ⟨a1, a2⟩, ⟨b1, b2⟩, c1, c2⟩ := h8
  refine ⟨h1, h2, h3, va_K.moved (u := U) (U := U.calling g mk a) hv h4, h5, zQ.moved (u := U) (U := U.calling g mk a) hv h6, ?_, ⟨x1.moved (u := U) (U := U.calling g mk a) hv, x2, x3⟩, ⟨a1.moved (u := U) (U := U.calling g mk a) hv, a2.moved (u := U) (U := U.calling g mk a) hv⟩, ⟨b1.moved (u := U) (U := U.calling g mk a) hv, b2.moved (u := U) (U := U.calling g mk a) hv⟩, c1.moved (u := U) (U := U.calling g mk a) hv, c2.moved (u := U) (U := U.calling g mk a) hv⟩
  exact ⟨fun q hq => va_tabs rfl (rfl : U.vm = (U.calling g mk a).vm) (h7.1 q hq), va_tabs rfl (rfl : U.vm = (U.calling g mk a).vm) h7.2.1, h7.2.2.moved (U := U.calling g mk a) hv⟩
theorem zpre {E : Nat × (Nat → Int32)} {y : zY} {p : Program} {R : Room} {s U : State} {mid : MethodId} {args : Array Value} {meth : Method} {c : Code} {D : va_G} {κ : Nat → ClassId} {A : Nat → Prop} {ρ : Nat → Nat} {H : Heap} {locs : List Loc} {sh : List zS} {m : zM} {vs : List Value} (C : zC E p R s mid args meth c y D κ A ρ) (hP : va_P D vwCl (zw ρ κ m sh) H) (hD : va_D A (zw ρ κ m sh)) (hS : va_S A s.heap H locs) (hFc : ∀ q, va_A (zw ρ κ m sh) H.size q → A q) (hU : U.heap = H) (hW : s.WarmedH U.vm) :
    va_Pc (vs.map (zv ρ)) (fun U => U.heap.size = H.size ∧ va_P D vwCl (zw ρ κ m sh) U.heap ∧ va_K D vwCl (zt κ) U ∧ va_D (fun _ => True) (zw ρ κ m sh) ∧ zQ κ U ∧ zNw U ∧ zX E ρ (va_A (zw ρ κ m sh) H.size) U) (vs.map (zv ρ)).toArray U := by
  obtain ⟨c1, c2, c3, c4, c5, c6, c7, c8, c9, c10, c11⟩ := C
  exact ⟨rfl, by rw [hU], by rw [hU]; exact hP, va_K.moved hW.alike c6, hD.weaken (fun _ _ _ _ => trivial), c7.moved hW.alike, c9.warm hW, c10.call hW.alike hS hU hFc⟩
theorem zcat_sum {ρ : Nat → Nat} {st : List Value} (h : (st.map fun v => v.category).sum ≤ 8) : ((st.map (zv ρ)).map fun v => v.category).sum ≤ 8 := by
  have e : (st.map (zv ρ)).map (fun v => v.category) = st.map (fun v => v.category) := by
    rw [List.map_map]
    exact List.map_congr_left (fun v _ => zv_cat ρ v)
  rw [e]
  exact h
/-- invokevirtual -/
theorem zc_V {n ci : Nat} {rs : List (Option Nat)} {r : vw_C} (hM : zMet E y2 (.ref n :: vs) sh m rv2 sh2 m2) (hd : decode y.2.1 pc = .ok (.invokevirtual i, 3)) (hB : zcB y2 vs.length) (h1 : Cond.methodLink y.1.cls i y2.1 ∈ zALL) (h2 : Cond.instanceMethod y2.1 ∈ zALL) (h3 : Cond.selects y2.1.cls y2.1 y2.1 ∈ zALL) (hR : zrm y y2) (ho : sh[n]? = some (.inr (ci, rs))) (hcl : vwCl[ci]? = some r) (hc2 : r.1 = y2.1.cls) (hS : S = vs.reverse ++ .ref n :: st) (hst : (st.map fun v => v.category).sum ≤ 8) (hok : sh2.length = sh.length ∨ (st.all (zok sh.length) && zokL sh.length L) = true) (hq : pc + 3 = q)
    (k : Rn E y q L (rv2.toList ++ st) sh2 m2 rv sh' m') : Rn E y pc L S sh m rv sh' m' := by
  subst hq
  subst hS
  refine Rn.call hM.1 hM.2.1 hok (zfit_rv hM.2.2.1) (fun p l e R s mid args below meth c D κ A ρ H locs cells slots ls C hl hP hD hSs hFc hf => ?_) k
  have hG : GoodIn zALL (wsV y.1.cls i y2.1.cls y2.1 (Cond.code y2.1 y2.2.1 y2.2.2.1 y2.2.2.2.1 :: zALL)) := zALL_GoodIn (fun w hw => by
    simp only [wsV, List.cons_append, List.nil_append, List.mem_cons] at hw
    rcases hw with rfl | rfl | rfl | rfl | rfl | hw
    · exact h1
    · exact h2
    · exact h3
    · exact hB.2.2
    · exact hB.2.1
    · exact hw)
  have cw := cwV (R := R) (rm := { frames := y2.2.2.2.2.1, cells := sh2.length - sh.length, slots := zsz sh2 - zsz sh, locals := y2.2.2.2.2.2 }) (mc := sh2.length - sh.length) (ms := zsz sh2 - zsz sh) vs.length C.2.2.2.2.1 hG rfl rfl rfl ⟨rfl, hB.1⟩ ⟨Nat.le_trans hR.1 C.2.2.2.2.2.2.2.2.2.2.1, Nat.le_trans hR.2 C.2.2.2.2.2.2.2.2.2.2.2.1⟩
  have recv := va_recv (q := r) C.2.2.2.2.2.1 hP hcl (zw_get ho)
  rw [hc2] at recv
  exact va_runV (As := vs.map (zv ρ)) (rest := st.map (zv ρ)) ⟨C.1, C.2.1, C.2.2.1, C.2.2.2.1, C.2.2.2.2.1⟩ (hM.2.2.2 l D κ ρ H.size) cw ⟨zblind (y := y), recv, fun U hU hW => zpre (vs := .ref n :: vs) C hP hD hSs hFc hU hW⟩ rfl (by rw [List.length_map]) hl.1 (by show ((vs.reverse ++ .ref n :: st).map (zv ρ)) = _; rw [List.map_append, List.map_reverse]; rfl) (lv_room (zcat_sum hst)) hd hf
/-- invokestatic -/
theorem zc_S (hM : zMet E y2 vs sh m rv2 sh2 m2) (hd : decode y.2.1 pc = .ok (.invokestatic i, 3)) (hB : zcB y2 vs.length) (h1 : Cond.methodLink y.1.cls i y2.1 ∈ zALL) (h2 : Cond.static y2.1 ∈ zALL) (hR : zrm y y2) (hS : S = vs.reverse ++ st) (hst : (st.map fun v => v.category).sum ≤ 8) (hok : sh2.length = sh.length ∨ (st.all (zok sh.length) && zokL sh.length L) = true) (hq : pc + 3 = q)
    (k : Rn E y q L (rv2.toList ++ st) sh2 m2 rv sh' m') : Rn E y pc L S sh m rv sh' m' := by
  subst hq
  subst hS
  refine Rn.call hM.1 hM.2.1 hok (zfit_rv hM.2.2.1) (fun p l e R s mid args below meth c D κ A ρ H locs cells slots ls C hl hP hD hSs hFc hf => ?_) k
  have hG : GoodIn zALL (va_wsS y.1.cls i y2.1 (Cond.code y2.1 y2.2.1 y2.2.2.1 y2.2.2.2.1 :: zALL)) := zALL_GoodIn (fun w hw => by
    simp only [va_wsS, List.cons_append, List.nil_append, List.mem_cons] at hw
    rcases hw with rfl | rfl | rfl | rfl | hw
    · exact h1
    · exact h2
    · exact hB.2.2
    · exact hB.2.1
    · exact hw)
  have cw := va_cwS (R := R) (rm := { frames := y2.2.2.2.2.1, cells := sh2.length - sh.length, slots := zsz sh2 - zsz sh, locals := y2.2.2.2.2.2 }) (mc := sh2.length - sh.length) (ms := zsz sh2 - zsz sh) vs.length C.2.2.2.2.1 hG rfl rfl rfl hB.1 ⟨Nat.le_trans hR.1 C.2.2.2.2.2.2.2.2.2.2.1, Nat.le_trans hR.2 C.2.2.2.2.2.2.2.2.2.2.2.1⟩
  exact va_runS (As := vs.map (zv ρ)) (rest := st.map (zv ρ)) ⟨C.1, C.2.1, C.2.2.1, C.2.2.2.1, C.2.2.2.2.1⟩ (hM.2.2.2 l D κ ρ H.size) cw ⟨zblind (y := y), fun U hU hW => zpre C hP hD hSs hFc hU hW⟩ rfl (by rw [List.length_map]) hl.1 (by show ((vs.reverse ++ st).map (zv ρ)) = _; rw [List.map_append, List.map_reverse]) (lv_room (zcat_sum hst)) hd hf
/-- invokestatic of a nest mate -/
theorem zc_SN {host : String} (hM : zMet E y2 vs sh m rv2 sh2 m2) (hd : decode y.2.1 pc = .ok (.invokestatic i, 3)) (hB : zcB y2 vs.length) (h1 : (y.1.cls, i, y2.1, host) ∈ zNm) (h2 : Cond.static y2.1 ∈ zALL) (hR : zrm y y2) (hS : S = vs.reverse ++ st) (hst : (st.map fun v => v.category).sum ≤ 8) (hok : sh2.length = sh.length ∨ (st.all (zok sh.length) && zokL sh.length L) = true) (hq : pc + 3 = q)
    (k : Rn E y q L (rv2.toList ++ st) sh2 m2 rv sh' m') : Rn E y pc L S sh m rv sh' m' := by
  subst hq
  subst hS
  refine Rn.call hM.1 hM.2.1 hok (zfit_rv hM.2.2.1) (fun p l e R s mid args below meth c D κ A ρ H locs cells slots ls C hl hP hD hSs hFc hf => ?_) k
  have hG : GoodIn zALL (Cond.code y2.1 y2.2.1 y2.2.2.1 y2.2.2.2.1 :: zALL) := zALL_GoodIn (fun w hw => by
    rcases List.mem_cons.mp hw with rfl | hw
    · exact hB.2.1
    · exact hw)
  have cw := va_cnB (R := R) (rm := { frames := y2.2.2.2.2.1, cells := sh2.length - sh.length, slots := zsz sh2 - zsz sh, locals := y2.2.2.2.2.2 }) (mc := sh2.length - sh.length) (ms := zsz sh2 - zsz sh) vs.length C.2.2.2.2.1 hG rfl rfl rfl (C.2.2.2.2.2.2.2.2.1.1 _ h1) (C.2.2.2.2.1 _ hB.2.2) hB.1 ⟨Nat.le_trans hR.1 C.2.2.2.2.2.2.2.2.2.2.1, Nat.le_trans hR.2 C.2.2.2.2.2.2.2.2.2.2.2.1⟩
  exact va_runSN (As := vs.map (zv ρ)) (rest := st.map (zv ρ)) ⟨C.1, C.2.1, C.2.2.1, C.2.2.2.1, C.2.2.2.2.1⟩ (hM.2.2.2 l D κ ρ H.size) ⟨cw, C.2.2.2.2.1 _ h2, trivial⟩ ⟨zblind (y := y), fun U hU hW => zpre C hP hD hSs hFc hU hW⟩ rfl (by rw [List.length_map]) hl.1 (by show ((vs.reverse ++ st).map (zv ρ)) = _; rw [List.map_append, List.map_reverse]) (lv_room (zcat_sum hst)) hd hf
/-- invokespecial of a constructor -/
theorem zc_I {n : Nat} (hM : zMet E y2 (.ref n :: vs) sh m none sh2 m2) (hret : y2.2.2.2.1 = none) (hd : decode y.2.1 pc = .ok (.invokespecial i, 3)) (hB : zcB y2 vs.length) (h1 : Cond.methodLink y.1.cls i y2.1 ∈ zALL) (h2 : Cond.instanceMethod y2.1 ∈ zALL) (h3 : y2.1.name = "<init>") (hR : zrm y y2) (hS : S = vs.reverse ++ .ref n :: st) (hst : (st.map fun v => v.category).sum ≤ 8) (hok : sh2.length = sh.length ∨ (st.all (zok sh.length) && zokL sh.length L) = true) (hq : pc + 3 = q)
    (k : Rn E y q L st sh2 m2 rv sh' m') : Rn E y pc L S sh m rv sh' m' := by
  subst hq
  subst hS
  refine Rn.call (rv2 := none) hM.1 hM.2.1 hok (fun _ => rfl) (fun p l e R s mid args below meth c D κ A ρ H locs cells slots ls C hl hP hD hSs hFc hf => ?_) k
  have hG : GoodIn zALL (Cond.code y2.1 y2.2.1 y2.2.2.1 y2.2.2.2.1 :: zALL) := zALL_GoodIn (fun w hw => by
    rcases List.mem_cons.mp hw with rfl | hw
    · exact hB.2.1
    · exact hw)
  have cw := cwI (R := R) (rm := { frames := y2.2.2.2.2.1, cells := sh2.length - sh.length, slots := zsz sh2 - zsz sh, locals := y2.2.2.2.2.2 }) (mc := sh2.length - sh.length) (ms := zsz sh2 - zsz sh) vs.length C.2.2.2.2.1 hG (by rw [hret]) rfl rfl (C.2.2.2.2.1 _ hB.2.2) (C.2.2.2.2.1 _ h1) (C.2.2.2.2.1 _ h2) h3 hB.1 ⟨Nat.le_trans hR.1 C.2.2.2.2.2.2.2.2.2.2.1, Nat.le_trans hR.2 C.2.2.2.2.2.2.2.2.2.2.2.1⟩
  exact va_runI (As := vs.map (zv ρ)) (rest := st.map (zv ρ)) ⟨C.1, C.2.1, C.2.2.1, C.2.2.2.1, C.2.2.2.2.1⟩ (hM.2.2.2 l D κ ρ H.size) cw ⟨zblind (y := y), fun U hU hW => zpre (vs := .ref n :: vs) C hP hD hSs hFc hU hW⟩ rfl (by rw [List.length_map]) hl.1 (by show ((vs.reverse ++ .ref n :: st).map (zv ρ)) = _; rw [List.map_append, List.map_reverse]; rfl) (lv_room (zcat_sum hst)) hd hf
/-- invokespecial of a nest mate's own constructor -/
theorem zc_IN {n : Nat} {host : String} (hM : zMet E y2 (.ref n :: vs) sh m none sh2 m2) (hret : y2.2.2.2.1 = none) (hd : decode y.2.1 pc = .ok (.invokespecial i, 3)) (hB : zcB y2 vs.length) (h1 : (y.1.cls, i, y2.1, host) ∈ zNm) (h2 : Cond.instanceMethod y2.1 ∈ zALL) (h3 : y2.1.name = "<init>") (hR : zrm y y2) (hS : S = vs.reverse ++ .ref n :: st) (hst : (st.map fun v => v.category).sum ≤ 8) (hok : sh2.length = sh.length ∨ (st.all (zok sh.length) && zokL sh.length L) = true) (hq : pc + 3 = q)
    (k : Rn E y q L st sh2 m2 rv sh' m') : Rn E y pc L S sh m rv sh' m' := by
  subst hq
  subst hS
  refine Rn.call (rv2 := none) hM.1 hM.2.1 hok (fun _ => rfl) (fun p l e R s mid args below meth c D κ A ρ H locs cells slots ls C hl hP hD hSs hFc hf => ?_) k
  have hG : GoodIn zALL (Cond.code y2.1 y2.2.1 y2.2.2.1 y2.2.2.2.1 :: zALL) := zALL_GoodIn (fun w hw => by
    rcases List.mem_cons.mp hw with rfl | hw
    · exact hB.2.1
    · exact hw)
  have cw := va_cnB (R := R) (ret := none) (ws' := zALL) (rm := { frames := y2.2.2.2.2.1, cells := sh2.length - sh.length, slots := zsz sh2 - zsz sh, locals := y2.2.2.2.2.2 }) (mc := sh2.length - sh.length) (ms := zsz sh2 - zsz sh) vs.length C.2.2.2.2.1 hG (by rw [hret]) rfl rfl (C.2.2.2.2.2.2.2.2.1.1 _ h1) (C.2.2.2.2.1 _ hB.2.2) hB.1 ⟨Nat.le_trans hR.1 C.2.2.2.2.2.2.2.2.2.2.1, Nat.le_trans hR.2 C.2.2.2.2.2.2.2.2.2.2.2.1⟩
  exact va_runIN (As := vs.map (zv ρ)) (rest := st.map (zv ρ)) ⟨C.1, C.2.1, C.2.2.1, C.2.2.2.1, C.2.2.2.2.1⟩ (hM.2.2.2 l D κ ρ H.size) ⟨cw, h3, C.2.2.2.2.1 _ h2⟩ ⟨zblind (y := y), fun U hU hW => zpre (vs := .ref n :: vs) C hP hD hSs hFc hU hW⟩ rfl (by rw [List.length_map]) hl.1 (by show ((vs.reverse ++ .ref n :: st).map (zv ρ)) = _; rw [List.map_append, List.map_reverse]; rfl) (lv_room (zcat_sum hst)) hd hf
/-- Object's constructor -/
theorem zc_O {n : Nat} (hd : decode y.2.1 pc = .ok (.invokespecial i, 3)) (h1 : Cond.methodLink y.1.cls i objectInit ∈ zALL) (h2 : Cond.instanceMethod objectInit ∈ zALL) (h3 : Cond.code objectInit ⟨#[0xb1]⟩ 1 none ∈ zALL) (hfr : 1 ≤ y.2.2.2.2.1) (hlo : 20 ≤ y.2.2.2.2.2) (hst : (st.map fun v => v.category).sum ≤ 8) (hq : pc + 3 = q) (k : Rn E y q L st sh m rv sh' m') : Rn E y pc L (.ref n :: st) sh m rv sh' m' := by
  subst hq
  refine Rn.go (fun p l e R s mid args below meth c D κ A ρ H locs cells slots ls Q C hl hP hS k => ?_) k
  exact W.objInit C.1 C.2.1 C.2.2.2.1 (C.2.2.2.2.1 _ h1) (C.2.2.2.2.1 _ h2) (C.2.2.2.2.1 _ h3) rfl (hl.1.trans C.2.2.1.symm) (rest := st.map (zv ρ)) rfl hd (Nat.le_trans hfr C.2.2.2.2.2.2.2.2.2.2.1) (by
    have a := lv_room (m := mid) (pc := pc) (ls := ls) (rest := (Value.ref n :: st).map (zv ρ)) (zcat_sum (ρ := ρ) hst)
    have b := Nat.le_trans hlo C.2.2.2.2.2.2.2.2.2.2.2.1
    omega) k
end ZCALL
