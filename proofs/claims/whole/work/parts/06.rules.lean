section ZRULES3
variable {E : Nat × (Nat → Int32)} {y : zY} {pc q : Nat} {L L' : List (Option Value)} {st : List Value} {sh sh' : List zS} {m m' m1 : zM} {rv : Option Value}
/-! fields are written -/
/-- field k of the objects of number ci, of that type, linked at the place i of the pool of the class own -/
def zpl (own : String) (i ci k : Nat) (ty : FieldType) (fin : Bool) : Prop := ∃ q : vw_C, vwCl[ci]? = some q ∧ k < zn ci ∧ zty ci k = ty ∧ (q.2.1 k).2.2.2 = fin ∧ (fin = true → (q.2.1 k).1 = own) ∧ Cond.fieldLink own i (q.2.1 k).1 (q.2.1 k).2.1 (q.2.1 k).2.2.1 ∈ zALL
theorem zi_put {i ci k n : Nat} {rs : List (Option Nat)} {ty : FieldType} {v : Value} (hd : decode y.2.1 pc = .ok (.putfield i, 3)) (hf : zpl y.1.cls i ci k ty false) (ho : sh[n]? = some (.inr (ci, rs))) (hn : ∀ ρ : Nat → Nat, narrow ty (zv ρ v) = zv ρ v) (hfit : ∀ ρ : Nat → Nat, fits ty (zv ρ v) = true)
    (hm : ∀ i, i ≠ n → m1.1 i = m.1 i ∧ m1.2.1 i = m.2.1 i ∧ m1.2.2 i = m.2.2 i) (hv : ∀ ρ : Nat → Nat, zfv ρ m1 n rs k (ztk ty) = zv ρ v) (hr : ∀ (ρ : Nat → Nat) (j : Nat), j ≠ k → ∀ t, zfv ρ m1 n rs j t = zfv ρ m n rs j t) (hq : pc + 3 = q) (kk : Rn E y q L st sh m1 rv sh' m') : Rn E y pc L (v :: .ref n :: st) sh m rv sh' m' := by
  subst hq
  obtain ⟨r, h1, h2, h3, h4, -, h5⟩ := hf
  obtain ⟨g1, g2, g3, g4⟩ := zcl ci r h1
  subst h3
  refine Rn.mw (m1 := m1) (fun p l e R s mid args below meth c D κ A ρ H locs cells slots ls Q C hl hP hD hS kk => ?_) kk
  refine va_put (C := r.1) (T := r.2.1) (N := r.2.2) (ty := zty ci k) C.1 C.2.1 C.2.2.2.2.1 g2 (zty ci) g3 g4 C.2.2.2.1 C.2.2.2.2.2.1 hP hD hS n (zw_get ho) h1 k (by rw [g1]; exact h2) (C.2.2.2.2.1 _ h5) (fun _ h => h) h4 (g3 k (by rw [g1]; exact h2)) (hn ρ) (hfit ρ) (by rw [zfs_len]; exact h2) hd (fun H1 locs1 hP1 hD1 hS1 => ?_)
  have e : (zw ρ κ m sh).set n (ρ n, .inr (ci, (zfs ρ m n ci rs).set k (zv ρ v))) = zw ρ κ m1 sh := by
    rw [← zw_set ho hm]
    congr 2
    show Sum.inr _ = Sum.inr _
    rw [zfs_set h2 (hv ρ) (fun j _ hj => hr ρ j hj _)]
  rw [e] at hP1 hD1
  exact kk H1 locs1 hP1 hD1 hS1
theorem zfv_zi {m : zM} {n k : Nat} {x : Int32} {rs : List (Option Nat)} (ρ : Nat → Nat) (j : Nat) (hj : j ≠ k) (t : Nat) : zfv ρ (zi m n k x) n rs j t = zfv ρ m n rs j t := by
  unfold zfv
  split <;> simp [zi, hj]
theorem zi_putI {i ci k n : Nat} {rs : List (Option Nat)} {x : Int32} (hd : decode y.2.1 pc = .ok (.putfield i, 3)) (hf : zpl y.1.cls i ci k .int false) (ho : sh[n]? = some (.inr (ci, rs))) (hq : pc + 3 = q) (kk : Rn E y q L st sh (zi m n k x) rv sh' m') : Rn E y pc L (.int x :: .ref n :: st) sh m rv sh' m' :=
  zi_put (v := .int x) hd hf ho (fun _ => rfl) (fun _ => rfl) (zi_off m n k x) (fun ρ => by show Value.int ((zi m n k x).1 n k) = _; simp [zi, zv]) (fun ρ j hj t => zfv_zi ρ j hj t) hq kk
/-- 0 or 1 -/
def zb (x : Int32) : Bool := decide (x = 0) || decide (x = 1)
theorem zb_of {x : Int32} (h : zb x = true) : x = 0 ∨ x = 1 := by
  simpa [zb] using h
theorem zi_putZ {i ci k n : Nat} {rs : List (Option Nat)} {x : Int32} (hd : decode y.2.1 pc = .ok (.putfield i, 3)) (hf : zpl y.1.cls i ci k .boolean false) (ho : sh[n]? = some (.inr (ci, rs))) (hz : zb x = true) (hq : pc + 3 = q) (kk : Rn E y q L st sh (zi m n k x) rv sh' m') : Rn E y pc L (.int x :: .ref n :: st) sh m rv sh' m' :=
  zi_put (v := .int x) hd hf ho (fun _ => by rcases zb_of hz with rfl | rfl <;> rfl) (fun _ => by rcases zb_of hz with rfl | rfl <;> rfl) (zi_off m n k x) (fun ρ => by show Value.int ((zi m n k x).1 n k) = _; simp [zi, zv]) (fun ρ j hj t => zfv_zi ρ j hj t) hq kk
theorem zi_putJ {i ci k n : Nat} {rs : List (Option Nat)} {x : Int64} (hd : decode y.2.1 pc = .ok (.putfield i, 3)) (hf : zpl y.1.cls i ci k .long false) (ho : sh[n]? = some (.inr (ci, rs))) (hq : pc + 3 = q) (kk : Rn E y q L st sh (zl m n k x) rv sh' m') : Rn E y pc L (.long x :: .ref n :: st) sh m rv sh' m' :=
  zi_put (v := .long x) hd hf ho (fun _ => rfl) (fun _ => rfl) (zl_off m n k x) (fun ρ => by show Value.long ((zl m n k x).2.1 n k) = _; simp [zl, zv]) (fun ρ j hj t => by unfold zfv; split <;> simp [zl, hj]) hq kk
/-! arrays -/
theorem zi_iald {n len b : Nat} {i : Int32} (hd : decode y.2.1 pc = .ok (.iaload, 1)) (ho : sh[n]? = some (.inl (0, len, b))) (hi : vp_in i len) (hq : pc + 1 = q) (kk : Rn E y q L (.int (m.1 n i.toNatClampNeg) :: st) sh m rv sh' m') : Rn E y pc L (.int i :: .ref n :: st) sh m rv sh' m' := by
  subst hq
  exact Rn.go (fun p l e R s mid args below meth c D κ A ρ H locs cells slots ls Q C hl hP hS kk => va_iald C.1 C.2.1 C.2.2.2.2.2.1 hP n 0 (zw_get ho) rfl hi hd kk) kk
theorem zi_bald {n len b : Nat} {i : Int32} (hd : decode y.2.1 pc = .ok (.baload, 1)) (ho : sh[n]? = some (.inl (1, len, b))) (hi : vp_in i len) (hq : pc + 1 = q) (kk : Rn E y q L (.int (m.1 n i.toNatClampNeg) :: st) sh m rv sh' m') : Rn E y pc L (.int i :: .ref n :: st) sh m rv sh' m' := by
  subst hq
  exact Rn.go (fun p l e R s mid args below meth c D κ A ρ H locs cells slots ls Q C hl hP hS kk => va_zald C.1 C.2.1 C.2.2.2.2.2.1 hP n 1 (zw_get ho) rfl hi hd kk) kk
theorem zi_alen {n len b : Nat} {v : Int32} (hd : decode y.2.1 pc = .ok (.arraylength, 1)) (ho : sh[n]? = some (.inl (0, len, b))) (hv : Int32.ofNat len = v) (hq : pc + 1 = q) (kk : Rn E y q L (.int v :: st) sh m rv sh' m') : Rn E y pc L (.ref n :: st) sh m rv sh' m' := by
  subst hq
  exact Rn.go (fun p l e R s mid args below meth c D κ A ρ H locs cells slots ls Q C hl hP hS kk => va_alen (x := (len, .inl (m.1 n))) C.1 C.2.1 C.2.2.2.2.2.1 hP n 0 (zw_get ho) rfl hv hd kk) kk
theorem zi_iast {n len b : Nat} {i x : Int32} (hd : decode y.2.1 pc = .ok (.iastore, 1)) (ho : sh[n]? = some (.inl (0, len, b))) (hi : vp_in i len) (hq : pc + 1 = q) (kk : Rn E y q L st sh (zi m n i.toNatClampNeg x) rv sh' m') : Rn E y pc L (.int x :: .int i :: .ref n :: st) sh m rv sh' m' := by
  subst hq
  refine Rn.mw (fun p l e R s mid args below meth c D κ A ρ H locs cells slots ls Q C hl hP hD hS kk => ?_) kk
  refine va_iast C.1 C.2.1 C.2.2.2.2.2.1 hP hD hS n 0 (zw_get ho) rfl hi hd (fun H1 locs1 hP1 hD1 hS1 => ?_)
  have e : (zw ρ κ m sh).set n (ρ n, .inl (κ 0, len, .inl (upd (m.1 n) i.toNatClampNeg x))) = zw ρ κ (zi m n i.toNatClampNeg x) sh := by
    rw [← zw_set ho (zi_off m n i.toNatClampNeg x)]
    show _ = (zw ρ κ m sh).set n (ρ n, .inl (κ 0, len, .inl ((zi m n i.toNatClampNeg x).1 n)))
    rw [zi_row]
  rw [e] at hP1 hD1
  exact kk H1 locs1 hP1 hD1 hS1
theorem zb_nar {x : Int32} (h : zb x = true) : vp_nar .boolean x = x := by
  rcases zb_of h with rfl | rfl <;> rfl
theorem zi_bast {n len b : Nat} {i x : Int32} (hd : decode y.2.1 pc = .ok (.bastore, 1)) (ho : sh[n]? = some (.inl (1, len, b))) (hi : vp_in i len) (hz : zb x = true) (hq : pc + 1 = q) (kk : Rn E y q L st sh (zi m n i.toNatClampNeg x) rv sh' m') : Rn E y pc L (.int x :: .int i :: .ref n :: st) sh m rv sh' m' := by
  subst hq
  refine Rn.mw (fun p l e R s mid args below meth c D κ A ρ H locs cells slots ls Q C hl hP hD hS kk => ?_) kk
  refine va_zast C.1 C.2.1 C.2.2.2.2.2.1 hP hD hS n 1 (zw_get ho) rfl hi hd (fun H1 locs1 hP1 hD1 hS1 => ?_)
  have e : (zw ρ κ m sh).set n (ρ n, .inl (κ 1, len, .inl (upd (m.1 n) i.toNatClampNeg (vp_nar .boolean x)))) = zw ρ κ (zi m n i.toNatClampNeg x) sh := by
    rw [← zw_set ho (zi_off m n i.toNatClampNeg x), zb_nar hz]
    show _ = (zw ρ κ m sh).set n (ρ n, .inl (κ 1, len, .inl ((zi m n i.toNatClampNeg x).1 n)))
    rw [zi_row]
  rw [e] at hP1 hD1
  exact kk H1 locs1 hP1 hD1 hS1
theorem zi_aald {n len b : Nat} {i : Int32} (hd : decode y.2.1 pc = .ok (.aaload, 1)) (ho : sh[n]? = some (.inl (2, len, b))) (hi : vp_in i len) (hq : pc + 1 = q) (kk : Rn E y q L (.ref (b + m.2.2 n i.toNatClampNeg % len) :: st) sh m rv sh' m') : Rn E y pc L (.int i :: .ref n :: st) sh m rv sh' m' := by
  subst hq
  refine Rn.go (fun p l e R s mid args below meth c D κ A ρ H locs cells slots ls Q C hl hP hS kk => ?_) kk
  have hlt : i.toNatClampNeg < len := Nat.not_le.mp fun q => hi (Or.inr q)
  have ha : (zw ρ κ m sh)[n]? = some (ρ n, .inl (κ 2, len, .inr (.inr (.inr (.inr (fun j => some (ρ (b + m.2.2 n j % len)))))))) := zw_get ho
  have ht : (zt κ)[2]? = some (κ 2, .array .int) := rfl
  exact W.aald (v := va_rf (some (ρ (b + m.2.2 n i.toNatClampNeg % len)))) (ty := .array .int) C.1 C.2.1 (hP n _ ha) ((C.2.2.2.2.2.1.2 2 _ ht).1 len (fun j => va_rf (some (ρ (b + m.2.2 n j % len))))) rfl (fun q => by cases q) (by show ¬ (i < 0 ∨ (arrV _ _ _).slots.size ≤ _); rw [arrV_size]; exact hi) (by show (arrV _ _ _).slots[_]? = _; rw [arrV_read _ _ hlt]) rfl rfl hd kk
theorem zi_aast {n len b v k0 b0 : Nat} {i : Int32} (hd : decode y.2.1 pc = .ok (.aastore, 1)) (ho : sh[n]? = some (.inl (2, len, b))) (hi : vp_in i len) (hv : b ≤ v ∧ v < b + len) (hv2 : sh[v]? = some (.inl (0, k0, b0))) (hq : pc + 1 = q) (kk : Rn E y q L st sh (zr m n i.toNatClampNeg (v - b)) rv sh' m') : Rn E y pc L (.ref v :: .int i :: .ref n :: st) sh m rv sh' m' := by
  subst hq
  refine Rn.mw (fun p l e R s mid args below meth c D κ A ρ H locs cells slots ls Q C hl hP hD hS kk => ?_) kk
  have hlt : i.toNatClampNeg < len := Nat.not_le.mp fun q => hi (Or.inr q)
  have h0 : ¬ i < 0 := fun q => hi (Or.inl q)
  have ha : (zw ρ κ m sh)[n]? = some (ρ n, .inl (κ 2, len, .inr (.inr (.inr (.inr (fun j => some (ρ (b + m.2.2 n j % len)))))))) := zw_get ho
  have hw : (zw ρ κ m sh)[v]? = some (ρ v, .inl (κ 0, k0, .inl (m.1 v))) := zw_get hv2
  obtain ⟨kA, k1, k2⟩ := C.2.2.2.2.2.2.1
  have ht : (zt κ)[0]? = some (κ 0, .int) := rfl
  obtain ⟨-, kI, hkI, -⟩ := (C.2.2.2.2.2.1.2 0 _ ht).1 0 (fun _ => .int 0)
  refine W.aast C.1 C.2.1 (hP n _ ha) (fun q h => by cases h) (fun h => by cases h) k1 k2 rfl hkI ⟨h0, by show _ < (arrV _ _ _).slots.size; rw [arrV_size]; exact hlt⟩ (hP v _ hw) (fun q h => by cases h) hkI (va_asg _ _) rfl rfl hd fun H1 e z oq => ?_
  have e2 : (zw ρ κ m sh).set n (ρ n, zE ρ κ (zr m n i.toNatClampNeg (v - b)) n (.inl (2, len, b))) = zw ρ κ (zr m n i.toNatClampNeg (v - b)) sh := zw_set ho (zr_off m n i.toNatClampNeg (v - b))
  have hat : va_at D vwCl (ρ n, zE ρ κ (zr m n i.toNatClampNeg (v - b)) n (.inl (2, len, b))) H1 := by
    show H1[ρ n]? = some (vp_cell _ _)
    rw [e]
    rw [vp_cell_q, vp_cell_q, arrV_store]
    congr 2
    funext j
    by_cases hj : j = i.toNatClampNeg
    · subst hj
      have hm : (v - b) % len = v - b := Nat.mod_eq_of_lt (by omega)
      simp [updV, va_rf, zr, hm, show b + (v - b) = v by omega]
    · simp [updV, hj, zr]
  have hP1 := hP.set hD ha hat oq
  have hD1 := hD.set (e := zE ρ κ (zr m n i.toNatClampNeg (v - b)) n (.inl (2, len, b))) ha
  rw [e2] at hP1 hD1
  exact kk H1 _ hP1 hD1 (hS.put z oq (hD.2 n _ ha))
/-! the script and the tables of constants -/
theorem zi_xald {i : Int32} (hd : decode y.2.1 pc = .ok (.iaload, 1)) (hi : vp_in i E.1) (hq : pc + 1 = q) (kk : Rn E y q L (.int (E.2 i.toNatClampNeg) :: st) sh m rv sh' m') : Rn E y pc L (.int i :: .ref 1000 :: st) sh m rv sh' m' := by
  subst hq
  exact Rn.go (fun p l e R s mid args below meth c D κ A ρ H locs cells slots ls Q C hl hP hS kk => va_sld C.1 C.2.1 C.2.2.2.2.2.2.2.2.2.1.1.1 C.2.2.2.2.2.2.2.2.2.1.1.2.1 C.2.2.2.2.2.2.2.2.2.1.1.2.2 hS hi hd kk) kk
theorem zi_xlen (hd : decode y.2.1 pc = .ok (.arraylength, 1)) (hq : pc + 1 = q) (kk : Rn E y q L (.int (Int32.ofNat E.1) :: st) sh m rv sh' m') : Rn E y pc L (.ref 1000 :: st) sh m rv sh' m' := by
  subst hq
  exact Rn.go (fun p l e R s mid args below meth c D κ A ρ H locs cells slots ls Q C hl hP hS kk => va_slen C.1 C.2.1 C.2.2.2.2.2.2.2.2.2.1.1.1 C.2.2.2.2.2.2.2.2.2.1.1.2.1 C.2.2.2.2.2.2.2.2.2.1.1.2.2 hS hd kk) kk
theorem zi_t1ald {i : Int32} (hd : decode y.2.1 pc = .ok (.iaload, 1)) (hi : vp_in i 9) (hq : pc + 1 = q) (kk : Rn E y q L (.int (zxs 1001 i.toNatClampNeg) :: st) sh m rv sh' m') : Rn E y pc L (.int i :: .ref 1001 :: st) sh m rv sh' m' := by
  subst hq
  exact Rn.go (fun p l e R s mid args below meth c D κ A ρ H locs cells slots ls Q C hl hP hS kk => va_ti C.1 C.2.1 C.2.2.2.2.2.2.2.2.2.1.2.1.2 hS hi rfl hd kk) kk
theorem zi_t2ald {i : Int32} (hd : decode y.2.1 pc = .ok (.iaload, 1)) (hi : vp_in i 9) (hq : pc + 1 = q) (kk : Rn E y q L (.int (zxs 1002 i.toNatClampNeg) :: st) sh m rv sh' m') : Rn E y pc L (.int i :: .ref 1002 :: st) sh m rv sh' m' := by
  subst hq
  exact Rn.go (fun p l e R s mid args below meth c D κ A ρ H locs cells slots ls Q C hl hP hS kk => va_ti C.1 C.2.1 C.2.2.2.2.2.2.2.2.2.1.2.2.1.2 hS hi rfl hd kk) kk
theorem zi_gets1 {i : Nat} (hd : decode y.2.1 pc = .ok (.getstatic i, 3)) (hw : Cond.fieldLink y.1.cls i "FeltGlass" "LEAST_SETTING" "[I" ∈ zALL) (hq : pc + 3 = q) (kk : Rn E y q L (.ref 1001 :: st) sh m rv sh' m') : Rn E y pc L st sh m rv sh' m' := by
  subst hq
  exact Rn.go (fun p l e R s mid args below meth c D κ A ρ H locs cells slots ls Q C hl hP hS kk => va_gets C.1 C.2.1 C.2.2.2.2.2.2.2.2.2.1.2.1.1 hS C.2.2.2.1 (C.2.2.2.2.1 _ hw) (fun _ h => h) hd kk) kk
theorem zi_gets2 {i : Nat} (hd : decode y.2.1 pc = .ok (.getstatic i, 3)) (hw : Cond.fieldLink y.1.cls i "FeltGlass" "MOST_SETTING" "[I" ∈ zALL) (hq : pc + 3 = q) (kk : Rn E y q L (.ref 1002 :: st) sh m rv sh' m') : Rn E y pc L st sh m rv sh' m' := by
  subst hq
  exact Rn.go (fun p l e R s mid args below meth c D κ A ρ H locs cells slots ls Q C hl hP hS kk => va_gets C.1 C.2.1 C.2.2.2.2.2.2.2.2.2.1.2.2.1.1 hS C.2.2.2.1 (C.2.2.2.2.1 _ hw) (fun _ h => h) hd kk) kk
theorem zi_gets3 (hd : decode y.2.1 pc = .ok (.getstatic 89, 3)) (hy : y.1.cls = "FeltGlass$Panel") (hq : pc + 3 = q) (kk : Rn E y q L (.ref 1003 :: st) sh m rv sh' m') : Rn E y pc L st sh m rv sh' m' := by
  subst hq
  exact Rn.go (fun p l e R s mid args below meth c D κ A ρ H locs cells slots ls Q C hl hP hS kk => va_getsN (own := "FeltGlass$Panel") (host := "FeltGlass") C.1 C.2.1 C.2.2.2.2.2.2.2.2.2.1.2.2.2.1 hS (by rw [← hy]; exact C.2.2.2.1) (va_Nw.use rfl C.2.2.2.2.2.2.2.2.1.2.1) (fun _ h => h) hd kk) kk
end ZRULES3
section ZCOPY
variable {p : Program} {l : Launch} {e : Env} {R : Room} {s : State} {m : MethodId} {args : Array Value} {below : List Frame} {meth : Method} {c : Code} {H : Heap} {locs : List Loc} {cells slots : Nat} {Q : State → Prop}
variable {cc : ByteArray} {pc : Nat} {ls : Array Slot} {rest : List Value} {D : va_G} {cl : List vw_C} {A : Nat → Prop} {a : Nat} {tys : List (ClassId × FieldType)} {ws : va_W} {H0 : Heap}
/-- va_copyx, out of a table of constants (turned from the kit's row) -/
theorem zcopyT (hexec : p.tables.exec = Jvm.exec) (hb : c.code = cc) (hml : c.maxLocals = ls.size) {own : String} {index : Nat} (hown : s.vm.findClass own = some m.cls) (hlink : (Cond.methodLink own index arraycopyName).before args s = true) (hnat : (Cond.native arraycopyName).before args s = true) (hstat : (Cond.static arraycopyName).before args s = true) (hini : (Cond.initialized "java/lang/System").before args s = true)
    (hK : va_K D cl tys s) (hP : va_P D cl ws H) (hD : va_D A ws) (hS : va_S A s.heap H locs) {b0 n0 : Nat} {f : Nat → Int32} (hX : va_T .int b0 n0 (fun j => .int (f j)) A s s.heap) (q1 t1 : Nat) {c1 : ClassId} {n1 : Nat} {g : Nat → Int32} (ha1 : ws[q1]? = some (a, .inl (c1, n1, .inl g))) (ht1 : tys[t1]? = some (c1, .int))
    {sp dp n : Int32} (h1 : ¬ sp < 0) (h2 : ¬ dp < 0) (h3 : ¬ n < 0) (h4 : sp.toNatClampNeg + n.toNatClampNeg ≤ n0) (h5 : dp.toNatClampNeg + n.toNatClampNeg ≤ n1)
    (hframes : 1 ≤ R.frames) (hlocals : (rest.map fun v => v.category).sum + (nativeFrameWords "java/lang/System" "arraycopy" 5 + 11) ≤ R.locals) (hdg : decode cc pc = .ok (.invokestatic index, 3))
    (kk : ∀ (H1 : Heap) (locs1 : List Loc), va_P D cl (ws.set q1 (a, .inl (c1, n1, .inl (va_cpy f g sp.toNatClampNeg dp.toNatClampNeg n.toNatClampNeg)))) H1 → va_D A (ws.set q1 (a, .inl (c1, n1, .inl (va_cpy f g sp.toNatClampNeg dp.toNatClampNeg n.toNatClampNeg)))) → va_S A s.heap H1 locs1 → W p l e R s m args below meth c H1 locs1 cells slots Q (F0 m (pc + 3) ls rest)) : W p l e R s m args below meth c H locs cells slots Q (F0 m pc ls (.int n :: .int dp :: .ref a :: .int sp :: .ref b0 :: rest)) := by
  have nn : ∀ z : Int32, ¬ z < 0 → z.toInt = (z.toNatClampNeg : Int) := by
    intro z hz
    have hz0 : (0 : Int) ≤ z.toInt := by
      have := Int32.not_lt.mp hz
      simpa using Int32.le_iff_toInt_le.mp this
    show z.toInt = ((z.toInt.toNat : Nat) : Int)
    omega
  intro T hT X
  obtain ⟨scr, hs1, hs2, hs3, hs4, -, hs5, hbA⟩ := hX
  have hbl : b0 < s.heap.size := (Array.getElem?_eq_some_iff.mp hs1).1
  have hc0 : H[b0]? = some scr := by rw [hS.2.1 b0 hbl hbA]; exact hs1
  have hc1 : H[a]? = some (vp_cell c1 (n1, .inl g)) := hP q1 _ ha1
  obtain ⟨hs6, k0, hk0, cm0, hkk0⟩ := hs2
  obtain ⟨-, k1, hk1, cm1, hkk1⟩ := (hK.2 t1 _ ht1).1 n1 (fun j => .int (g j))
  obtain ⟨vm', X', step⟩ := X.arraycopy hexec hown hlink hnat hstat hini (src := b0) (dst := a) (cs := scr) (cd := vp_cell c1 (n1, .inl g)) (srcPos := sp) (destPos := dp) (n := n) (by rw [hT]; exact hc0) (by rw [hT]; exact hc1)
    hs6 (fun _ h => by cases h) hs3 (fun h => by cases h) hk0 hk1 hkk0 hkk1 (by simp [refKind]) h1 h2 h3
    (by rw [nn sp h1, nn n h3]; omega)
    (by rw [nn dp h2, nn n h3]; show ¬ _ > ((arrV c1 n1 (fun j => .int (g j))).slots.size : Int); rw [arrV_size]; omega)
    (fun vm₁ _ i hi => by
      have e : scr.slots.getD (sp.toNatClampNeg + i) .null = .int (f (sp.toNatClampNeg + i)) := by
        rw [Array.getD_eq_getD_getElem?, hs5 _ (by omega)]
        rfl
      refine ⟨?_, ?_⟩
      · rw [e]
        rfl
      · rw [e]
        exact trivial)
    (g := F0 m pc ls (.int n :: .int dp :: .ref a :: .int sp :: .ref b0 :: rest)) rfl (by rw [hml]) (rest := rest) rfl (by rw [hb]; exact hdg) hframes (by show 2 * 0 + _ + _ ≤ _; omega)
  have e1 : copied scr (vp_cell c1 (n1, .inl g)) sp dp n = vp_cell c1 (n1, .inl (va_cpy f g sp.toNatClampNeg dp.toNatClampNeg n.toNatClampNeg)) := va_copiedX (fun z => .int z) scr c1 f g hs5 h4
  rw [e1] at X' step
  have hl : a < H.size := (Array.getElem?_eq_some_iff.mp hc1).1
  have hheap : ((T.setVm vm').setCell a (vp_cell c1 (n1, .inl (va_cpy f g sp.toNatClampNeg dp.toNatClampNeg n.toNatClampNeg)))).heap = H.setIfInBounds a (vp_cell c1 (n1, .inl (va_cpy f g sp.toNatClampNeg dp.toNatClampNeg n.toNatClampNeg))) := by rw [← hT]; rfl
  have oq : ∀ q : Nat, q ≠ a → (H.setIfInBounds a (vp_cell c1 (n1, .inl (va_cpy f g sp.toNatClampNeg dp.toNatClampNeg n.toNatClampNeg))))[q]? = H[q]? := fun q hq => by simp [Array.getElem?_setIfInBounds, Ne.symm hq]
  obtain ⟨t, a1, b1⟩ := kk _ _ (hP.set hD ha1 (show (H.setIfInBounds a _)[a]? = some _ by simp [Array.getElem?_setIfInBounds, hl]) oq) (hD.set ha1) ⟨by simp; exact hS.1, fun q g1 g2 => by
      rw [oq q (fun e => g2 (by rw [e]; exact hD.2 q1 _ ha1))]
      exact hS.2.1 q g1 g2, fun q hq => by
      rcases List.mem_append.mp hq with h | h
      · exact hS.2.2 q h
      · obtain ⟨z, -, hz⟩ := List.mem_map.mp h
        rw [← hz]
        exact hD.2 q1 _ ha1⟩ _ hheap X'
  exact ⟨t, step t a1, b1⟩
end ZCOPY
section ZRULES4
variable {E : Nat × (Nat → Int32)} {y : zY} {pc q : Nat} {L L' : List (Option Value)} {st : List Value} {sh sh' : List zS} {m m' m1 : zM} {rv : Option Value}
/-- a stretch of a row is copied into another -/
def zcp (m : zM) (f : Nat → Int32) (a sp dp n : Nat) : zM := (fun b j => if b = a then va_cpy f (m.1 a) sp dp n j else m.1 b j, m.2)
theorem zcp_off (m : zM) (f : Nat → Int32) (a sp dp n : Nat) : ∀ i, i ≠ a → (zcp m f a sp dp n).1 i = m.1 i ∧ (zcp m f a sp dp n).2.1 i = m.2.1 i ∧ (zcp m f a sp dp n).2.2 i = m.2.2 i := fun i h => ⟨by funext j; simp [zcp, h], rfl, rfl⟩
/-- System.arraycopy(FIRST_SETTING, sp, n, dp, k) -/
theorem zi_copy {i n len b : Nat} {sp dp k : Int32} (hd : decode y.2.1 pc = .ok (.invokestatic i, 3)) (hw : Cond.methodLink y.1.cls i arraycopyName ∈ zALL) (hw1 : Cond.native arraycopyName ∈ zALL) (hw2 : Cond.static arraycopyName ∈ zALL) (hw3 : Cond.initialized "java/lang/System" ∈ zALL) (ho : sh[n]? = some (.inl (0, len, b))) (h1 : ¬ sp < 0) (h2 : ¬ dp < 0) (h3 : ¬ k < 0) (h4 : sp.toNatClampNeg + k.toNatClampNeg ≤ 9) (h5 : dp.toNatClampNeg + k.toNatClampNeg ≤ len) (hfr : 1 ≤ y.2.2.2.2.1) (hlo : 18 ≤ y.2.2.2.2.2) (hq : pc + 3 = q)
    (kk : Rn E y q L [] sh (zcp m (zxs 1003) n sp.toNatClampNeg dp.toNatClampNeg k.toNatClampNeg) rv sh' m') : Rn E y pc L [.int k, .int dp, .ref n, .int sp, .ref 1003] sh m rv sh' m' := by
  subst hq
  refine Rn.mw (fun p l e R s mid args below meth c D κ A ρ H locs cells slots ls Q C hl hP hD hS kk => ?_) kk
  have hlo2 : nativeFrameWords "java/lang/System" "arraycopy" 5 + 11 = 18 := by decide
  refine zcopyT C.1 C.2.1 (by rw [hl.1]; exact C.2.2.1) C.2.2.2.1 (C.2.2.2.2.1 _ hw) (C.2.2.2.2.1 _ hw1) (C.2.2.2.2.1 _ hw2) (C.2.2.2.2.1 _ hw3) C.2.2.2.2.2.1 hP hD hS (f := zxs 1003) C.2.2.2.2.2.2.2.2.2.1.2.2.2.2 n 0 (zw_get ho) rfl h1 h2 h3 h4 h5 (Nat.le_trans hfr C.2.2.2.2.2.2.2.2.2.2.1) (by rw [hlo2]; exact Nat.le_trans hlo C.2.2.2.2.2.2.2.2.2.2.2.1) hd (fun H1 locs1 hP1 hD1 hS1 => ?_)
  have e : (zw ρ κ m sh).set n (ρ n, .inl (κ 0, len, .inl (va_cpy (zxs 1003) (m.1 n) sp.toNatClampNeg dp.toNatClampNeg k.toNatClampNeg))) = zw ρ κ (zcp m (zxs 1003) n sp.toNatClampNeg dp.toNatClampNeg k.toNatClampNeg) sh := by
    rw [← zw_set ho (zcp_off m (zxs 1003) n sp.toNatClampNeg dp.toNatClampNeg k.toNatClampNeg)]
    show _ = (zw ρ κ m sh).set n (ρ n, .inl (κ 0, len, .inl ((zcp m (zxs 1003) n sp.toNatClampNeg dp.toNatClampNeg k.toNatClampNeg).1 n)))
    have hr : (zcp m (zxs 1003) n sp.toNatClampNeg dp.toNatClampNeg k.toNatClampNeg).1 n = va_cpy (zxs 1003) (m.1 n) sp.toNatClampNeg dp.toNatClampNeg k.toNatClampNeg := by
      funext j
      simp [zcp]
    rw [hr]
  rw [e] at hP1 hD1
  exact kk H1 locs1 hP1 hD1 hS1
end ZRULES4
