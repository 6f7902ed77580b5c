section ZRULES2
variable {E : Nat × (Nat → Int32)} {y : zY} {pc q : Nat} {L L' : List (Option Value)} {st : List Value} {sh sh' : List zS} {m m' m1 : zM} {rv : Option Value}
/-! stores to locals -/
/-- no long ends at this place -/
def znl (L : List (Option Value)) (i : Nat) : Bool := match i with
  | 0 => true
  | j + 1 => match L[j]? with
    | some (some v) => v.category == 1
    | _ => true
theorem znl_not {L : List (Option Value)} {i j : Nat} {v : Value} (h : znl L i = true) (hj : L[j]? = some (some v)) (e : j + 1 = i) : v.category = 1 := by
  subst e
  unfold znl at h
  simp only [hj] at h
  exact beq_iff_eq.mp h
theorem zL_set1 {ρ : Nat → Nat} {i : Nat} {v : Value} (hn : znl L i = true) (hL : L.set i (some v) = L') : ∀ q ∈ zL ρ L', q ∈ (i, zv ρ v) :: (zL ρ L).filter (fun q => !(q.1 == i) && !(q.1 + 1 == i && q.2.category == 2)) := by
  intro q hq
  obtain ⟨w, h1, h2⟩ := zL_mem.mp hq
  subst hL
  by_cases e : q.1 = i
  · have hlt : i < L.length := by
      have := (List.getElem?_eq_some_iff.mp h1).1
      rw [List.length_set] at this
      omega
    rw [e, List.getElem?_set_self hlt] at h1
    cases h1
    obtain ⟨a, b⟩ := q
    cases h2
    cases e
    exact List.mem_cons_self
  · rw [List.getElem?_set_ne (Ne.symm e)] at h1
    refine List.mem_cons_of_mem _ (List.mem_filter.mpr ⟨zL_mem.mpr ⟨w, h1, h2⟩, ?_⟩)
    simp only [Bool.and_eq_true, Bool.not_eq_true', beq_eq_false_iff_ne, ne_eq, Bool.and_eq_false_iff]
    refine ⟨e, ?_⟩
    by_cases e2 : q.1 + 1 = i
    · right
      rw [h2, zv_cat, znl_not hn h1 e2]
      decide
    · exact Or.inl e2
theorem zi_istoren {f : Fin 4} {x : Int32} (hd : decode y.2.1 pc = .ok (.istore_n f, 1)) (hn : (f : Nat) < y.2.2.1) (hz : znl L f = true) (hL : L.set f (some (.int x)) = L') (hq : pc + 1 = q) (k : Rn E y q L' st sh m rv sh' m') : Rn E y pc L (.int x :: st) sh m rv sh' m' := by
  subst hq
  exact Rn.loc (fun p l e R s mid args below meth c D κ A ρ H locs cells slots ls Q C hl k => lv_istore_n C.1 C.2.1 hd rfl hl hn rfl (fun ls' hl' => k ls' (lv_mono hl' (zL_set1 hz hL)))) k
theorem zi_istore {i : Nat} {x : Int32} (hd : decode y.2.1 pc = .ok (.istore i, 2)) (hn : i < y.2.2.1) (hz : znl L i = true) (hL : L.set i (some (.int x)) = L') (hq : pc + 2 = q) (k : Rn E y q L' st sh m rv sh' m') : Rn E y pc L (.int x :: st) sh m rv sh' m' := by
  subst hq
  exact Rn.loc (fun p l e R s mid args below meth c D κ A ρ H locs cells slots ls Q C hl k => lv_istore C.1 C.2.1 hd hl hn rfl (fun ls' hl' => k ls' (lv_mono hl' (zL_set1 hz hL)))) k
theorem zi_astoren {f : Fin 4} {a : Nat} (hd : decode y.2.1 pc = .ok (.astore_n f, 1)) (hn : (f : Nat) < y.2.2.1) (hz : znl L f = true) (hL : L.set f (some (.ref a)) = L') (hq : pc + 1 = q) (k : Rn E y q L' st sh m rv sh' m') : Rn E y pc L (.ref a :: st) sh m rv sh' m' := by
  subst hq
  exact Rn.loc (fun p l e R s mid args below meth c D κ A ρ H locs cells slots ls Q C hl k => lv_astore_n C.1 C.2.1 hd rfl hl hn rfl (fun ls' hl' => k ls' (lv_mono hl' (zL_set1 (v := .ref a) hz hL)))) k
theorem zi_astore {i a : Nat} (hd : decode y.2.1 pc = .ok (.astore i, 2)) (hn : i < y.2.2.1) (hz : znl L i = true) (hL : L.set i (some (.ref a)) = L') (hq : pc + 2 = q) (k : Rn E y q L' st sh m rv sh' m') : Rn E y pc L (.ref a :: st) sh m rv sh' m' := by
  subst hq
  exact Rn.loc (fun p l e R s mid args below meth c D κ A ρ H locs cells slots ls Q C hl k => lv_astore C.1 C.2.1 hd hl hn rfl (fun ls' hl' => k ls' (lv_mono hl' (zL_set1 (v := .ref a) hz hL)))) k
theorem zi_iinc {i : Nat} {n : Int} {x v : Int32} (hd : decode y.2.1 pc = .ok (.iinc i n, 3)) (hx : L[i]? = some (some (.int x))) (hv : x + Int32.ofInt n = v) (hn : i < y.2.2.1) (hz : znl L i = true) (hL : L.set i (some (.int v)) = L') (hq : pc + 3 = q) (k : Rn E y q L' st sh m rv sh' m') : Rn E y pc L st sh m rv sh' m' := by
  subst hq
  refine Rn.loc (fun p l e R s mid args below meth c D κ A ρ H locs cells slots ls Q C hl k => ?_) k
  obtain ⟨j, hj⟩ := List.getElem?_of_mem (zL_mem.mpr ⟨_, hx, rfl⟩ : (i, zv ρ (.int x)) ∈ zL ρ L)
  exact lv_iinc C.1 C.2.1 hd hl hj hv hn rfl (fun ls' hl' => k ls' (lv_mono hl' (zL_set1 hz hL)))
theorem zL_set2 {ρ : Nat → Nat} {i : Nat} {v : Value} (hn : znl L i = true) (hL : (L.set i (some v)).set (i + 1) none = L') : ∀ q ∈ zL ρ L', q ∈ (i, zv ρ v) :: (zL ρ L).filter (fun q => !(q.1 == i) && (!(q.1 == i + 1) && !(q.1 + 1 == i && q.2.category == 2))) := by
  intro q hq
  obtain ⟨w, h1, h2⟩ := zL_mem.mp hq
  subst hL
  have e3 : q.1 ≠ i + 1 := by
    intro e
    have hlt : i + 1 < (L.set i (some v)).length := by
      have := (List.getElem?_eq_some_iff.mp h1).1
      rw [List.length_set] at this
      omega
    rw [e, List.getElem?_set_self hlt] at h1
    cases h1
  rw [List.getElem?_set_ne (Ne.symm e3)] at h1
  by_cases e : q.1 = i
  · have hlt : i < L.length := by
      have := (List.getElem?_eq_some_iff.mp h1).1
      rw [List.length_set] at this
      omega
    rw [e, List.getElem?_set_self hlt] at h1
    cases h1
    obtain ⟨a, b⟩ := q
    cases h2
    cases e
    exact List.mem_cons_self
  · rw [List.getElem?_set_ne (Ne.symm e)] at h1
    refine List.mem_cons_of_mem _ (List.mem_filter.mpr ⟨zL_mem.mpr ⟨w, h1, h2⟩, ?_⟩)
    simp only [Bool.and_eq_true, Bool.not_eq_true', beq_eq_false_iff_ne, ne_eq, Bool.and_eq_false_iff]
    refine ⟨e, e3, ?_⟩
    by_cases e2 : q.1 + 1 = i
    · right
      rw [h2, zv_cat, znl_not hn h1 e2]
      decide
    · exact Or.inl e2
theorem zi_lstoren {f : Fin 4} {x : Int64} (hd : decode y.2.1 pc = .ok (.lstore_n f, 1)) (hn : (f : Nat) + 1 < y.2.2.1) (hz : znl L f = true) (hL : (L.set f (some (.long x))).set (f + 1) none = L') (hq : pc + 1 = q) (k : Rn E y q L' st sh m rv sh' m') : Rn E y pc L (.long x :: st) sh m rv sh' m' := by
  subst hq
  exact Rn.loc (fun p l e R s mid args below meth c D κ A ρ H locs cells slots ls Q C hl k => lv_lstore_n C.1 C.2.1 hd rfl hl hn rfl (fun ls' hl' => k ls' (lv_mono hl' (zL_set2 hz hL)))) k
/-! branches -/
theorem zi_goto {off : Int} (hd : decode y.2.1 pc = .ok (.goto off, 3)) (hq : (pc : Int) + off = (q : Int)) (k : Rn E y q L st sh m rv sh' m') : Rn E y pc L st sh m rv sh' m' :=
  Rn.go (fun p l e R s mid args below meth c D κ A ρ H locs cells slots ls Q C hl hP hS k => lv_goto C.1 C.2.1 hd hq k) k
variable {q2 : Nat} {off : Int} {a b : Int32}
theorem zi_ifeq (hd : decode y.2.1 pc = .ok (.ifCond .eq off, 3)) (hq : (pc : Int) + off = (q : Int)) (hq2 : pc + 3 = q2) (kt : a = 0 → Rn E y q L st sh m rv sh' m') (kf : ¬ a = 0 → Rn E y q2 L st sh m rv sh' m') : Rn E y pc L (.int a :: st) sh m rv sh' m' := by
  subst hq2
  exact Rn.br (fun p l e R s mid args below meth c D κ A ρ H locs cells slots ls Q C kt kf => lv_if_eq C.1 C.2.1 hd hq kt kf) kt kf
theorem zi_ifne (hd : decode y.2.1 pc = .ok (.ifCond .ne off, 3)) (hq : (pc : Int) + off = (q : Int)) (hq2 : pc + 3 = q2) (kt : ¬ a = 0 → Rn E y q L st sh m rv sh' m') (kf : a = 0 → Rn E y q2 L st sh m rv sh' m') : Rn E y pc L (.int a :: st) sh m rv sh' m' := by
  subst hq2
  exact Rn.br (c0 := ¬ a = 0) (fun p l e R s mid args below meth c D κ A ρ H locs cells slots ls Q C kt kf => lv_if_ne C.1 C.2.1 hd hq kt (fun h => kf (fun n => n h))) kt (fun h => kf (Classical.not_not.mp h))
theorem zi_iflt (hd : decode y.2.1 pc = .ok (.ifCond .lt off, 3)) (hq : (pc : Int) + off = (q : Int)) (hq2 : pc + 3 = q2) (kt : a < 0 → Rn E y q L st sh m rv sh' m') (kf : ¬ a < 0 → Rn E y q2 L st sh m rv sh' m') : Rn E y pc L (.int a :: st) sh m rv sh' m' := by
  subst hq2
  exact Rn.br (fun p l e R s mid args below meth c D κ A ρ H locs cells slots ls Q C kt kf => lv_if_lt C.1 C.2.1 hd hq kt kf) kt kf
theorem zi_ifge (hd : decode y.2.1 pc = .ok (.ifCond .ge off, 3)) (hq : (pc : Int) + off = (q : Int)) (hq2 : pc + 3 = q2) (kt : 0 ≤ a → Rn E y q L st sh m rv sh' m') (kf : ¬ 0 ≤ a → Rn E y q2 L st sh m rv sh' m') : Rn E y pc L (.int a :: st) sh m rv sh' m' := by
  subst hq2
  exact Rn.br (fun p l e R s mid args below meth c D κ A ρ H locs cells slots ls Q C kt kf => lv_if_ge C.1 C.2.1 hd hq kt kf) kt kf
theorem zi_ifgt (hd : decode y.2.1 pc = .ok (.ifCond .gt off, 3)) (hq : (pc : Int) + off = (q : Int)) (hq2 : pc + 3 = q2) (kt : 0 < a → Rn E y q L st sh m rv sh' m') (kf : ¬ 0 < a → Rn E y q2 L st sh m rv sh' m') : Rn E y pc L (.int a :: st) sh m rv sh' m' := by
  subst hq2
  exact Rn.br (fun p l e R s mid args below meth c D κ A ρ H locs cells slots ls Q C kt kf => lv_if_gt C.1 C.2.1 hd hq kt kf) kt kf
theorem zi_ifle (hd : decode y.2.1 pc = .ok (.ifCond .le off, 3)) (hq : (pc : Int) + off = (q : Int)) (hq2 : pc + 3 = q2) (kt : a ≤ 0 → Rn E y q L st sh m rv sh' m') (kf : ¬ a ≤ 0 → Rn E y q2 L st sh m rv sh' m') : Rn E y pc L (.int a :: st) sh m rv sh' m' := by
  subst hq2
  exact Rn.br (fun p l e R s mid args below meth c D κ A ρ H locs cells slots ls Q C kt kf => lv_if_le C.1 C.2.1 hd hq kt kf) kt kf
theorem zi_icmpeq (hd : decode y.2.1 pc = .ok (.if_icmp .eq off, 3)) (hq : (pc : Int) + off = (q : Int)) (hq2 : pc + 3 = q2) (kt : a = b → Rn E y q L st sh m rv sh' m') (kf : ¬ a = b → Rn E y q2 L st sh m rv sh' m') : Rn E y pc L (.int b :: .int a :: st) sh m rv sh' m' := by
  subst hq2
  exact Rn.br (fun p l e R s mid args below meth c D κ A ρ H locs cells slots ls Q C kt kf => lv_icmp_eq C.1 C.2.1 hd hq kt kf) kt kf
theorem zi_icmpne (hd : decode y.2.1 pc = .ok (.if_icmp .ne off, 3)) (hq : (pc : Int) + off = (q : Int)) (hq2 : pc + 3 = q2) (kt : ¬ a = b → Rn E y q L st sh m rv sh' m') (kf : a = b → Rn E y q2 L st sh m rv sh' m') : Rn E y pc L (.int b :: .int a :: st) sh m rv sh' m' := by
  subst hq2
  exact Rn.br (c0 := ¬ a = b) (fun p l e R s mid args below meth c D κ A ρ H locs cells slots ls Q C kt kf => lv_icmp_ne C.1 C.2.1 hd hq kt (fun h => kf (fun n => n h))) kt (fun h => kf (Classical.not_not.mp h))
theorem zi_icmplt (hd : decode y.2.1 pc = .ok (.if_icmp .lt off, 3)) (hq : (pc : Int) + off = (q : Int)) (hq2 : pc + 3 = q2) (kt : a < b → Rn E y q L st sh m rv sh' m') (kf : ¬ a < b → Rn E y q2 L st sh m rv sh' m') : Rn E y pc L (.int b :: .int a :: st) sh m rv sh' m' := by
  subst hq2
  exact Rn.br (fun p l e R s mid args below meth c D κ A ρ H locs cells slots ls Q C kt kf => lv_icmp_lt C.1 C.2.1 hd hq kt kf) kt kf
theorem zi_icmpge (hd : decode y.2.1 pc = .ok (.if_icmp .ge off, 3)) (hq : (pc : Int) + off = (q : Int)) (hq2 : pc + 3 = q2) (kt : b ≤ a → Rn E y q L st sh m rv sh' m') (kf : ¬ b ≤ a → Rn E y q2 L st sh m rv sh' m') : Rn E y pc L (.int b :: .int a :: st) sh m rv sh' m' := by
  subst hq2
  exact Rn.br (fun p l e R s mid args below meth c D κ A ρ H locs cells slots ls Q C kt kf => lv_icmp_ge C.1 C.2.1 hd hq kt kf) kt kf
theorem zi_icmpgt (hd : decode y.2.1 pc = .ok (.if_icmp .gt off, 3)) (hq : (pc : Int) + off = (q : Int)) (hq2 : pc + 3 = q2) (kt : b < a → Rn E y q L st sh m rv sh' m') (kf : ¬ b < a → Rn E y q2 L st sh m rv sh' m') : Rn E y pc L (.int b :: .int a :: st) sh m rv sh' m' := by
  subst hq2
  exact Rn.br (fun p l e R s mid args below meth c D κ A ρ H locs cells slots ls Q C kt kf => lv_icmp_gt C.1 C.2.1 hd hq kt kf) kt kf
theorem zi_icmple (hd : decode y.2.1 pc = .ok (.if_icmp .le off, 3)) (hq : (pc : Int) + off = (q : Int)) (hq2 : pc + 3 = q2) (kt : a ≤ b → Rn E y q L st sh m rv sh' m') (kf : ¬ a ≤ b → Rn E y q2 L st sh m rv sh' m') : Rn E y pc L (.int b :: .int a :: st) sh m rv sh' m' := by
  subst hq2
  exact Rn.br (fun p l e R s mid args below meth c D κ A ρ H locs cells slots ls Q C kt kf => lv_icmp_le C.1 C.2.1 hd hq kt kf) kt kf
/-- a table switch, at a number that it has -/
theorem zi_tsIn {dflt lo hi : Int} {offs : Array Int} {len : Nat} {x : Int32} {j : Nat} (hd : decode y.2.1 pc = .ok (.tableswitch dflt lo hi offs, len)) (hx : x.toInt = lo + j) (h2 : lo + j ≤ hi) (ho : offs[j]? = some off) (hq : (pc : Int) + off = (q : Int)) (k : Rn E y q L st sh m rv sh' m') : Rn E y pc L (.int x :: st) sh m rv sh' m' :=
  Rn.go (fun p l e R s mid args below meth c D κ A ρ H locs cells slots ls Q C hl hP hS k => lv_tableIn C.1 C.2.1 hd (by omega) (by omega) (by rw [show (x.toInt - lo).toNat = j by omega]; exact ho) hq k) k
/-- a table switch, at a number that it hasn't -/
theorem zi_tsOut {dflt lo hi : Int} {offs : Array Int} {len : Nat} {x : Int32} (hd : decode y.2.1 pc = .ok (.tableswitch dflt lo hi offs, len)) (hx : x.toInt < lo ∨ hi < x.toInt) (hq : (pc : Int) + dflt = (q : Int)) (k : Rn E y q L st sh m rv sh' m') : Rn E y pc L (.int x :: st) sh m rv sh' m' :=
  Rn.go (fun p l e R s mid args below meth c D κ A ρ H locs cells slots ls Q C hl hP hS k => lv_tableOut C.1 C.2.1 hd hx hq k) k
/-! returns -/
theorem zi_ret (rv : Option Value) (hd : zret y.2.1 pc rv) : Rn E y pc L rv.toList sh m rv sh m := by
  refine ⟨Nat.le_refl _, Nat.le_refl _, fun p l e R s mid args below meth c D κ A ρ H locs cells slots ls Q C hl hP hD hS hc hs kk => ?_⟩
  have h : rv.toList.map (zv ρ) = rv.toList := by
    match rv, hd with
    | none, _ => rfl
    | some (.int _), _ => rfl
    | some (.long _), _ => rfl
  rw [h]
  exact kk ρ H locs ls pc cells slots ⟨fun _ _ => rfl, fun _ => rfl⟩ hd hP hD hS rfl rfl
/-! fields -/
/-- field k of the objects of number ci, of kind t, linked at the place i of the pool of the class own -/
def zfl (own : String) (i ci k t : Nat) : Prop := ∃ q : vw_C, vwCl[ci]? = some q ∧ k < zn ci ∧ ztk (zty ci k) = t ∧ Cond.fieldLink own i (q.2.1 k).1 (q.2.1 k).2.1 (q.2.1 k).2.2.1 ∈ zALL
theorem zi_get {i ci k t n : Nat} {rs : List (Option Nat)} {v : Value} (hd : decode y.2.1 pc = .ok (.getfield i, 3)) (hf : zfl y.1.cls i ci k t) (ho : sh[n]? = some (.inr (ci, rs))) (hv : ∀ ρ : Nat → Nat, zfv ρ m n rs k t = zv ρ v) (hq : pc + 3 = q) (kk : Rn E y q L (v :: st) sh m rv sh' m') : Rn E y pc L (.ref n :: st) sh m rv sh' m' := by
  subst hq
  obtain ⟨r, h1, h2, h3, h4⟩ := hf
  obtain ⟨g1, g2, g3, g4⟩ := zcl ci r h1
  subst h3
  exact Rn.go (fun p l e R s mid args below meth c D κ A ρ H locs cells slots ls Q C hl hP hS kk => va_get (C := r.1) (T := r.2.1) (N := r.2.2) C.1 C.2.1 C.2.2.2.2.1 g2 C.2.2.2.1 C.2.2.2.2.2.1 hP n (zw_get ho) h1 k (by rw [g1]; exact h2) (C.2.2.2.2.1 _ h4) (fun _ h => h) (by rw [zfs_get h2, hv ρ]) hd kk) kk
theorem zi_getI {i ci k t n : Nat} {rs : List (Option Nat)} (hd : decode y.2.1 pc = .ok (.getfield i, 3)) (hf : zfl y.1.cls i ci k t) (ht : t < 2) (ho : sh[n]? = some (.inr (ci, rs))) (hq : pc + 3 = q) (kk : Rn E y q L (.int (m.1 n k) :: st) sh m rv sh' m') : Rn E y pc L (.ref n :: st) sh m rv sh' m' :=
  zi_get hd hf ho (fun ρ => by rcases (show t = 0 ∨ t = 1 by omega) with rfl | rfl <;> rfl) hq kk
theorem zi_getJ {i ci k n : Nat} {rs : List (Option Nat)} (hd : decode y.2.1 pc = .ok (.getfield i, 3)) (hf : zfl y.1.cls i ci k 2) (ho : sh[n]? = some (.inr (ci, rs))) (hq : pc + 3 = q) (kk : Rn E y q L (.long (m.2.1 n k) :: st) sh m rv sh' m') : Rn E y pc L (.ref n :: st) sh m rv sh' m' :=
  zi_get hd hf ho (fun ρ => rfl) hq kk
theorem zi_getA {i ci k n r : Nat} {rs : List (Option Nat)} (hd : decode y.2.1 pc = .ok (.getfield i, 3)) (hf : zfl y.1.cls i ci k 3) (ho : sh[n]? = some (.inr (ci, rs))) (hr : rs.getD k none = some r) (hq : pc + 3 = q) (kk : Rn E y q L (.ref r :: st) sh m rv sh' m') : Rn E y pc L (.ref n :: st) sh m rv sh' m' :=
  zi_get hd hf ho (fun ρ => by show va_rf ((rs.getD k none).map ρ) = _; rw [hr]; rfl) hq kk
end ZRULES2
