/-! THE CLAIM OUT OF ONE WALK OF THE LAW'S BODY. Your part is whole_start (and what it stands on); all else here is the same for every law, but numbers. -/
def R_law : String := "FeltGlassLaw"
def lw_P (b : Addr) (xs : List Int32) (args : Array Value) (s : State) : Prop := args = #[.ref b] ∧ s.IntsAt b xs ∧ xs.length ≤ 1536 ∧ (Jvm.Cond.and given_1 narrow_1).before args s = true
def lw_Q (_ : Array Value) (s : State) (o : Outcome) (t : State) : Prop := o = .returned (some (.int 1)) ∧ Framed s o t [] 600000 7302250
def lw_Z (below : List Frame) (a : Array Value) (s : State) : State → Prop := fun t => ∃ o, t.status = .running ∧ Ended t below o ∧ lw_Q a s o t
/-- the law's own end, with 1 on the stack, nothing written that was there before, its room as the claim has it -/
theorem lw_ret {p : Program} {l : Launch} {e : Env} {s : State} {m : MethodId} {below : List Frame} {meth : Method} {c : Code} {b : Nat} (hx : p.tables.exec = Jvm.exec) (hb : c.code = code) (hr : meth.sig.returnType = ret) (hlocks : meth.locks = false) {pc : Nat} {H : Heap} {ls : Array Slot} (hdg : decode code pc = .ok (.ireturn, 1)) : W p l e room_1 s m #[Value.ref b] below meth c H [] 600000 7302250 (lw_Z below #[Value.ref b] s) (F0 m pc ls [.int 1]) := by
  intro T hT X
  obtain ⟨fs, hret, hrun, hended, hW, hframe⟩ := X.leave (v := some (.int 1)) (hlocks := hlocks) (fun h => by rw [hr] at h; cases h)
  have hmeth' : T.vm.method? m = some meth := X.method'
  refine ⟨T.setFrames fs, ?_, .returned (some (.int 1)), hrun, hended, rfl, ⟨_, rfl⟩, hW, hframe⟩
  jvm_step X.here [X.here.top, hx, hb, hdg, hmeth', hr, ret, narrow_b1]
  (try refine ⟨rfl, ?_⟩); (try refine ⟨rfl, ?_⟩)
  first | (intro acts; rw [hret _ acts rfl rfl rfl]) | rw [hret _ _ rfl rfl rfl]
  exact Steps.refl _
/-- what holds at the law's entry: the machine, the code, the tables' words (any of lw_tbl by 'hts w (by decide +kernel)'), the script of L ints xs at the cell b, what the Statement gives of the start (any of its parts by flat_of_before) -/
def lw_At (p : Program) (s : State) (m : MethodId) (meth : Method) (c : Code) (b L : Nat) (xs : Nat → Int32) : Prop :=
  p.tables.exec = Jvm.exec ∧ c.code = code ∧ meth.sig.returnType = ret ∧ c.maxLocals = 4 ∧ s.vm.findClass R_law = some m.cls ∧ (∀ w ∈ lw_tbl, w.before #[Value.ref b] s = true) ∧ va_X b L xs s s.heap ∧ b < s.heap.size ∧ meth.locks = false ∧ (Jvm.Cond.and given_1 narrow_1).before #[Value.ref b] s = true
set_option maxRecDepth 20000 in
theorem law_entry {E : Nat × (Nat → Int32)} {m' : zM} (h : f_L_law E 0 zm0 = some (true, m')) : Rn E zL_law 0 [some (.ref 1000), none, none, none] [] [] zm0 (some (.int 1)) zSH m' := by
  refine zi_new0 (q := 3) (ci := 11) (n := 0) dL_law_0 rfl k1_17 k1_18 k1_1 (by decide +kernel) (by decide +kernel) (by decide +kernel) (by decide +kernel) rfl ?_
  refine zi_dup (q := 4) dL_law_3 rfl rfl ?_
  show Rn E zL_law 4 [some (.ref 1000), none, none, none] [.ref 0, .ref 0] zc_0 zm0 (some (.int 1)) zSH m'
  refine zc_I (q := 7) (st := [.ref 0]) rc_13 rfl dL_law_4 cb_X11_init k1_19 k1_20 rfl ⟨by decide, by decide⟩ rfl (Nat.le_of_ble_eq_true rfl) (Or.inr (by decide +kernel)) rfl ?_
  refine zi_astoren (q := 8) (L' := [some (.ref 1000), some (.ref 0), none, none]) dL_law_7 (by decide) rfl rfl rfl ?_
  refine zi_new0 (q := 11) (ci := 12) (n := 68) dL_law_8 rfl k4_126 k4_127 k1_13 (by decide +kernel) (by decide +kernel) (by decide +kernel) (by decide +kernel) rfl ?_
  refine zi_dup (q := 12) dL_law_11 rfl rfl ?_
  show Rn E zL_law 12 [some (.ref 1000), some (.ref 0), none, none] [.ref 68, .ref 68] zc_73 zm0 (some (.int 1)) zSH m'
  refine zc_I (q := 15) (st := [.ref 68]) rc_14 rfl dL_law_12 cb_X12_init k4_128 k4_129 rfl ⟨by decide, by decide⟩ rfl (Nat.le_of_ble_eq_true rfl) (Or.inr (by decide +kernel)) rfl ?_
  refine zi_astoren (q := 16) (L' := [some (.ref 1000), some (.ref 0), some (.ref 68), none]) dL_law_15 (by decide) rfl rfl rfl ?_
  refine zi_iconst (q := 17) (v := 0) dL_law_16 (by decide) rfl ?_
  refine zi_istoren (q := 18) (L' := [some (.ref 1000), some (.ref 0), some (.ref 68), some (.int 0)]) dL_law_17 (by decide) rfl rfl rfl ?_
  exact r_L_law (E := E) 0 zm0 (true, m') h
theorem zinst : ∀ (c : Nat) (q : vw_C), vwCl[c]? = some q → Cond.instantiable q.1 q.2.2 ∈ zALL := by
  intro c q h
  match c, h with
  | 0, h => cases h; exact k1_151
  | 1, h => cases h; exact k1_107
  | 2, h => cases h; exact k1_32
  | 3, h => cases h; exact k1_227
  | 4, h => cases h; exact k1_77
  | 5, h => cases h; exact k1_26
  | 6, h => cases h; exact k1_171
  | 7, h => cases h; exact k1_101
  | 8, h => cases h; exact k2_19
  | 9, h => cases h; exact k1_191
  | 10, h => cases h; exact k2_70
  | 11, h => cases h; exact k1_18
  | 12, h => cases h; exact k4_127
  | c + 13, h => simp [vwCl] at h
theorem zT_of {args : Array Value} {s : State} {A : Nat → Prop} (nm : String) (vs : Nat → Int32) (harr : (Cond.arrayOf (.static "FeltGlass" nm "[I") .int).before args s = true) (hlen : (Cond.eq (.length (.static "FeltGlass" nm "[I")) (.int 9)).before args s = true) (hel : ∀ j, j < 9 → (Cond.eq (.elem (.static "FeltGlass" nm "[I") (.int (Int32.ofNat j))) (.int (vs j))).before args s = true) (hl : (Cond.laysStatic "FeltGlass" nm "[I").before args s = true) (hini : (Cond.initialized "FeltGlass").before args s = true) (hA : ∀ a : Nat, a < s.heap.size → ¬ A a) : ∃ t, va_Z "FeltGlass" nm "[I" (.ref t) A s s.heap ∧ va_T .int t 9 (fun j => .int (vs j)) A s s.heap := by
  obtain ⟨t, h1, h2⟩ := va_Tof (N := 9) (f := fun j => .int (vs j)) (by decide) harr (va_eqt hlen) (fun j hj => va_eqt (hel j hj)) hA
  exact ⟨t, va_Zref hl hini h1 hA, h2⟩
theorem z9 {P : Nat → Prop} (h0 : P 0) (h1 : P 1) (h2 : P 2) (h3 : P 3) (h4 : P 4) (h5 : P 5) (h6 : P 6) (h7 : P 7) (h8 : P 8) : ∀ j, j < 9 → P j := by
  intro j hj
  rcases (show j = 0 ∨ j = 1 ∨ j = 2 ∨ j = 3 ∨ j = 4 ∨ j = 5 ∨ j = 6 ∨ j = 7 ∨ j = 8 by omega) with rfl | rfl | rfl | rfl | rfl | rfl | rfl | rfl | rfl <;> assumption
set_option maxHeartbeats 4000000 in
set_option maxRecDepth 100000 in
theorem start_of {p : Program} {e : Env} {s : State} {m : MethodId} {below : List Frame} {meth : Method} {c : Code} (l : Launch) {b L : Nat} {xs : Nat → Int32} {mE : zM} (hpure : f_L_law (L, xs) 0 zm0 = some (true, mE)) (C0 : lw_At p s m meth c b L xs) : W p l e room_1 s m #[Value.ref b] below meth c s.heap [] 0 0 (lw_Z below #[Value.ref b] s) (entryFrame m ([Value.ref b] : List Value).toArray 4) := by
  obtain ⟨hx, hb, hr, hml, hown, hts, hX, hbl, hlocks, hgv⟩ := id C0
  have hA : ∀ q : Nat, s.heap.size ≤ q → (fun q : Nat => s.heap.size ≤ q) q := fun _ h => h
  have hbA : ¬ (fun q : Nat => s.heap.size ≤ q) b := Nat.not_le.mpr hbl
  have hAn : ∀ a : Nat, a < s.heap.size → ¬ (fun q : Nat => s.heap.size ≤ q) a := fun a h => Nat.not_le.mpr h
  have hta : ∀ w ∈ zALL, w.before #[Value.ref b] s = true := fun w h => hts w (zALL_in w h)
  have hs := flat_of_before _ hgv
  have hini : (Cond.initialized "FeltGlass").before #[Value.ref b] s = true := hta _ k1_1
  obtain ⟨t1, z1, y1⟩ := zT_of (A := fun q : Nat => s.heap.size ≤ q) "LEAST_SETTING" (zxs 1001) (hs _ (by decide +kernel)) (hs _ (by decide +kernel)) (z9 (hs _ (by decide +kernel)) (hs _ (by decide +kernel)) (hs _ (by decide +kernel)) (hs _ (by decide +kernel)) (hs _ (by decide +kernel)) (hs _ (by decide +kernel)) (hs _ (by decide +kernel)) (hs _ (by decide +kernel)) (hs _ (by decide +kernel))) (hts _ (zU3 84 rfl)) hini hAn
  obtain ⟨t2, z2, y2⟩ := zT_of (A := fun q : Nat => s.heap.size ≤ q) "MOST_SETTING" (zxs 1002) (hs _ (by decide +kernel)) (hs _ (by decide +kernel)) (z9 (hs _ (by decide +kernel)) (hs _ (by decide +kernel)) (hs _ (by decide +kernel)) (hs _ (by decide +kernel)) (hs _ (by decide +kernel)) (hs _ (by decide +kernel)) (hs _ (by decide +kernel)) (hs _ (by decide +kernel)) (hs _ (by decide +kernel))) (hts _ (zU3 86 rfl)) hini hAn
  obtain ⟨t3, z3, y3⟩ := zT_of (A := fun q : Nat => s.heap.size ≤ q) "FIRST_SETTING" (zxs 1003) (hs _ (by decide +kernel)) (hs _ (by decide +kernel)) (z9 (hs _ (by decide +kernel)) (hs _ (by decide +kernel)) (hs _ (by decide +kernel)) (hs _ (by decide +kernel)) (hs _ (by decide +kernel)) (hs _ (by decide +kernel)) (hs _ (by decide +kernel)) (hs _ (by decide +kernel)) (hs _ (by decide +kernel))) (hts _ (zU3 38 rfl)) hini hAn
  obtain ⟨c0, k0, m0, i1, i2, i3⟩ := Cond.arrayClass_spec (type := .int) (hta _ k1_51)
  obtain ⟨c1, k1, m1, i4, i5, i6⟩ := Cond.arrayClass_spec (type := .boolean) (hta _ k1_52)
  have hover : va_AOA .int s := hts _ (zU2 25 rfl)
  obtain ⟨c3, c2, k2, i7, -, i8, i9, i10⟩ := Jvm.Stand.arrayOver_specB hover
  have e03 : c3 = c0 := Option.some.inj (i7.symm.trans i1)
  subst e03
  have hKc : ∀ k : Nat, ∃ d : ClassId × (Nat → Nat), ∀ q : vw_C, vwCl[k]? = some q → u_Kn s q.1 q.2.1 q.2.2 d.1 d.2 := by
    intro k
    cases hk : vwCl[k]? with
    | none => exact ⟨(c3, fun _ => 0), fun q h => by cases h⟩
    | some q =>
      obtain ⟨g1, g2, g3, g4⟩ := zcl k q hk
      obtain ⟨cC, iS, hKn⟩ := u_known (C := q.1) (T := q.2.1) (N := q.2.2) (n := q.2.2) hta g2 (hta _ (zinst k q hk))
      exact ⟨(cC, iS), fun q2 h => by cases h; exact hKn⟩
  let κ : Nat → ClassId := fun i => if i = 0 then c3 else if i = 1 then c1 else c2
  have hK : va_K (fun k => (Classical.choose (hKc k)).1, fun k => (Classical.choose (hKc k)).2) vwCl (zt κ) s := by
    refine ⟨fun k q h => Classical.choose_spec (hKc k) q h, fun k q h => ?_⟩
    match k, h with
    | 0, h => cases h; exact ⟨fun _ _ => ⟨fun _ hq => (by cases hq), k0, i2, m0, i3⟩, i1⟩
    | 1, h => cases h; exact ⟨fun _ _ => ⟨fun _ hq => (by cases hq), k1, i5, m1, i6⟩, i4⟩
    | 2, h => cases h; exact ⟨fun _ _ => ⟨fun _ hq => (by cases hq), k2, i8, c3, i9⟩, i10⟩
    | k + 3, h => simp [zt] at h
  have hQ : zQ κ s := ⟨k2, i8, i9⟩
  let ρ : Nat → Nat := fun i => if i = 1000 then b else if i = 1001 then t1 else if i = 1002 then t2 else t3
  have hN : zNw s := by
    refine ⟨?_, va_Nw.of rfl (hts _ (zU3 37 rfl)), hover⟩
    show ∀ q ∈ zNm, _
    exact (List.forall_mem_cons.mpr ⟨va_Nw.of rfl (hts _ (zU1 27 rfl)), (List.forall_mem_cons.mpr ⟨va_Nw.of rfl (hts _ (zU1 33 rfl)), (List.forall_mem_cons.mpr ⟨va_Nw.of rfl (hts _ (zU1 78 rfl)), (List.forall_mem_cons.mpr ⟨va_Nw.of rfl (hts _ (zU1 108 rfl)), (List.forall_mem_cons.mpr ⟨va_Nw.of rfl (hts _ (zU1 149 rfl)), (List.forall_mem_cons.mpr ⟨va_Nw.of rfl (hts _ (zU1 152 rfl)), (List.forall_mem_cons.mpr ⟨va_Nw.of rfl (hts _ (zU1 172 rfl)), (List.forall_mem_cons.mpr ⟨va_Nw.of rfl (hts _ (zU2 209 rfl)), (List.forall_mem_cons.mpr ⟨va_Nw.of rfl (hts _ (zU3 60 rfl)), (List.forall_mem_cons.mpr ⟨va_Nw.of rfl (hts _ (zU3 238 rfl)), (fun _ h => absurd h List.not_mem_nil)⟩)⟩)⟩)⟩)⟩)⟩)⟩)⟩)⟩)⟩)
  have hXX : zX (L, xs) ρ (fun q : Nat => s.heap.size ≤ q) s := ⟨⟨hX, hbl, hbA⟩, ⟨z1, y1⟩, ⟨z2, y2⟩, z3, y3⟩
  have hP : va_P (fun k => (Classical.choose (hKc k)).1, fun k => (Classical.choose (hKc k)).2) vwCl (zw ρ κ zm0 []) s.heap := fun k q h => by simp [zw] at h
  have hD : va_D (fun q : Nat => s.heap.size ≤ q) (zw ρ κ zm0 []) := ⟨fun i j p q h => by simp [zw] at h, fun k q h => by simp [zw] at h⟩
  have hl := lv_entry ([.ref b]) (n := 4) (Nat.le_of_ble_eq_true rfl)
  rw [lg_entry_eq]
  generalize (lg_sl ([.ref b]) ++ List.replicate (4 - (lg_sl ([.ref b])).length) Slot.unset).toArray = ls at hl ⊢
  have hl2 : lv_has ls 4 (zL ρ [some (.ref 1000), none, none, none]) := lv_mono hl (fun q hq => by
    obtain ⟨v, h1, h2⟩ := zL_mem.mp hq
    obtain ⟨i, w⟩ := q
    match i, h1 with
    | 0, h1 => cases h1; cases h2; exact List.mem_cons_self
    | 1, h1 => cases h1
    | 2, h1 => cases h1
    | 3, h1 => cases h1
    | i + 4, h1 => cases h1)
  have E := law_entry hpure
  refine E.2.2 p l e room_1 s m #[Value.ref b] below meth c (fun k => (Classical.choose (hKc k)).1, fun k => (Classical.choose (hKc k)).2) κ (fun q : Nat => s.heap.size ≤ q) ρ s.heap [] 0 0 ls (lw_Z below #[Value.ref b] s) ⟨hx, hb, hml, hown, hta, hK, hQ, hA, hN, hXX, Nat.le_refl _, Nat.le_refl _, fun h => absurd h (by decide)⟩ hl2 hP hD va_S.rf (by decide +kernel) (by decide +kernel) ?_
  intro ρ' H' locs' ls' pc' cells' slots' hsm hret hP' hD' hS' hc2 hs2
  have hc3 : cells' ≤ 600000 := by
    have e1 : zSH.length = 104 := rfl
    have e2 : ([] : List zS).length = 0 := rfl
    rw [e1, e2] at hc2
    omega
  have hs3 : slots' ≤ 7302250 := by
    have e1 : zsz zSH = 4083 := rfl
    have e2 : zsz [] = 0 := rfl
    rw [e1, e2] at hs2
    omega
  refine va_forget (fun q hq => hS'.2.2 q hq) ?_
  refine W.widen hc3 hs3 ?_
  exact lw_ret hx hb hr hlocks hret
