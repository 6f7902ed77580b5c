/-! ===== BEGIN new T[n][m]: the outer array a place, the inner ones among the pooled ===== -/
/-- f, but v at every address of l -/
def vr_up {α : Type} (f : Nat → α) (l : List Nat) (v : α) : Nat → α := fun a => if a ∈ l then v else f a
theorem vr_up_in {α : Type} {f : Nat → α} {l : List Nat} {v : α} {a : Nat} (h : a ∈ l) : vr_up f l v a = v := if_pos h
theorem vr_up_ne {α : Type} {f : Nat → α} {l : List Nat} {v : α} {a : Nat} (h : a ∉ l) : vr_up f l v a = f a := if_neg h
theorem vr_rows {L l : List Nat} {f : Nat → va_E} {e : va_E} (h : ∀ a, a ∈ l → a ∉ L) : va_pl L f ++ l.map (fun a => (a, e)) = va_pl (L ++ l) (vr_up f l e) := by
  unfold va_pl
  rw [List.map_append]
  congr 1
  · apply List.map_congr_left
    intro a ha
    rw [vr_up_ne (fun q => h a q ha)]
  · apply List.map_congr_left
    intro a ha
    rw [vr_up_in ha]
theorem vr_lay {X rows : va_W} {x : Nat × va_E} {pl : va_W} {D : va_G} {cl : List vw_C} {H : Heap} (hP : va_P D cl (((X ++ pl) ++ [x]) ++ rows) H) : va_P D cl ((X ++ [x]) ++ (pl ++ rows)) H := by
  rw [List.append_assoc (X ++ pl)] at hP
  have h := va_P.swap hP
  rw [← List.append_assoc X] at h
  have h2 := va_P.swap h
  rw [List.append_assoc (X ++ [x])] at h2
  exact h2
theorem vr_layD {X rows : va_W} {x : Nat × va_E} {pl : va_W} {A : Nat → Prop} (hD : va_D A (((X ++ pl) ++ [x]) ++ rows)) : va_D A ((X ++ [x]) ++ (pl ++ rows)) := by
  rw [List.append_assoc (X ++ pl)] at hD
  have h := va_D.swap hD
  rw [← List.append_assoc X] at h
  have h2 := va_D.swap h
  rw [List.append_assoc (X ++ [x])] at h2
  exact h2
theorem vr_outer (c : ClassId) (N h0 : Nat) : ∀ i : Nat, Jvm.Free.Multi.outerC c N h0 i = arrV c N (fun j => va_rf (if j < i then some (h0 + 1 + j) else none))
  | 0 => by
    show ({ cls := c, slots := Array.replicate N .null, vm := .none } : Cell) = _
    rw [arrV_new]
    refine congrArg (arrV c N) (funext fun j => ?_)
    simp [va_rf]
  | i + 1 => by
    show (Jvm.Free.Multi.outerC c N h0 i).setSlot i (.ref (h0 + 1 + i)) = _
    rw [vr_outer c N h0 i, arrV_store]
    refine congrArg (arrV c N) (funext fun j => ?_)
    by_cases e : j = i
    · subst e
      simp [updV, va_rf]
    · by_cases h : j < i
      · simp [updV, e, h, Nat.lt_succ_of_lt h]
      · simp [updV, e, h, show ¬ j < i + 1 by omega]
section VGM
variable {p : Program} {l : Launch} {e : Env} {R : Room} {s : State} {m : MethodId} {args : Array Value} {below : List Frame} {meth : Method} {c : Code} {H : Heap} {locs : List Loc} {cells slots : Nat} {Q : State → Prop}
variable {cc : ByteArray} {pc : Nat} {ls : Array Slot} {rest : List Value} {D : va_G} {cl : List vw_C} {A : Nat → Prop} {a : Nat} {tys : List (ClassId × FieldType)} {ws : va_W} {H0 : Heap}
theorem va_mna {X : va_W} {L : List Nat} {f : Nat → va_E} {cc : ByteArray} (hexec : p.tables.exec = Jvm.exec) (hb : c.code = cc) {own : String} {index : Nat} {ty : FieldType} {cy : ClassId} (hown : s.vm.findClass own = some m.cls) (hclink : (Cond.classLink own index ("[" ++ (FieldType.array ty).toString)).before args s = true) (hover : va_AOA ty s) (harr : (Cond.arrayClass ty).before args s = true) (hcy : s.vm.findClass (FieldType.array ty).toString = some cy)
    (hK : va_K D cl tys s) (hP : va_P D cl (X ++ va_pl L f) H) (hD : va_D A (X ++ va_pl L f)) (hS : va_S A H0 H locs) (hA : ∀ q, H0.size ≤ q → A q) {n k : Int32} {N' K' : Nat} {z : vp_A} (hn : ¬ n < 0) (hk : ¬ k < 0) (hN : n.toNatClampNeg = N') (hM : k.toNatClampNeg = K')
    (hb1 : N' * 4 ≤ 536870912) (hb2 : K' * componentBytes ty ≤ 536870912) (hb3 : K' ≤ 536870912) (hdf : fits ty (defaultValue ty) = true) (hdd : (defaultValue ty).isDefault = true) (hcells : cells + (1 + N') ≤ R.cells) (hslots : slots + (N' + N' * K') ≤ R.slots) (hz : ∀ c : ClassId, Jvm.Free.Multi.innerC c K' (defaultValue ty) = vp_cell c z) (hdg : decode cc pc = .ok (.multianewarray index 2, 4))
    (kk : ∀ (q : Nat) (r : Nat → Nat) (cA : ClassId) (H1 : Heap), (∀ i j : Nat, i < N' → j < N' → r i = r j → i = j) → (∀ i : Nat, i < N' → r i ∉ L) → va_K D cl (tys ++ [(cA, .array ty)]) s →
      va_P D cl ((X ++ [(q, .inl (cA, N', .inr (.inr (.inr (.inr (fun i => if i < N' then some (r i) else none))))))]) ++ va_pl (L ++ (List.range N').map r) (vr_up f ((List.range N').map r) (.inl (cy, z)))) H1 → va_D A ((X ++ [(q, .inl (cA, N', .inr (.inr (.inr (.inr (fun i => if i < N' then some (r i) else none))))))]) ++ va_pl (L ++ (List.range N').map r) (vr_up f ((List.range N').map r) (.inl (cy, z)))) → va_S A H0 H1 locs →
      W p l e R s m args below meth c H1 locs (cells + 1 + N') (slots + N' + N' * K') Q (F0 m (pc + 4) ls (.ref q :: rest))) : W p l e R s m args below meth c H locs cells slots Q (F0 m pc ls (.int k :: .int n :: rest)) := by
  subst hN
  subst hM
  intro T hT Xs
  obtain ⟨vm₁, cA, comp, -, fA, fC, hO, -, X', step⟩ := Xs.multianewarray2F hexec hown hclink (va_AOA.use hover) harr (g := F0 m pc ls (.int k :: .int n :: rest)) rfl (by rw [hb]; exact hdg) rfl hn hk hb1 hb2 hb3 hdf hdd hcells hslots
  have ec : some cy = some comp := hcy.symm.trans fC
  cases ec
  generalize hF : Jvm.Free.Multi.fill (T.setVm vm₁) cA cy n.toNatClampNeg k.toNatClampNeg (defaultValue ty) n.toNatClampNeg = F at X' step
  have hTh : (T.setVm vm₁).heap = H := hT
  obtain ⟨f1, f2, -, -⟩ := Jvm.Free.Multi.fill_facts (T.setVm vm₁) cA cy n.toNatClampNeg k.toNatClampNeg (defaultValue ty) n.toNatClampNeg
  rw [hF, hTh] at f1 f2
  have hold : ∀ x : Nat, x < H.size → F.heap[x]? = H[x]? := fun x hx => by
    have := Jvm.Free.Multi.fill_old (T.setVm vm₁) cA cy n.toNatClampNeg k.toNatClampNeg (defaultValue ty) (a := x) (by rw [hTh]; exact hx) n.toNatClampNeg
    rw [hF, hTh] at this
    exact this
  have hrow : ∀ j : Nat, j < n.toNatClampNeg → F.heap[H.size + 1 + j]? = some (vp_cell cy z) := fun j hj => by
    have := Jvm.Free.Multi.fill_inner (T.setVm vm₁) cA cy n.toNatClampNeg k.toNatClampNeg (defaultValue ty) n.toNatClampNeg j hj
    rw [hF, hTh, hz] at this
    exact this
  have hout : Jvm.Free.Multi.outerC cA n.toNatClampNeg H.size n.toNatClampNeg = vp_cell cA (n.toNatClampNeg, .inr (.inr (.inr (.inr (fun i => if i < n.toNatClampNeg then some (H.size + 1 + i) else none))))) := by
    rw [vp_cell_q]
    exact vr_outer cA n.toNatClampNeg H.size n.toNatClampNeg
  rw [hout] at f2
  have hlt : ∀ a, a ∈ L → a < H.size := fun a ha => by
    obtain ⟨k9, hk9⟩ := va_pl_get (X := X) (f := f) ha
    exact (hP k9 _ hk9).lt
  have hnl : ∀ i : Nat, i < n.toNatClampNeg → H.size + 1 + i ∉ L := fun i _ h => by
    have := hlt _ h
    omega
  have hnm : ∀ a, a ∈ (List.range n.toNatClampNeg).map (fun i => H.size + 1 + i) → a ∉ L := fun a ha h => by
    obtain ⟨i, -, rfl⟩ := List.mem_map.mp ha
    have := hlt _ h
    omega
  have hP0 : va_P D cl (X ++ va_pl L f) F.heap := hP.kept (fun k9 x hx => hold x.1 ((hP k9 x hx).lt))
  have hP1 : va_P D cl ((X ++ va_pl L f) ++ [(H.size, .inl (cA, n.toNatClampNeg, .inr (.inr (.inr (.inr (fun i => if i < n.toNatClampNeg then some (H.size + 1 + i) else none))))))]) F.heap := hP0.app (fun k9 x hx => by
    have h0 : k9 < 1 := (List.getElem?_eq_some_iff.mp hx).1
    rw [show k9 = 0 by omega] at hx
    cases hx
    exact f2)
  have hP2 : va_P D cl (((X ++ va_pl L f) ++ [(H.size, .inl (cA, n.toNatClampNeg, .inr (.inr (.inr (.inr (fun i => if i < n.toNatClampNeg then some (H.size + 1 + i) else none))))))]) ++ ((List.range n.toNatClampNeg).map (fun i => H.size + 1 + i)).map (fun a => (a, .inl (cy, z)))) F.heap := hP1.app (fun k9 x hx => by
    obtain ⟨a, ha, rfl⟩ := List.mem_map.mp (List.mem_of_getElem? hx)
    obtain ⟨i, hi, rfl⟩ := List.mem_map.mp ha
    exact hrow i (List.mem_range.mp hi))
  have hD2 : va_D A (((X ++ va_pl L f) ++ [(H.size, .inl (cA, n.toNatClampNeg, .inr (.inr (.inr (.inr (fun i => if i < n.toNatClampNeg then some (H.size + 1 + i) else none))))))]) ++ ((List.range n.toNatClampNeg).map (fun i => H.size + 1 + i)).map (fun a => (a, .inl (cy, z)))) := by
    have hD1 := hD.push (e := .inl (cA, n.toNatClampNeg, .inr (.inr (.inr (.inr (fun i => if i < n.toNatClampNeg then some (H.size + 1 + i) else none)))))) hP rfl (hA _ hS.1)
    generalize hW1 : (X ++ va_pl L f) ++ [(H.size, .inl (cA, n.toNatClampNeg, .inr (.inr (.inr (.inr (fun i => if i < n.toNatClampNeg then some (H.size + 1 + i) else none))))))] = W1 at hD1 hP1 ⊢
    have hle : ∀ (k9 : Nat) (x : Nat × va_E), W1[k9]? = some x → x.1 ≤ H.size := fun k9 x hx => by
      rw [← hW1] at hx
      by_cases hl : k9 < (X ++ va_pl L f).length
      · rw [List.getElem?_append_left hl] at hx
        exact Nat.le_of_lt ((hP k9 x hx).lt)
      · rw [List.getElem?_append_right (by omega)] at hx
        have h0 : k9 - (X ++ va_pl L f).length < 1 := (List.getElem?_eq_some_iff.mp hx).1
        rw [show k9 - (X ++ va_pl L f).length = 0 by omega] at hx
        cases hx
        exact Nat.le_refl _
    have hr : ∀ (k9 : Nat) (x : Nat × va_E), (((List.range n.toNatClampNeg).map (fun i => H.size + 1 + i)).map (fun a => ((a, .inl (cy, z)) : Nat × va_E)))[k9]? = some x → x.1 = H.size + 1 + k9 := fun k9 x hx => by
      rw [List.getElem?_map, List.getElem?_map] at hx
      by_cases h9 : k9 < n.toNatClampNeg
      · rw [List.getElem?_range h9] at hx
        cases hx
        rfl
      · have hn0 : (List.range n.toNatClampNeg)[k9]? = none := List.getElem?_eq_none (by rw [List.length_range]; omega)
        rw [hn0] at hx
        cases hx
    refine ⟨fun i j x y hi hj hxy => ?_, fun k9 x hx => ?_⟩
    · by_cases h1 : i < W1.length <;> by_cases h2 : j < W1.length
      · rw [List.getElem?_append_left h1] at hi
        rw [List.getElem?_append_left h2] at hj
        exact hD1.1 i j x y hi hj hxy
      · rw [List.getElem?_append_left h1] at hi
        rw [List.getElem?_append_right (by omega)] at hj
        have := hle _ _ hi
        have := hr _ _ hj
        omega
      · rw [List.getElem?_append_right (by omega)] at hi
        rw [List.getElem?_append_left h2] at hj
        have := hle _ _ hj
        have := hr _ _ hi
        omega
      · rw [List.getElem?_append_right (by omega)] at hi hj
        have := hr _ _ hi
        have := hr _ _ hj
        omega
    · by_cases h1 : k9 < W1.length
      · rw [List.getElem?_append_left h1] at hx
        exact hD1.2 k9 x hx
      · rw [List.getElem?_append_right (by omega)] at hx
        have := hr _ _ hx
        exact hA _ (by have := hS.1; omega)
  have hAr : ArrOfT s cA (.array ty) := fun N9 z9 => by
    obtain ⟨-, k9, hk9, cm9, hkk9⟩ := (hO 0 0 0).1
    exact ⟨(fun q hq => by cases hq), k9, hk9, cm9, hkk9⟩
  have hK2 : va_K D cl (tys ++ [(cA, .array ty)]) s := ⟨hK.1, fun k9 x hx => by
    by_cases hl : k9 < tys.length
    · rw [List.getElem?_append_left hl] at hx
      exact hK.2 k9 x hx
    · rw [List.getElem?_append_right (by omega)] at hx
      have h0 : k9 - tys.length < 1 := (List.getElem?_eq_some_iff.mp hx).1
      rw [show k9 - tys.length = 0 by omega] at hx
      cases hx
      exact ⟨hAr, fA⟩⟩
  obtain ⟨t, a1, b1⟩ := kk H.size (fun i => H.size + 1 + i) cA F.heap (fun i j _ _ h => by have h9 : H.size + 1 + i = H.size + 1 + j := h; omega) hnl hK2 (by rw [← vr_rows hnm]; exact vr_lay hP2) (by rw [← vr_rows hnm]; exact vr_layD hD2) ⟨by rw [f1]; have := hS.1; omega, fun x h1 h2 => (hold x (Nat.lt_of_lt_of_le h1 hS.1)).trans (hS.2.1 x h1 h2), hS.2.2⟩ F rfl X'
  refine ⟨t, step t ?_, b1⟩
  have e : T.heap.size = H.size := by rw [hT]
  rw [e]
  exact a1
end VGM
/-! ===== END ===== -/
/-! ===== cells are made ===== -/
/-- memory with a cell cleared -/
def zz (m : zM) (n : Nat) : zM := (fun b j => if b = n then 0 else m.1 b j, fun b j => if b = n then 0 else m.2.1 b j, fun b j => if b = n then j else m.2.2 b j)
def zwfS (n : Nat) (s : zS) : Bool := match s with
  | .inl (0, _, _) => true
  | .inl (1, _, _) => true
  | .inl (_, len, b) => decide (0 < len) && decide (b + len ≤ n)
  | .inr (_, rs) => rs.all (fun o => match o with
    | some r => decide (r < n) || decide (1000 ≤ r)
    | none => true)
theorem zE_old {ρ ρ' : Nat → Nat} {κ : Nat → ClassId} {m m' : zM} {n i : Nat} {s : zS} (hr : ∀ j, j < n ∨ 1000 ≤ j → ρ' j = ρ j) (hw : zwfS n s = true) (h1 : m'.1 i = m.1 i) (h2 : m'.2.1 i = m.2.1 i) (h3 : m'.2.2 i = m.2.2 i) : zE ρ' κ m' i s = zE ρ κ m i s := by
  rw [zE_mem h1 h2 h3]
  match s, hw with
  | .inl (0, _, _), _ => rfl
  | .inl (1, _, _), _ => rfl
  | .inl (k + 2, len, b), hw =>
    have hw2 : 0 < len ∧ b + len ≤ n := by simpa [zwfS] using hw
    show Sum.inl (κ 2, len, Sum.inr (Sum.inr (Sum.inr (Sum.inr (fun j => some (ρ' (b + m.2.2 i j % len))))))) = Sum.inl (κ 2, len, Sum.inr (Sum.inr (Sum.inr (Sum.inr (fun j => some (ρ (b + m.2.2 i j % len)))))))
    have hf : (fun j => some (ρ' (b + m.2.2 i j % len))) = (fun j => some (ρ (b + m.2.2 i j % len))) := by
      funext j
      rw [hr (b + m.2.2 i j % len) (Or.inl (by have := Nat.mod_lt (m.2.2 i j) hw2.1; omega))]
    rw [hf]
  | .inr (c, rs), hw =>
    show Sum.inr (c, zfs ρ' m i c rs) = Sum.inr (c, zfs ρ m i c rs)
    congr 2
    unfold zfs
    apply List.map_congr_left
    intro k _
    unfold zfv
    split
    · rfl
    · cases hk : rs.getD k none with
      | none => rfl
      | some r =>
        have hm : some r ∈ rs := by
          rw [List.getD_eq_getElem?_getD] at hk
          cases hg : rs[k]? with
          | none => rw [hg] at hk; cases hk
          | some o => rw [hg] at hk; cases hk; exact List.mem_of_getElem? hg
        have hz := List.all_eq_true.mp (show rs.all _ = true from hw) _ hm
        have hz2 : r < n ∨ 1000 ≤ r := by simpa using hz
        show va_rf (some (ρ' r)) = va_rf (some (ρ r))
        rw [hr r hz2]
    · rfl
/-- the world with more cells, position by position -/
theorem zw_more {ρ ρ' : Nat → Nat} {κ : Nat → ClassId} {m m' : zM} {sh ex : List zS} (hr : ∀ j, j < sh.length ∨ 1000 ≤ j → ρ' j = ρ j) (hw : sh.all (zwfS sh.length) = true) (hm : ∀ i, i < sh.length → m'.1 i = m.1 i ∧ m'.2.1 i = m.2.1 i ∧ m'.2.2 i = m.2.2 i) : zw ρ' κ m' (sh ++ ex) = zw ρ κ m sh ++ (ex.zipIdx sh.length).map (fun q => (ρ' q.2, zE ρ' κ m' q.2 q.1)) := by
  unfold zw
  rw [List.zipIdx_append, List.map_append]
  congr 1
  · apply List.map_congr_left
    intro q hq
    have h1 := List.mem_zipIdx' hq
    obtain ⟨s, i⟩ := q
    have hlt : i < sh.length := h1.1
    have hs : s ∈ sh := by
      have h2 : s = sh[i] := h1.2
      rw [h2]
      exact List.getElem_mem _
    obtain ⟨g1, g2, g3⟩ := hm i hlt
    show (ρ' i, zE ρ' κ m' i s) = (ρ i, zE ρ κ m i s)
    rw [zE_old hr (List.all_eq_true.mp hw s hs) g1 g2 g3, hr i (Or.inl hlt)]
  · rw [Nat.zero_add]
theorem zz_off (m : zM) (n : Nat) : ∀ i, i < n → (zz m n).1 i = m.1 i ∧ (zz m n).2.1 i = m.2.1 i ∧ (zz m n).2.2 i = m.2.2 i := fun i h => by
  have e : i ≠ n := by omega
  exact ⟨by funext j; simp [zz, e], by funext j; simp [zz, e], by funext j; simp [zz, e]⟩
theorem zsz_app (a b : List zS) : zsz (a ++ b) = zsz a + zsz b := by
  unfold zsz
  rw [List.map_append, List.sum_append]
/-- the map of cells, with a new one -/
def zρ (ρ : Nat → Nat) (n q : Nat) : Nat → Nat := fun i => if i = n then q else ρ i
theorem zρ_old {ρ : Nat → Nat} {n q : Nat} (hn : n < 1000) : ∀ j, j < n ∨ 1000 ≤ j → zρ ρ n q j = ρ j := fun j hj => by
  have : j ≠ n := by omega
  simp [zρ, this]
section ZNEW
variable {E : Nat × (Nat → Int32)} {y : zY} {pc q i : Nat} {L L' : List (Option Value)} {st st' : List Value} {sh sh' ex : List zS} {m m1 m' : zM} {rv : Option Value}
/-- a step that makes cells -/
theorem Rn.nw (hlen : sh.length < 1000) (hw : sh.all (zwfS sh.length) = true) (hok : (st'.all (zok sh.length) && zokL sh.length L) = true) (top : List Value)
   (h : ∀ (p : Program) (l : Launch) (e : Env) (R : Room) (s : State) (mid : MethodId) (args : Array Value) (below : List Frame) (meth : Method) (c : Code) (D : va_G) (κ : Nat → ClassId) (A : Nat → Prop) (ρ : Nat → Nat) (H : Heap) (locs : List Loc) (cells slots : Nat) (ls : Array Slot) (Q : State → Prop),
   zC E p R s mid args meth c y D κ A ρ → lv_has ls y.2.2.1 (zL ρ L) → va_P D vwCl (zw ρ κ m sh) H → va_D A (zw ρ κ m sh) → va_S A s.heap H locs → cells + ex.length ≤ R.cells → slots + zsz ex ≤ R.slots →
   (∀ (ρ' : Nat → Nat) (H1 : Heap), (∀ j, j < sh.length ∨ 1000 ≤ j → ρ' j = ρ j) → va_P D vwCl (zw ρ' κ m1 (sh ++ ex)) H1 → va_D A (zw ρ' κ m1 (sh ++ ex)) → va_S A s.heap H1 locs → W p l e R s mid args below meth c H1 locs (cells + ex.length) (slots + zsz ex) Q (F0 mid q ls (top.map (zv ρ') ++ st'.map (zv ρ)))) → W p l e R s mid args below meth c H locs cells slots Q (F0 mid pc ls (st.map (zv ρ))))
   (k : Rn E y q L (top ++ st') (sh ++ ex) m1 rv sh' m') (hex : 0 < ex.length) : Rn E y pc L st sh m rv sh' m' := by
  have k1 := k.1
  have k2 := k.2.1
  rw [List.length_append] at k1
  rw [zsz_app] at k2
  refine ⟨by omega, by omega, fun p l e R s mid args below meth c D κ A ρ H locs cells slots ls Q C hl hP hD hS hc hs kk => ?_⟩
  refine h p l e R s mid args below meth c D κ A ρ H locs cells slots ls Q C hl hP hD hS (by omega) (by omega) (fun ρ' H1 hr hP1 hD1 hS1 => ?_)
  have C' : zC E p R s mid args meth c y D κ A ρ' := by
    obtain ⟨c1, c2, c3, c4, c5, c6, c7, c8, c9, c10, c11⟩ := C
    exact ⟨c1, c2, c3, c4, c5, c6, c7, c8, c9, c10.ext (fun i hi => hr i (Or.inr hi)), c11⟩
  have hst := zok_st hr (Bool.and_eq_true_iff.mp hok).1
  have hLL := zok_L hr (Bool.and_eq_true_iff.mp hok).2
  have K := k.2.2 p l e R s mid args below meth c D κ A ρ' H1 locs (cells + ex.length) (slots + zsz ex) ls Q C' (by rw [hLL]; exact hl) hP1 hD1 hS1 (by rw [List.length_append]; omega) (by rw [zsz_app]; omega) (fun ρ2 H2 locs2 ls2 pc2 cells2 slots2 hsm2 hret2 hP2 hD2 hS2 hc2 hs2 => kk ρ2 H2 locs2 ls2 pc2 cells2 slots2 ⟨fun i hi => (hsm2.1 i (by rw [List.length_append]; omega)).trans (hr i hi), fun hh => absurd hh (by omega)⟩ hret2 hP2 hD2 hS2 (by rw [List.length_append] at hc2; omega) (by rw [zsz_app] at hs2; omega))
  rw [List.map_append, hst] at K
  exact K
theorem zdef : ∀ c, c < 13 → ∀ j, j < zn c → zty c j ≠ .float ∧ zty c j ≠ .double := by decide +kernel
theorem zdefv {c j : Nat} (hc : c < 13) (hj : j < zn c) (ρ : Nat → Nat) (m : zM) (n k : Nat) : defaultValue (zty c j) = zfv ρ (zz m n) n (List.replicate k none) j (ztk (zty c j)) := by
  obtain ⟨h1, h2⟩ := zdef c hc j hj
  have hg : (List.replicate k (none : Option Nat)).getD j none = none := by
    rw [List.getD_eq_getElem?_getD]
    by_cases hk : j < k
    · rw [List.getElem?_replicate_of_lt hk]; rfl
    · rw [List.getElem?_eq_none (by rw [List.length_replicate]; omega)]; rfl
  cases ht : zty c j with
  | float => exact absurd ht h1
  | double => exact absurd ht h2
  | object _ => show Value.null = va_rf (((List.replicate k (none : Option Nat)).getD j none).map ρ); rw [hg]; rfl
  | array _ => show Value.null = va_rf (((List.replicate k (none : Option Nat)).getD j none).map ρ); rw [hg]; rfl
  | long => show Value.long 0 = Value.long ((zz m n).2.1 n j); simp [zz]
  | _ => show Value.int 0 = Value.int ((zz m n).1 n j); simp [zz]
/-- new -/
theorem zi_new {ci n : Nat} {r : vw_C} (hd : decode y.2.1 pc = .ok (.new i, 3)) (hcl : vwCl[ci]? = some r) (h1 : Cond.classLink y.1.cls i r.1 ∈ zALL) (h2 : Cond.instantiable r.1 r.2.2 ∈ zALL) (h3 : Cond.initialized r.1 ∈ zALL) (hn : sh.length = n) (hlen : n < 1000) (hw : sh.all (zwfS n) = true) (hok : (st.all (zok n) && zokL n L) = true) (hq : pc + 3 = q)
    (k : Rn E y q L (.ref n :: st) (sh ++ [.inr (ci, List.replicate (zn ci) none)]) (zz m n) rv sh' m') : Rn E y pc L st sh m rv sh' m' := by
  subst hq
  subst hn
  obtain ⟨g1, g2, g3, g4⟩ := zcl ci r hcl
  have hc13 : ci < 13 := by
    have := (List.getElem?_eq_some_iff.mp hcl).1
    simpa [vwCl] using this
  refine Rn.nw (ex := [.inr (ci, List.replicate (zn ci) none)]) hlen hw hok [.ref sh.length] (fun p l e R s mid args below meth c D κ A ρ H locs cells slots ls Q C hl hP hD hS hc hs kk => ?_) k (by simp)
  have hsz : zsz [.inr (ci, List.replicate (zn ci) none)] = zn ci := by simp [zsz]
  rw [hsz] at hs kk
  refine va_new (C := r.1) (T := r.2.1) (N := r.2.2) (fs := zfs ρ (zz m sh.length) sh.length ci (List.replicate (zn ci) none)) C.1 C.2.1 C.2.2.2.2.1 g2 (zty ci) g3 C.2.2.2.1 (C.2.2.2.2.1 _ h1) (C.2.2.2.2.1 _ h2) (C.2.2.2.2.1 _ h3) C.2.2.2.2.2.1 hP hD hS C.2.2.2.2.2.2.2.1 hcl (fun j hj => ?_) hc (by rw [g1]; exact hs) hd (fun q H1 hP1 hD1 hS1 => ?_)
  · rw [g1] at hj
    rw [vp_V, List.getD_eq_getElem?_getD, zfs_get hj]
    exact zdefv hc13 hj ρ m sh.length (zn ci)
  · have hr := zρ_old (ρ := ρ) (q := q) hlen
    have e : zw (zρ ρ sh.length q) κ (zz m sh.length) (sh ++ [.inr (ci, List.replicate (zn ci) none)]) = zw ρ κ m sh ++ [(q, .inr (ci, zfs ρ (zz m sh.length) sh.length ci (List.replicate (zn ci) none)))] := by
      rw [zw_more hr hw (zz_off m sh.length)]
      congr 1
      show [(zρ ρ sh.length q sh.length, Sum.inr (ci, zfs (zρ ρ sh.length q) (zz m sh.length) sh.length ci (List.replicate (zn ci) none)))] = _
      have e1 : zρ ρ sh.length q sh.length = q := by simp [zρ]
      have e2 : zfs (zρ ρ sh.length q) (zz m sh.length) sh.length ci (List.replicate (zn ci) none) = zfs ρ (zz m sh.length) sh.length ci (List.replicate (zn ci) none) := by
        unfold zfs
        apply List.map_congr_left
        intro j hj
        rw [← zdefv hc13 (List.mem_range.mp hj) ρ m sh.length (zn ci), ← zdefv hc13 (List.mem_range.mp hj) (zρ ρ sh.length q) m sh.length (zn ci)]
      rw [e1, e2]
    rw [← e] at hP1 hD1
    have K := kk (zρ ρ sh.length q) H1 hr hP1 hD1 hS1
    have e3 : ([Value.ref sh.length] : List Value).map (zv (zρ ρ sh.length q)) = [.ref q] := by simp [zv, zρ]
    rw [e3] at K
    rw [g1]
    exact K
theorem znewarr {kd : Nat} {n len : Nat} {x : Int32} {ty : FieldType} {aty : ArrayType} (hd : decode y.2.1 pc = .ok (.newarray aty, 2)) (hty : newarray.typeOf aty = ty) (h1 : Cond.arrayClass ty ∈ zALL) (hx : ¬ x < 0) (hl2 : x.toNatClampNeg = len) (hby : len * componentBytes ty ≤ 536870912) (hdv : defaultValue ty = .int 0) (hzt : ∀ κ : Nat → ClassId, (zt κ)[kd]? = some (κ kd, ty)) (hra : ∀ (U : State) (c : ClassId), va_RA U c ty → U.vm.findClass ("[" ++ ty.toString) = some c) (hE : ∀ (ρ : Nat → Nat) (κ : Nat → ClassId) (m : zM) (n : Nat), zE ρ κ m n (.inl (kd, len, 0)) = .inl (κ kd, len, .inl (m.1 n))) (hn : sh.length = n) (hlen : n < 1000) (hw : sh.all (zwfS n) = true) (hok : (st.all (zok n) && zokL n L) = true) (hq : pc + 2 = q)
    (k : Rn E y q L (.ref n :: st) (sh ++ [.inl (kd, len, 0)]) (zz m n) rv sh' m') : Rn E y pc L (.int x :: st) sh m rv sh' m' := by
  subst hq
  subst hn
  refine Rn.nw (ex := [.inl (kd, len, 0)]) hlen hw hok [.ref sh.length] (fun p l e R s mid args below meth c D κ A ρ H locs cells slots ls Q C hl hP hD hS hc hs kk => ?_) k (by simp)
  have hsz : zsz [.inl (kd, len, 0)] = len := by simp [zsz]
  rw [hsz] at hs kk
  have hT := C.2.2.2.2.2.1
  refine va_newa (atype := aty) (a0 := (len, .inl (fun _ => 0))) C.1 C.2.1 (by rw [hty]; exact C.2.2.2.2.1 _ h1) hty hT hP hD hS C.2.2.2.2.2.2.2.1 (fun cA => by rw [hdv]; rfl) hx hl2 hby hc hs hd (fun q cA H1 hK1 hP1 hD1 hS1 => ?_)
  have hcA : cA = κ kd := by
    have a := hra s cA (hK1.2 3 (cA, ty) (by simp [zt])).2
    have b := hra s (κ kd) (hT.2 kd (κ kd, ty) (hzt κ)).2
    exact Option.some.inj (a.symm.trans b)
  subst hcA
  have hr := zρ_old (ρ := ρ) (q := q) hlen
  have e : zw (zρ ρ sh.length q) κ (zz m sh.length) (sh ++ [.inl (kd, len, 0)]) = zw ρ κ m sh ++ [(q, .inl (κ kd, len, .inl (fun _ => 0)))] := by
    rw [zw_more hr hw (zz_off m sh.length)]
    congr 1
    show [(zρ ρ sh.length q sh.length, zE (zρ ρ sh.length q) κ (zz m sh.length) sh.length (.inl (kd, len, 0)))] = _
    have e1 : zρ ρ sh.length q sh.length = q := by simp [zρ]
    have e2 : (zz m sh.length).1 sh.length = fun _ => 0 := by funext j; simp [zz]
    rw [e1, hE, e2]
  rw [← e] at hP1 hD1
  have K := kk (zρ ρ sh.length q) H1 hr hP1 hD1 hS1
  have e3 : ([Value.ref sh.length] : List Value).map (zv (zρ ρ sh.length q)) = [.ref q] := by simp [zv, zρ]
  rw [e3] at K
  exact K
theorem zi_newI {n len : Nat} {x : Int32} (hd : decode y.2.1 pc = .ok (.newarray .int, 2)) (h1 : Cond.arrayClass .int ∈ zALL) (hx : ¬ x < 0) (hl2 : x.toNatClampNeg = len) (hby : len * 4 ≤ 536870912) (hn : sh.length = n) (hlen : n < 1000) (hw : sh.all (zwfS n) = true) (hok : (st.all (zok n) && zokL n L) = true) (hq : pc + 2 = q)
    (k : Rn E y q L (.ref n :: st) (sh ++ [.inl (0, len, 0)]) (zz m n) rv sh' m') : Rn E y pc L (.int x :: st) sh m rv sh' m' :=
  znewarr (kd := 0) (ty := .int) hd rfl h1 hx hl2 hby rfl (fun _ => rfl) (fun _ _ h => h) (fun _ _ _ _ => rfl) hn hlen hw hok hq k
theorem zi_newZ {n len : Nat} {x : Int32} (hd : decode y.2.1 pc = .ok (.newarray .boolean, 2)) (h1 : Cond.arrayClass .boolean ∈ zALL) (hx : ¬ x < 0) (hl2 : x.toNatClampNeg = len) (hby : len * 1 ≤ 536870912) (hn : sh.length = n) (hlen : n < 1000) (hw : sh.all (zwfS n) = true) (hok : (st.all (zok n) && zokL n L) = true) (hq : pc + 2 = q)
    (k : Rn E y q L (.ref n :: st) (sh ++ [.inl (1, len, 0)]) (zz m n) rv sh' m') : Rn E y pc L (.int x :: st) sh m rv sh' m' :=
  znewarr (kd := 1) (ty := .boolean) hd rfl h1 hx hl2 hby rfl (fun _ => rfl) (fun _ _ h => h) (fun _ _ _ _ => rfl) hn hlen hw hok hq k
/-! a reference is laid into a final field -/
theorem zsz_set {n ci : Nat} {rs rs' : List (Option Nat)} (ho : sh[n]? = some (.inr (ci, rs))) : zsz (sh.set n (.inr (ci, rs'))) = zsz sh := by
  unfold zsz
  congr 1
  apply List.ext_getElem?
  intro j
  rw [List.getElem?_map, List.getElem?_map]
  by_cases e : j = n
  · subst e
    rw [List.getElem?_set_self (List.getElem?_eq_some_iff.mp ho).1, ho]
    rfl
  · rw [List.getElem?_set_ne (Ne.symm e)]
theorem zw_sh {ρ : Nat → Nat} {κ : Nat → ClassId} {n : Nat} {x x' : zS} (ho : sh[n]? = some x) : zw ρ κ m (sh.set n x') = (zw ρ κ m sh).set n (ρ n, zE ρ κ m n x') := by
  have hlt : n < sh.length := (List.getElem?_eq_some_iff.mp ho).1
  apply List.ext_getElem?
  intro j
  by_cases e : j = n
  · subst e
    rw [List.getElem?_set_self (by rw [zw_len]; exact hlt), zw_get (List.getElem?_set_self hlt)]
  · rw [List.getElem?_set_ne (Ne.symm e)]
    cases hj : sh[j]? with
    | none => rw [zw_none hj, zw_none (by rw [List.getElem?_set_ne (Ne.symm e)]; exact hj)]
    | some z => rw [zw_get hj, zw_get (by rw [List.getElem?_set_ne (Ne.symm e)]; exact hj)]
theorem zi_putA {ci kf n r : Nat} {rs : List (Option Nat)} {ty : FieldType} {sh1 : List zS} (hd : decode y.2.1 pc = .ok (.putfield i, 3)) (hf : zpl y.1.cls i ci kf ty true) (hin : y.1.name = "<init>") (hk3 : ztk ty = 3) (ho : sh[n]? = some (.inr (ci, rs))) (hn : ∀ a : Nat, narrow ty (.ref a) = .ref a) (hfit : ∀ a : Nat, fits ty (.ref a) = true) (hkl : kf < rs.length) (hsh : sh.set n (.inr (ci, rs.set kf (some r))) = sh1) (hq : pc + 3 = q) (k : Rn E y q L st sh1 m rv sh' m') : Rn E y pc L (.ref r :: .ref n :: st) sh m rv sh' m' := by
  subst hq
  subst hsh
  obtain ⟨w, h1, h2, h3, h4, h6, h5⟩ := hf
  obtain ⟨g1, g2, g3, g4⟩ := zcl ci w h1
  subst h3
  have hln : (sh.set n (.inr (ci, rs.set kf (some r)))).length = sh.length := List.length_set
  have hsz := zsz_set (rs' := rs.set kf (some r)) ho
  refine ⟨by rw [← hln]; exact k.1, by rw [← hsz]; exact k.2.1, fun p l e R s mid args below meth c D κ A ρ H locs cells slots ls Q C hl hP hD hS hc hs kk => ?_⟩
  refine va_putF (C := w.1) (T := w.2.1) (N := w.2.2) (ty := zty ci kf) C.1 C.2.1 C.2.2.2.2.1 g2 (zty ci) g3 g4 C.2.2.2.1 C.2.2.2.2.2.1 hP hD hS n (zw_get ho) h1 kf (by rw [g1]; exact h2) (C.2.2.2.2.1 _ h5) (fun _ h => h) h4 (C.2.2.2.2.2.2.2.2.2.2.2.2 hin) (h6 rfl) (g3 kf (by rw [g1]; exact h2)) (hn (ρ r)) (hfit (ρ r)) (by rw [zfs_len]; exact h2) hd (fun H1 locs1 hP1 hD1 hS1 => ?_)
  have e2 : (zw ρ κ m sh).set n (ρ n, .inr (ci, (zfs ρ m n ci rs).set kf (zv ρ (.ref r)))) = zw ρ κ m (sh.set n (.inr (ci, rs.set kf (some r)))) := by
    rw [zw_sh ho]
    congr 2
    show Sum.inr _ = Sum.inr _
    rw [zfs_set (m' := m) (rs' := rs.set kf (some r)) h2]
    · rw [hk3]
      show va_rf (((rs.set kf (some r)).getD kf none).map ρ) = _
      rw [List.getD_eq_getElem?_getD, List.getElem?_set_self hkl]
      rfl
    · intro j _ hj
      unfold zfv
      split
      · rfl
      · rw [List.getD_eq_getElem?_getD, List.getElem?_set_ne (Ne.symm hj), ← List.getD_eq_getElem?_getD]
      · rfl
  rw [e2] at hP1 hD1
  exact k.2.2 p l e R s mid args below meth c D κ A ρ H1 locs1 cells slots ls Q C hl hP1 hD1 hS1 (by rw [hln]; exact hc) (by rw [hsz]; exact hs) (fun ρ2 H2 locs2 ls2 pc2 cells2 slots2 hsm2 hret2 hP2 hD2 hS2 hc2 hs2 => kk ρ2 H2 locs2 ls2 pc2 cells2 slots2 ⟨fun i hi => hsm2.1 i (by rw [hln]; exact hi), fun hh => hsm2.2 (by rw [hln]; exact hh)⟩ hret2 hP2 hD2 hS2 (by rw [hln] at hc2; exact hc2) (by rw [hsz] at hs2; exact hs2))
end ZNEW
