/-! ===== new int[n][k] ===== -/
/-- memory with the cells n .. n + N cleared -/
def zzm (m : zM) (n N : Nat) : zM := (fun b j => if n ≤ b ∧ b ≤ n + N then 0 else m.1 b j, fun b j => if n ≤ b ∧ b ≤ n + N then 0 else m.2.1 b j, fun b j => if n ≤ b ∧ b ≤ n + N then j else m.2.2 b j)
theorem zzm_off (m : zM) (n N : Nat) : ∀ i, i < n → (zzm m n N).1 i = m.1 i ∧ (zzm m n N).2.1 i = m.2.1 i ∧ (zzm m n N).2.2 i = m.2.2 i := fun i h => by
  have e : ¬ (n ≤ i ∧ i ≤ n + N) := by omega
  exact ⟨by funext j; simp [zzm, e], by funext j; simp [zzm, e], by funext j; simp [zzm, e]⟩
def zρm (ρ : Nat → Nat) (n N q : Nat) (r : Nat → Nat) : Nat → Nat := fun i => if i = n then q else if n < i ∧ i ≤ n + N then r (i - n - 1) else ρ i
theorem zρm_old {ρ r : Nat → Nat} {n N q : Nat} (hn : n + N < 1000) : ∀ j, j < n ∨ 1000 ≤ j → zρm ρ n N q r j = ρ j := fun j hj => by
  have h1 : j ≠ n := by omega
  have h2 : ¬ (n < j ∧ j ≤ n + N) := by omega
  simp [zρm, h1, h2]
section ZMULTI
variable {E : Nat × (Nat → Int32)} {y : zY} {pc q i : Nat} {L L' : List (Option Value)} {st st' : List Value} {sh sh' ex : List zS} {m m1 m' : zM} {rv : Option Value}
theorem zi_mna {n N K : Nat} {x k : Int32} (hd : decode y.2.1 pc = .ok (.multianewarray i 2, 4)) (h1 : Cond.classLink y.1.cls i "[[I" ∈ zALL) (h2 : Cond.arrayClass .int ∈ zALL) (hx : ¬ x < 0) (hk : ¬ k < 0) (hN : x.toNatClampNeg = N) (hK : k.toNatClampNeg = K) (hb1 : N * 4 ≤ 536870912) (hb2 : K * 4 ≤ 536870912) (hN0 : 0 < N) (hn : sh.length = n) (hlen : n + N < 1000) (hw : sh.all (zwfS n) = true) (hok : (st.all (zok n) && zokL n L) = true) (hq : pc + 4 = q)
    (kk : Rn E y q L (.ref n :: st) (sh ++ (.inl (2, N, n + 1) :: List.replicate N (.inl (0, K, 0)))) (zzm m n N) rv sh' m') : Rn E y pc L (.int k :: .int x :: st) sh m rv sh' m' := by
  subst hq
  subst hn
  refine Rn.nw (ex := .inl (2, N, sh.length + 1) :: List.replicate N (.inl (0, K, 0))) (by omega) hw hok [.ref sh.length] (fun p l e R s mid args below meth c D κ A ρ H locs cells slots ls Q C hl hP hD hS hc hs kk => ?_) kk (by simp)
  have hsz : zsz (.inl (2, N, sh.length + 1) :: List.replicate N (.inl (0, K, 0))) = N + N * K := by
    simp [zsz]
  have hln : (Sum.inl (2, N, sh.length + 1) :: List.replicate N (.inl (0, K, 0)) : List zS).length = 1 + N := by
    simp; omega
  rw [hsz] at hs kk
  rw [hln] at hc kk
  have hT := C.2.2.2.2.2.1
  have hcy : s.vm.findClass (FieldType.array .int).toString = some (κ 0) := (hT.2 0 (κ 0, .int) rfl).2
  have hP0 : va_P D vwCl (zw ρ κ m sh ++ va_pl [] (fun _ => (.inr (0, []) : va_E))) H := by
    show va_P D vwCl (zw ρ κ m sh ++ []) H
    rw [List.append_nil]
    exact hP
  have hD0 : va_D A (zw ρ κ m sh ++ va_pl [] (fun _ => (.inr (0, []) : va_E))) := by
    show va_D A (zw ρ κ m sh ++ [])
    rw [List.append_nil]
    exact hD
  refine va_mna (X := zw ρ κ m sh) (L := []) (f := fun _ => (.inr (0, []) : va_E)) (ty := .int) (z := (K, .inl (fun _ => 0))) C.1 C.2.1 C.2.2.2.1 (C.2.2.2.2.1 _ h1) C.2.2.2.2.2.2.2.2.1.2.2 (C.2.2.2.2.1 _ h2) hcy hT hP0 hD0 hS C.2.2.2.2.2.2.2.1 hx hk hN hK hb1 hb2 (by omega) rfl rfl hc hs (fun c => arrV_new c K (.int 0)) hd (fun q r cA H1 hinj hnl hK1 hP1 hD1 hS1 => ?_)
  have hcA : cA = κ 2 := by
    have a : s.vm.findClass ("[" ++ (FieldType.array .int).toString) = some cA := (hK1.2 3 (cA, .array .int) (by simp [zt])).2
    have b : s.vm.findClass ("[" ++ (FieldType.array .int).toString) = some (κ 2) := (hT.2 2 (κ 2, .array .int) rfl).2
    exact Option.some.inj (a.symm.trans b)
  subst hcA
  have hr := zρm_old (ρ := ρ) (r := r) (q := q) hlen
  have hrows : va_pl ([] ++ (List.range N).map r) (vr_up (fun _ => (.inr (0, []) : va_E)) ((List.range N).map r) (.inl (κ 0, K, .inl (fun _ => 0)))) = (List.range N).map (fun j => (r j, (.inl (κ 0, K, .inl (fun _ => 0)) : va_E))) := by
    unfold va_pl
    rw [List.nil_append, List.map_map]
    apply List.map_congr_left
    intro j hj
    show (r j, vr_up _ _ _ (r j)) = _
    rw [vr_up_in (List.mem_map.mpr ⟨j, hj, rfl⟩)]
  rw [hrows, List.append_assoc] at hP1 hD1
  have hat0 : (zw ρ κ m sh ++ ([(q, (.inl (κ 2, N, .inr (.inr (.inr (.inr (fun i => if i < N then some (r i) else none))))) : va_E))] ++ (List.range N).map (fun j => (r j, (.inl (κ 0, K, .inl (fun _ => 0)) : va_E)))))[sh.length]? = some (q, (.inl (κ 2, N, .inr (.inr (.inr (.inr (fun i => if i < N then some (r i) else none))))) : va_E)) := by
    rw [List.getElem?_append_right (by rw [zw_len]; exact Nat.le_refl _), zw_len, Nat.sub_self]
    rfl
  have hcell : vp_cell (κ 2) (N, .inr (.inr (.inr (.inr (fun j => some (zρm ρ sh.length N q r (sh.length + 1 + (zzm m sh.length N).2.2 sh.length j % N))))))) = vp_cell (κ 2) (N, .inr (.inr (.inr (.inr (fun i => if i < N then some (r i) else none))))) := by
    rw [vp_cell_q, vp_cell_q]
    unfold arrV
    congr 2
    funext j
    have hj := j.isLt
    have e1 : (zzm m sh.length N).2.2 sh.length j.val = j.val := by simp [zzm]
    dsimp only
    rw [e1, Nat.mod_eq_of_lt hj, if_pos hj]
    have e2 : zρm ρ sh.length N q r (sh.length + 1 + j.val) = r j.val := by
      have a1 : ¬ sh.length + 1 + j.val = sh.length := by omega
      have a2 : sh.length < sh.length + 1 + j.val ∧ sh.length + 1 + j.val ≤ sh.length + N := by omega
      unfold zρm
      rw [if_neg a1, if_pos a2]
      congr 1
      omega
    rw [e2]
  have hat1 : va_at D vwCl (q, zE (zρm ρ sh.length N q r) κ (zzm m sh.length N) sh.length (.inl (2, N, sh.length + 1))) H1 := by
    have := hP1 sh.length _ hat0
    show H1[q]? = some (vp_cell _ _)
    rw [hcell]
    exact this
  have hP2 := hP1.set hD1 hat0 hat1 (fun _ _ => rfl)
  have hD2 := hD1.set (e := zE (zρm ρ sh.length N q r) κ (zzm m sh.length N) sh.length (.inl (2, N, sh.length + 1))) hat0
  have e : (zw ρ κ m sh ++ ([(q, (.inl (κ 2, N, .inr (.inr (.inr (.inr (fun i => if i < N then some (r i) else none))))) : va_E))] ++ (List.range N).map (fun j => (r j, (.inl (κ 0, K, .inl (fun _ => 0)) : va_E))))).set sh.length (q, zE (zρm ρ sh.length N q r) κ (zzm m sh.length N) sh.length (.inl (2, N, sh.length + 1))) = zw (zρm ρ sh.length N q r) κ (zzm m sh.length N) (sh ++ (.inl (2, N, sh.length + 1) :: List.replicate N (.inl (0, K, 0)))) := by
    rw [zw_more hr hw (zzm_off m sh.length N), List.set_append_right _ _ (by rw [zw_len]; exact Nat.le_refl _), zw_len, Nat.sub_self]
    congr 1
    show (q, _) :: _ = (zρm ρ sh.length N q r sh.length, _) :: _
    have e1 : zρm ρ sh.length N q r sh.length = q := by simp [zρm]
    rw [e1]
    congr 1
    apply List.ext_getElem?
    intro j
    show (List.map (fun j => (r j, (.inl (κ 0, K, .inl (fun _ => 0)) : va_E))) (List.range N))[j]? = _
    rw [List.getElem?_map, List.getElem?_map, List.getElem?_zipIdx]
    by_cases hj : j < N
    · rw [List.getElem?_range hj, List.getElem?_replicate_of_lt hj]
      show some (r j, _) = some (zρm ρ sh.length N q r (sh.length + 1 + j), (Sum.inl (κ 0, K, Sum.inl ((zzm m sh.length N).1 (sh.length + 1 + j))) : va_E))
      have a1 : ¬ sh.length + 1 + j = sh.length := by omega
      have a2 : sh.length < sh.length + 1 + j ∧ sh.length + 1 + j ≤ sh.length + N := by omega
      have a3 : sh.length ≤ sh.length + 1 + j ∧ sh.length + 1 + j ≤ sh.length + N := by omega
      have e2 : zρm ρ sh.length N q r (sh.length + 1 + j) = r j := by
        unfold zρm
        rw [if_neg a1, if_pos a2]
        congr 1
        omega
      have e3 : (zzm m sh.length N).1 (sh.length + 1 + j) = fun _ => 0 := by
        funext t
        simp [zzm, a3]
      rw [e2, e3]
    · rw [List.getElem?_eq_none (by rw [List.length_range]; omega), List.getElem?_eq_none (by rw [List.length_replicate]; omega)]
      rfl
  rw [e] at hP2 hD2
  have K2 := kk (zρm ρ sh.length N q r) H1 hr hP2 hD2 hS1
  have e3 : ([Value.ref sh.length] : List Value).map (zv (zρm ρ sh.length N q r)) = [.ref q] := by simp [zv, zρm]
  rw [e3] at K2
  rw [show cells + 1 + N = cells + (1 + N) by omega, show slots + N + N * K = slots + (N + N * K) by omega]
  exact K2
end ZMULTI
