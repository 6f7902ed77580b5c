/-! ===== the words of the functions ===== -/
def bi (b : Bool) : Int32 := if b then 1 else 0
theorem zb_bi (b : Bool) : zb (bi b) = true := by cases b <;> rfl
theorem zfit_bi (b : Bool) : zfit (some .boolean) (some (.int (bi b))) := by cases b <;> rfl
theorem zb_dec {x : Int32} (h : zb x = true) : bi (decide (x = 1)) = x := by
  rcases zb_of h with rfl | rfl <;> rfl
def zg {α : Type} (c : Bool) (k : Option α) : Option α := if c then k else none
theorem zg_some {α : Type} {c : Bool} {k : Option α} {x : α} (h : zg c k = some x) : c = true ∧ k = some x := by
  cases c with
  | true => exact ⟨rfl, h⟩
  | false => cases h
def zin (x : Int32) (n : Nat) : Bool := !(decide (x < 0)) && decide (x.toNatClampNeg < n)
theorem zin_vp {x : Int32} {n : Nat} (h : zin x n = true) : vp_in x n := by
  unfold zin at h
  simp only [Bool.and_eq_true, Bool.not_eq_true', decide_eq_false_iff_not, decide_eq_true_eq] at h
  intro q
  rcases q with q | q
  · exact h.1 q
  · omega
def znz (x : Int32) : Bool := !(decide (x = 0))
theorem znz_of {x : Int32} (h : znz x = true) : ¬ x = 0 := by
  simpa [znz] using h
def znzl (x : Int64) : Bool := !(decide (x = 0))
theorem znzl_of {x : Int64} (h : znzl x = true) : ¬ x = 0 := by
  simpa [znzl] using h
def zrem (a b : Int32) : Int32 := a - a / b * b
def zlrem (a b : Int64) : Int64 := a - a / b * b
def zshl (a b : Int32) : Int32 := a <<< (b &&& 31)
def zshr (a b : Int32) : Int32 := a >>> (b &&& 31)
/-- a loop: its body says go on, or come out -/
def zloop {σ ρ : Type} (b : σ → Option (σ ⊕ ρ)) : Nat → σ → Option ρ
  | 0, _ => none
  | n + 1, s => match b s with
    | none => none
    | some (.inl s1) => zloop b n s1
    | some (.inr r) => some r
def zFU : Nat := 4096
theorem zloop_rn {σ ρ : Type} {b : σ → Option (σ ⊕ ρ)} {P : σ → Prop} {X : ρ → Prop} (hb : ∀ s x, b s = some x → (∀ s1, x = .inl s1 → P s1) → (∀ r, x = .inr r → X r) → P s) : ∀ (n : Nat) (s : σ) (r : ρ), zloop b n s = some r → X r → P s
  | 0, s, r, h, _ => by cases h
  | n + 1, s, r, h, hX => by
    unfold zloop at h
    cases hs : b s with
    | none => rw [hs] at h; cases h
    | some x =>
      rw [hs] at h
      cases x with
      | inl s1 => exact hb s _ hs (fun s2 e => by cases e; exact zloop_rn hb n s1 r h hX) (fun r e => by cases e)
      | inr r1 =>
        cases h
        exact hb s _ hs (fun s2 e => by cases e) (fun r e => by cases e; exact hX)
theorem zelim_l {α β γ : Type} {f : α → γ} {g : β → γ} {a : α} : Sum.elim f g (.inl a) = f a := rfl
theorem zelim_r {α β γ : Type} {f : α → γ} {g : β → γ} {a : β} : Sum.elim f g (.inr a) = g a := rfl
def zmsk : List Bool → List (Option Value) → List (Option Value)
  | true :: ks, a :: l => a :: zmsk ks l
  | false :: ks, _ :: l => none :: zmsk ks l
  | _, _ => []
theorem zmsk_sub : ∀ (ks : List Bool) (L : List (Option Value)) (i : Nat) (v : Value), (zmsk ks L)[i]? = some (some v) → L[i]? = some (some v)
  | true :: ks, a :: l, i, v, h => by
    cases i with
    | zero => exact h
    | succ i => exact zmsk_sub ks l i v h
  | false :: ks, _ :: l, i, v, h => by
    cases i with
    | zero => cases h
    | succ i => exact zmsk_sub ks l i v h
  | [], _, i, v, h => by cases h
  | true :: ks, [], i, v, h => by cases h
  | false :: ks, [], i, v, h => by cases h
theorem zts_in {x c : Int32} {z : Int} (h : c.toInt = z) (e : x = c) : x.toInt = z := e ▸ h
theorem zrow_in (b p : Nat) {len : Nat} (h : 0 < len) : b ≤ b + p % len ∧ b + p % len < b + len := by
  have := Nat.mod_lt p h
  omega
theorem zrow_sub (b p : Nat) {len : Nat} : b + p % len - b = p % len := by omega
section ZVAR
variable {E : Nat × (Nat → Int32)} {y y2 : zY} {pc q i : Nat} {L L' : List (Option Value)} {S S1 st vs : List Value} {sh sh2 sh' : List zS} {m m2 m' : zM} {rv rv2 : Option Value}
theorem Rn.weakm (ks : List Bool) (k : Rn E y pc (zmsk ks L) st sh m rv sh' m') : Rn E y pc L st sh m rv sh' m' := Rn.weak (zmsk_sub ks L) k
theorem zi_irem2 {a b : Int32} (hd : decode y.2.1 pc = .ok (.irem, 1)) (hn : ¬ b = 0) (hq : pc + 1 = q) (k : Rn E y q L (.int (zrem a b) :: st) sh m rv sh' m') : Rn E y pc L (.int b :: .int a :: st) sh m rv sh' m' := zi_irem hd hn hq k
theorem zi_lrem2 {a b : Int64} (hd : decode y.2.1 pc = .ok (.lrem, 1)) (hn : ¬ b = 0) (hq : pc + 1 = q) (k : Rn E y q L (.long (zlrem a b) :: st) sh m rv sh' m') : Rn E y pc L (.long b :: .long a :: st) sh m rv sh' m' := zi_lrem hd hn hq k
theorem zi_ishl2 {a b : Int32} (hd : decode y.2.1 pc = .ok (.ishl, 1)) (hq : pc + 1 = q) (k : Rn E y q L (.int (zshl a b) :: st) sh m rv sh' m') : Rn E y pc L (.int b :: .int a :: st) sh m rv sh' m' := zi_ishl hd hq k
theorem zi_ishr2 {a b : Int32} (hd : decode y.2.1 pc = .ok (.ishr, 1)) (hq : pc + 1 = q) (k : Rn E y q L (.int (zshr a b) :: st) sh m rv sh' m') : Rn E y pc L (.int b :: .int a :: st) sh m rv sh' m' := zi_ishr hd hq k
theorem zi_iald2 {n len b k : Nat} {i : Int32} (hd : decode y.2.1 pc = .ok (.iaload, 1)) (ho : sh[n]? = some (.inl (0, len, b))) (hi : vp_in i len) (hk : i.toNatClampNeg = k) (hq : pc + 1 = q) (kk : Rn E y q L (.int (m.1 n k) :: st) sh m rv sh' m') : Rn E y pc L (.int i :: .ref n :: st) sh m rv sh' m' := by
  subst hk
  exact zi_iald hd ho hi hq kk
theorem zi_bald2 {n len b k : Nat} {i : Int32} (hd : decode y.2.1 pc = .ok (.baload, 1)) (ho : sh[n]? = some (.inl (1, len, b))) (hi : vp_in i len) (hk : i.toNatClampNeg = k) (hq : pc + 1 = q) (kk : Rn E y q L (.int (m.1 n k) :: st) sh m rv sh' m') : Rn E y pc L (.int i :: .ref n :: st) sh m rv sh' m' := by
  subst hk
  exact zi_bald hd ho hi hq kk
theorem zi_iast2 {n len b k : Nat} {i x : Int32} (hd : decode y.2.1 pc = .ok (.iastore, 1)) (ho : sh[n]? = some (.inl (0, len, b))) (hi : vp_in i len) (hk : i.toNatClampNeg = k) (hq : pc + 1 = q) (kk : Rn E y q L st sh (zi m n k x) rv sh' m') : Rn E y pc L (.int x :: .int i :: .ref n :: st) sh m rv sh' m' := by
  subst hk
  exact zi_iast hd ho hi hq kk
theorem zi_bast2 {n len b k : Nat} {i x : Int32} (hd : decode y.2.1 pc = .ok (.bastore, 1)) (ho : sh[n]? = some (.inl (1, len, b))) (hi : vp_in i len) (hk : i.toNatClampNeg = k) (hz : zb x = true) (hq : pc + 1 = q) (kk : Rn E y q L st sh (zi m n k x) rv sh' m') : Rn E y pc L (.int x :: .int i :: .ref n :: st) sh m rv sh' m' := by
  subst hk
  exact zi_bast hd ho hi hz hq kk
theorem zi_aald2 {n len b k : Nat} {i : Int32} (hd : decode y.2.1 pc = .ok (.aaload, 1)) (ho : sh[n]? = some (.inl (2, len, b))) (hi : vp_in i len) (hk : i.toNatClampNeg = k) (hq : pc + 1 = q) (kk : Rn E y q L (.ref (b + m.2.2 n k % len) :: st) sh m rv sh' m') : Rn E y pc L (.int i :: .ref n :: st) sh m rv sh' m' := by
  subst hk
  exact zi_aald hd ho hi hq kk
theorem zi_aast2 {n len b v k0 b0 k w : Nat} {i : Int32} (hd : decode y.2.1 pc = .ok (.aastore, 1)) (ho : sh[n]? = some (.inl (2, len, b))) (hi : vp_in i len) (hk : i.toNatClampNeg = k) (hv : b ≤ v ∧ v < b + len) (hv2 : sh[v]? = some (.inl (0, k0, b0))) (hw : v - b = w) (hq : pc + 1 = q) (kk : Rn E y q L st sh (zr m n k w) rv sh' m') : Rn E y pc L (.ref v :: .int i :: .ref n :: st) sh m rv sh' m' := by
  subst hk
  subst hw
  exact zi_aast hd ho hi hv hv2 hq kk
theorem zc_V2 {n ci : Nat} {rs : List (Option Nat)} {r : vw_C} (hM : zMet E y2 (.ref n :: vs) sh m rv2 sh2 m2) (hd : decode y.2.1 pc = .ok (.invokevirtual i, 3)) (hB : zcB y2 vs.length) (h1 : Cond.methodLink y.1.cls i y2.1 ∈ zALL) (h2 : Cond.instanceMethod y2.1 ∈ zALL) (h3 : Cond.selects y2.1.cls y2.1 y2.1 ∈ zALL) (hR : zrm y y2) (ho : sh[n]? = some (.inr (ci, rs))) (hcl : vwCl[ci]? = some r) (hc2 : r.1 = y2.1.cls) (hS : S = vs.reverse ++ .ref n :: st) (hst : (st.map fun v => v.category).sum ≤ 8) (hok : sh2.length = sh.length ∨ (st.all (zok sh.length) && zokL sh.length L) = true) (hq : pc + 3 = q) (hS1 : rv2.toList ++ st = S1)
    (k : Rn E y q L S1 sh2 m2 rv sh' m') : Rn E y pc L S sh m rv sh' m' := by
  subst hS1
  exact zc_V hM hd hB h1 h2 h3 hR ho hcl hc2 hS hst hok hq k
theorem zc_S2 (hM : zMet E y2 vs sh m rv2 sh2 m2) (hd : decode y.2.1 pc = .ok (.invokestatic i, 3)) (hB : zcB y2 vs.length) (h1 : Cond.methodLink y.1.cls i y2.1 ∈ zALL) (h2 : Cond.static y2.1 ∈ zALL) (hR : zrm y y2) (hS : S = vs.reverse ++ st) (hst : (st.map fun v => v.category).sum ≤ 8) (hok : sh2.length = sh.length ∨ (st.all (zok sh.length) && zokL sh.length L) = true) (hq : pc + 3 = q) (hS1 : rv2.toList ++ st = S1)
    (k : Rn E y q L S1 sh2 m2 rv sh' m') : Rn E y pc L S sh m rv sh' m' := by
  subst hS1
  exact zc_S hM hd hB h1 h2 hR hS hst hok hq k
theorem zc_SN2 {host : String} (hM : zMet E y2 vs sh m rv2 sh2 m2) (hd : decode y.2.1 pc = .ok (.invokestatic i, 3)) (hB : zcB y2 vs.length) (h1 : (y.1.cls, i, y2.1, host) ∈ zNm) (h2 : Cond.static y2.1 ∈ zALL) (hR : zrm y y2) (hS : S = vs.reverse ++ st) (hst : (st.map fun v => v.category).sum ≤ 8) (hok : sh2.length = sh.length ∨ (st.all (zok sh.length) && zokL sh.length L) = true) (hq : pc + 3 = q) (hS1 : rv2.toList ++ st = S1)
    (k : Rn E y q L S1 sh2 m2 rv sh' m') : Rn E y pc L S sh m rv sh' m' := by
  subst hS1
  exact zc_SN hM hd hB h1 h2 hR hS hst hok hq k
end ZVAR
