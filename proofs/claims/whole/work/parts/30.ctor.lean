/-! cells that are made: a new cell's place is the number of cells so far; 1000 is a place that is only named -/
def g_ag (n : Nat) (r r2 : Nat → Nat) : Prop := (∀ k, k < n → r k = r2 k) ∧ r 1000 = r2 1000
theorem g_ag.symm {n : Nat} {r r2 : Nat → Nat} (h : g_ag n r r2) : g_ag n r2 r := ⟨fun k hk => (h.1 k hk).symm, h.2.symm⟩
theorem g_ag.mono {n n2 : Nat} {r r2 : Nat → Nat} (h : g_ag n2 r r2) (hn : n ≤ n2) : g_ag n r r2 := ⟨fun k hk => h.1 k (by omega), h.2⟩
theorem g_ag.trans {n : Nat} {r r2 r3 : Nat → Nat} (h : g_ag n r r2) (h2 : g_ag n r2 r3) : g_ag n r r3 := ⟨fun k hk => (h.1 k hk).trans (h2.1 k hk), h.2.trans h2.2⟩
/-- a cell whose references are places below n (or the named one) -/
def g_ecl (n : Nat) (e : g_E) : Prop := ∀ r r2 : Nat → Nat, g_ag n r r2 → g_rnE r e = g_rnE r2 e
def g_cld (hp : List g_E) : Prop := ∀ (k : Nat) (e : g_E), hp[k]? = some e → g_ecl hp.length e
theorem g_ecl.mono {n n2 : Nat} {e : g_E} (h : g_ecl n e) (hn : n ≤ n2) : g_ecl n2 e := fun r r2 ha => h r r2 (ha.mono hn)
def g_vcl (n : Nat) (v : Value) : Bool := match v with
  | .ref k => decide (k < n) || Nat.beq k 1000
  | _ => true
theorem g_vcl_re {n : Nat} {v : Value} {r r2 : Nat → Nat} (h : g_vcl n v = true) (ha : g_ag n r r2) : g_re r v = g_re r2 v := by
  cases v <;> try rfl
  rename_i k
  simp only [g_vcl, Bool.or_eq_true, decide_eq_true_eq] at h
  simp only [g_re]
  rcases h with h | h
  · rw [ha.1 k h]
  · rw [Nat.eq_of_beq_eq_true h, ha.2]
theorem g_vcl_all {n : Nat} {vs : List Value} {r r2 : Nat → Nat} (h : vs.all (g_vcl n) = true) (ha : g_ag n r r2) : vs.map (g_re r) = vs.map (g_re r2) := by
  apply List.map_congr_left
  intro v hv
  exact g_vcl_re (List.all_eq_true.mp h v hv) ha
theorem g_lcl_all {n : Nat} {L : List (Nat × Value)} {r r2 : Nat → Nat} (h : L.all (fun q => g_vcl n q.2) = true) (ha : g_ag n r r2) : g_L r L = g_L r2 L := by
  apply List.map_congr_left
  intro q hq
  rw [g_vcl_re (List.all_eq_true.mp h q hq) ha]
theorem g_cE_eq {r r2 : Nat → Nat} {kp kp2 : Nat → ClassId} {k : Nat} {e : g_E} (h : g_rnE r e = g_rnE r2 e) (hk : kp k = kp2 k) : g_cE r kp k e = g_cE r2 kp2 k e := by
  cases e with
  | inl a =>
    simp only [g_rnE, Sum.inl.injEq, Prod.mk.injEq, true_and] at h
    simp only [g_cE, h, hk]
  | inr o =>
    simp only [g_rnE, Sum.inr.injEq, Prod.mk.injEq, true_and] at h
    simp only [g_cE, h]
theorem g_ecl_o {n : Nat} {ci : Nat} {fs : List Value} (h : fs.all (g_vcl n) = true) : g_ecl n (.inr (ci, fs)) := fun r r2 ha => by
  simp only [g_rnE]
  rw [g_vcl_all h ha]
theorem g_ecl_set {n ci k : Nat} {fs : List Value} {v : Value} (h : g_ecl n (.inr (ci, fs))) (hv : g_vcl n v = true) : g_ecl n (.inr (ci, fs.set k v)) := fun r r2 ha => by
  have h1 := h r r2 ha
  simp only [g_rnE, Sum.inr.injEq, Prod.mk.injEq, true_and] at h1
  simp only [g_rnE, List.map_set, h1, g_vcl_re hv ha]
theorem g_ecl_i (n : Nat) (ty : FieldType) (m : Nat) (f : Nat → Int32) : g_ecl n (.inl (ty, m, .inl f)) := fun _ _ _ => rfl
theorem g_ecl_l (n : Nat) (ty : FieldType) (m : Nat) (f : Nat → Int64) : g_ecl n (.inl (ty, m, .inr (.inl f))) := fun _ _ _ => rfl
theorem g_ecl_q {n : Nat} (ty : FieldType) (m : Nat) {f : Nat → Option Nat} (h : ∀ j a, f j = some a → a < n) : g_ecl n (.inl (ty, m, .inr (.inr (.inr (.inr f))))) := fun r r2 ha => by
  simp only [g_rnE, g_rA]
  refine congrArg (fun z => (Sum.inl (ty, m, .inr (.inr (.inr (.inr z)))) : g_E)) (funext fun j => ?_)
  cases hj : f j with
  | none => rfl
  | some a => simp [ha.1 a (h j a hj)]
theorem g_ecl_up {n : Nat} {ty : FieldType} {m i v : Nat} {f : Nat → Option Nat} (h : g_ecl n (.inl (ty, m, .inr (.inr (.inr (.inr f)))))) (hv : v < n) : g_ecl n (.inl (ty, m, .inr (.inr (.inr (.inr (va_up f i (some v))))))) := fun r r2 ha => by
  have h1 := h r r2 ha
  simp only [g_rnE, g_rA, Sum.inl.injEq, Prod.mk.injEq, true_and, Sum.inr.injEq] at h1
  simp only [g_rnE, g_rA]
  refine congrArg (fun z => (Sum.inl (ty, m, .inr (.inr (.inr (.inr z)))) : g_E)) (funext fun j => ?_)
  by_cases hj : j = i
  · simp [va_up, hj, ha.1 v hv]
  · simp only [va_up, if_neg hj]
    exact congrFun h1 j
theorem g_cld.set {hp : List g_E} {q : Nat} {e : g_E} (h : g_cld hp) (he : g_ecl hp.length e) : g_cld (hp.set q e) := by
  intro k e2 hk
  rw [List.length_set]
  by_cases hq : q = k
  · subst hq
    rw [List.getElem?_set] at hk
    simp only [if_true] at hk
    split at hk
    · cases hk; exact he
    · cases hk
  · rw [List.getElem?_set_ne hq] at hk
    exact h k e2 hk
theorem g_cld.push {hp : List g_E} {e : g_E} (h : g_cld hp) (he : g_ecl (hp.length + 1) e) : g_cld (hp ++ [e]) := by
  intro k e2 hk
  rw [List.length_append]
  by_cases hl : k < hp.length
  · rw [List.getElem?_append_left hl] at hk
    exact (h k e2 hk).mono (by simp)
  · rw [List.getElem?_append_right (by omega)] at hk
    have hz : k - hp.length < 1 := (List.getElem?_eq_some_iff.mp hk).1
    rw [show k - hp.length = 0 by omega] at hk
    cases hk
    exact he
set_option maxHeartbeats 4000000 in
theorem g_s_cl {R : Room} {nL : Nat} {o : g_O} {L L2 : List (Nat × Value)} {st st2 : List Value} {hp hp2 : List g_E} {cs : List Prop} (h : g_s R nL o L st hp = some (cs, L2, st2, hp2)) (hcl : g_cld hp) : g_cld hp2 ∧ hp2.length = hp.length := by
  obtain ⟨i, a, b, c, d⟩ := o
  cases i <;> first
    | (exfalso; revert h; simp [g_s]; done)
    | (simp only [g_s, g_ldI, g_ldL, g_ldA, g_i2, g_i2d, g_l2, g_li, g_put, g_put2] at h; (repeat' split at h) <;> first | (cases h; done) | (cases h; exact ⟨hcl, rfl⟩); done)
    | skip
  case putfield ix =>
    simp only [g_s] at h
    repeat' split at h
    all_goals first
      | (cases h; done)
      | skip
    · rename_i x q st0 _ ci fs hq _
      cases h
      exact ⟨hcl.set (g_ecl_set (hcl q _ hq) rfl), List.length_set⟩
    · rename_i x q st0 _ ci fs hq _
      cases h
      exact ⟨hcl.set (g_ecl_set (hcl q _ hq) rfl), List.length_set⟩
  case iastore =>
    simp only [g_s] at h
    repeat' split at h
    all_goals first
      | (cases h; done)
      | (cases h; exact ⟨hcl.set (g_ecl_i _ _ _ _), List.length_set⟩)
  case bastore =>
    simp only [g_s] at h
    repeat' split at h
    all_goals first
      | (cases h; done)
      | (cases h; exact ⟨hcl.set (g_ecl_i _ _ _ _), List.length_set⟩)
  case lastore =>
    simp only [g_s] at h
    repeat' split at h
    all_goals first
      | (cases h; done)
      | (cases h; exact ⟨hcl.set (g_ecl_l _ _ _ _), List.length_set⟩)
  case aastore =>
    simp only [g_s] at h
    split at h
    · split at h
      · rename_i v i q st0 _ _ C n f ci fs hq hv
        split at h
        · cases h
          exact ⟨hcl.set (g_ecl_up (hcl q _ hq) (List.getElem?_eq_some_iff.mp hv).1), List.length_set⟩
        · cases h
      · cases h
    · cases h
  case invokestatic ix =>
    simp only [g_s] at h
    repeat' split at h
    all_goals first
      | (cases h; done)
      | (cases h; exact ⟨hcl, rfl⟩)
      | (cases h; exact ⟨hcl.set (g_ecl_i _ _ _ _), List.length_set⟩)
theorem g_run_cl {R : Room} {nL : Nat} : ∀ (os : List g_O) {L L2 : List (Nat × Value)} {st st2 : List Value} {hp hp2 : List g_E} {cs : List Prop}, g_run R nL os L st hp = some (cs, L2, st2, hp2) → g_cld hp → g_cld hp2 ∧ hp2.length = hp.length
  | [], L, L2, st, st2, hp, hp2, cs, h, hcl => by
    cases h
    exact ⟨hcl, rfl⟩
  | o :: os, L, L2, st, st2, hp, hp2, cs, h, hcl => by
    simp only [g_run] at h
    split at h
    · cases h
    · rename_i cs1 L1 st1 hp1 h1
      split at h
      · cases h
      · rename_i cs2 z h2
        cases h
        obtain ⟨c1, c2⟩ := g_s_cl h1 hcl
        obtain ⟨c3, c4⟩ := g_run_cl os h2 c1
        exact ⟨c3, c4.trans c2⟩
/-- the same place, with other addresses told and more cells made -/
def g_up (X : g_X) (r2 : Nat → Nat) (kp2 : Nat → ClassId) (dc ds : Nat) : g_X := match X with
  | (l, p, e, s, m, args, below, meth, c, D, _, _, A, Q, nc, ns) => (l, p, e, s, m, args, below, meth, c, D, r2, kp2, A, Q, nc + dc, ns + ds)
def g_r (X : g_X) : Nat → Nat := match X with
  | (_, _, _, _, _, _, _, _, _, _, r, _, _, _, _, _) => r
def g_kp (X : g_X) : Nat → ClassId := match X with
  | (_, _, _, _, _, _, _, _, _, _, _, kp, _, _, _, _) => kp
def g_nc (X : g_X) : Nat := match X with
  | (_, _, _, _, _, _, _, _, _, _, _, _, _, _, nc, _) => nc
def g_ns (X : g_X) : Nat := match X with
  | (_, _, _, _, _, _, _, _, _, _, _, _, _, _, _, ns) => ns
theorem g_cW_push {r : Nat → Nat} {kp : Nat → ClassId} {hp : List g_E} {q : Nat} {cA : ClassId} {e : g_E} (hcl : g_cld hp) (hn : hp.length < 1000) : g_cW (va_up r hp.length q) (va_up kp hp.length cA) (hp ++ [e]) = g_cW r kp hp ++ [(q, g_cE (va_up r hp.length q) (va_up kp hp.length cA) hp.length e)] := by
  have hag : g_ag hp.length (va_up r hp.length q) r := ⟨fun k hk => by simp [va_up, Nat.ne_of_lt hk], by simp [va_up, show (1000 : Nat) ≠ hp.length by omega]⟩
  apply List.ext_getElem?
  intro k
  have hlen : (g_cW r kp hp).length = hp.length := by simp [g_cW]
  by_cases hl : k < hp.length
  · rw [List.getElem?_append_left (by rw [hlen]; exact hl)]
    have he : hp[k]? = some hp[k] := List.getElem?_eq_getElem hl
    rw [g_cW_at he, g_cW_at (by rw [List.getElem?_append_left hl]; exact he)]
    rw [g_cE_eq (kp2 := kp) (hcl k _ he _ _ hag) (by simp [va_up, Nat.ne_of_lt hl])]
    rw [hag.1 k hl]
  · rw [List.getElem?_append_right (by rw [hlen]; omega), hlen]
    by_cases hk : k = hp.length
    · subst hk
      rw [g_cW_at (e := e) (by rw [List.getElem?_append_right (by omega)]; simp)]
      simp [va_up]
    · have h1 : (g_cW (va_up r hp.length q) (va_up kp hp.length cA) (hp ++ [e]))[k]? = none := by
        rw [List.getElem?_eq_none_iff]
        simp [g_cW]
        omega
      rw [h1, eq_comm, List.getElem?_eq_none_iff]
      simp
      omega
theorem g_R.push {D : va_G} {r : Nat → Nat} {kp : Nat → ClassId} {A : Nat → Prop} {hp : List g_E} {U : State} {H H1 : Heap} {q : Nat} {cA : ClassId} {e : g_E} {ve : va_E} (hR : g_R D r kp A hp U H) (hcl : g_cld hp) (hn : hp.length < 1000) (hve : g_cE (va_up r hp.length q) (va_up kp hp.length cA) hp.length e = ve) (hty : ∀ a, e = .inl a → ArrOfT U cA a.1 ∧ va_RA U cA a.1) (hP : va_P D g_cl (g_cW r kp hp ++ [(q, ve)]) H1) (hD : va_D A (g_cW r kp hp ++ [(q, ve)])) : g_R D (va_up r hp.length q) (va_up kp hp.length cA) A (hp ++ [e]) U H1 := by
  refine ⟨hR.1, fun k a hk => ?_, hR.2.2.1, by rw [g_cW_push hcl hn, hve]; exact hP, by rw [g_cW_push hcl hn, hve]; exact hD⟩
  by_cases hl : k < hp.length
  · rw [List.getElem?_append_left hl] at hk
    rw [show va_up kp hp.length cA k = kp k by simp [va_up, Nat.ne_of_lt hl]]
    exact hR.2.1 k a hk
  · rw [List.getElem?_append_right (by omega)] at hk
    have hz : k - hp.length < 1 := (List.getElem?_eq_some_iff.mp hk).1
    have hk0 : k = hp.length := by omega
    subst hk0
    rw [Nat.sub_self] at hk
    cases hk
    rw [show va_up kp hp.length cA hp.length = cA by simp [va_up]]
    exact hty a rfl
section MAKE
variable {X : g_X} {R : Room} {cc : ByteArray} {nL ow : Nat} {ret : Option FieldType} {pc : Nat} {L : List (Nat × Value)} {st : List Value} {hp : List g_E}
theorem g_upag (r : Nat → Nat) (n q : Nat) (hn : n < 1000) : g_ag n r (va_up r n q) := ⟨fun k hk => by simp [va_up, Nat.ne_of_lt hk], by simp [va_up, show (1000 : Nat) ≠ n by omega]⟩
/-- a new object -/
theorem g_new (ix ci : Nat) (fs : List Value) (hd : decode cc pc = .ok (.new ix, 3)) (hci : ci < 8) (hl : Cond.classLink (g_cn ow) ix (g_cn ci) ∈ g_T) (hi : Cond.instantiable (g_cn ci) (g_Nc ci) ∈ g_T) (hini : Cond.initialized (g_cn ci) ∈ g_T) (hfs : ∀ j, j < g_Nc ci → defaultValue (g_tc ci j) = vp_V fs j) (hno : fs.all (g_vcl 0) = true) (hno2 : fs.all (fun v => match v with
    | .ref _ => false
    | _ => true) = true) (hcl : g_cld hp) (hn : hp.length < 1000) (hLc : L.all (fun q => g_vcl hp.length q.2) = true) (hsc : st.all (g_vcl hp.length) = true) (hcap : g_nc X + 1 ≤ R.cells ∧ g_ns X + g_Nc ci ≤ R.slots)
    (k : ∀ r2 kp2, g_ag hp.length (g_r X) r2 → (∀ k, k < hp.length → g_kp X k = kp2 k) → g_cld (hp ++ [.inr (ci, fs)]) → g_G (g_up X r2 kp2 1 (g_Nc ci)) R cc nL ow ret (pc + 3) L (.ref hp.length :: st) (hp ++ [.inr (ci, fs)])) : g_G X R cc nL ow ret pc L st hp := by
  obtain ⟨l, p, e, s, m, args, below, meth, c, D, r, kp, A, Q, nc, ns⟩ := X
  intro hx hb hml hown hts hr hlocks hA hnc hns H locs ls hR hS hL
  refine va_new (D := D) (ci := ci) (fs := fs) hx hb hts (g_in ci hci) (g_tc ci) (g_ty ci hci) hown (hts _ hl) (hts _ hi) (hts _ hini) hR.1 hR.2.2.2.1 hR.2.2.2.2 hS hA (g_cl_at ci hci) hfs hcap.1 hcap.2 hd (fun q H1 hP1 hD1 hS1 => ?_)
  have hag := g_upag r hp.length q hn
  have hid : fs.map (g_re (va_up r hp.length q)) = fs := by
    rw [List.map_congr_left (g := id) (fun v hv => ?_), List.map_id]
    have h1 := List.all_eq_true.mp hno2 v hv
    cases v <;> first | rfl | cases h1
  have hR2 := hR.push (q := q) (cA := kp hp.length) (e := .inr (ci, fs)) (ve := .inr (ci, fs)) hcl hn (by simp only [g_cE, hid]) (fun a h => by cases h) hP1 hD1
  have hk := k (va_up r hp.length q) (va_up kp hp.length (kp hp.length)) hag (fun j hj => by simp [va_up, Nat.ne_of_lt hj, g_kp]) (hcl.push ((g_ecl_o hno).mono (Nat.zero_le _))) hx hb hml hown hts hr hlocks hA hcap.1 hcap.2 H1 locs ls hR2 hS1 (by rw [← g_lcl_all hLc hag]; exact hL)
  simp only [List.map_cons] at hk
  rw [← g_vcl_all hsc hag] at hk
  simpa [g_re, va_up] using hk
/-- a new array of ints, longs, booleans -/
theorem g_newa (atype : ArrayType) (ty : FieldType) (N' : Nat) (n : Int32) (a0 : vp_A) (hd : decode cc pc = .ok (.newarray atype, 2)) (hty : newarray.typeOf atype = ty) (harr : Cond.arrayClass ty ∈ g_T) (ha : ∀ cA : ClassId, vp_cell cA a0 = arrV cA N' (fun _ => defaultValue ty)) (hra : ∀ r, g_rA r a0 = a0) (hpos : ¬ n < 0) (hN : n.toNatClampNeg = N') (hby : N' * componentBytes ty ≤ 536870912)
    (hcl : g_cld hp) (hn : hp.length < 1000) (hLc : L.all (fun q => g_vcl hp.length q.2) = true) (hsc : st.all (g_vcl hp.length) = true) (hcap : g_nc X + 1 ≤ R.cells ∧ g_ns X + N' ≤ R.slots)
    (k : ∀ r2 kp2, g_ag hp.length (g_r X) r2 → (∀ k, k < hp.length → g_kp X k = kp2 k) → g_cld (hp ++ [.inl (ty, a0)]) → g_G (g_up X r2 kp2 1 N') R cc nL ow ret (pc + 2) L (.ref hp.length :: st) (hp ++ [.inl (ty, a0)])) : g_G X R cc nL ow ret pc L (.int n :: st) hp := by
  obtain ⟨l, p, e, s, m, args, below, meth, c, D, r, kp, A, Q, nc, ns⟩ := X
  intro hx hb hml hown hts hr hlocks hA hnc hns H locs ls hR hS hL
  refine va_newa (D := D) (tys := []) hx hb (by rw [hty]; exact hts _ harr) hty hR.1 hR.2.2.2.1 hR.2.2.2.2 hS hA ha hpos hN hby hcap.1 hcap.2 hd (fun q cA H1 hK1 hP1 hD1 hS1 => ?_)
  have hag := g_upag r hp.length q hn
  have hR2 := hR.push (q := q) (cA := cA) (e := .inl (ty, a0)) (ve := .inl (cA, a0)) hcl hn (by simp only [g_cE, hra]; simp [va_up]) (fun a h => by cases h; exact hK1.2 0 _ rfl) hP1 hD1
  have hk := k (va_up r hp.length q) (va_up kp hp.length cA) hag (fun j hj => by simp [va_up, Nat.ne_of_lt hj, g_kp]) (hcl.push (fun r1 r2 _ => by simp only [g_rnE, hra])) hx hb hml hown hts hr hlocks hA hcap.1 hcap.2 H1 locs ls hR2 hS1 (by rw [← g_lcl_all hLc hag]; exact hL)
  simp only [List.map_cons] at hk
  rw [← g_vcl_all hsc hag] at hk
  simpa [g_re, va_up] using hk
/-- a new array of references -/
theorem g_newq (ix ci N' : Nat) (n : Int32) (hd : decode cc pc = .ok (.anewarray ix, 3)) (hl : Cond.classLink (g_cn ow) ix (g_cn ci) ∈ g_T) (hov : Cond.arrayOver (.object (g_cn ci)) ∈ g_N) (hpos : ¬ n < 0) (hN : n.toNatClampNeg = N') (hby : N' * 4 ≤ 536870912)
    (hcl : g_cld hp) (hn : hp.length < 1000) (hLc : L.all (fun q => g_vcl hp.length q.2) = true) (hsc : st.all (g_vcl hp.length) = true) (hcap : g_nc X + 1 ≤ R.cells ∧ g_ns X + N' ≤ R.slots)
    (k : ∀ r2 kp2, g_ag hp.length (g_r X) r2 → (∀ k, k < hp.length → g_kp X k = kp2 k) → g_cld (hp ++ [.inl (.object (g_cn ci), N', .inr (.inr (.inr (.inr (fun _ => none)))))]) → g_G (g_up X r2 kp2 1 N') R cc nL ow ret (pc + 3) L (.ref hp.length :: st) (hp ++ [.inl (.object (g_cn ci), N', .inr (.inr (.inr (.inr (fun _ => none)))))])) : g_G X R cc nL ow ret pc L (.int n :: st) hp := by
  obtain ⟨l, p, e, s, m, args, below, meth, c, D, r, kp, A, Q, nc, ns⟩ := X
  intro hx hb hml hown hts hr hlocks hA hnc hns H locs ls hR hS hL
  have hov2 : va_AO (g_cn ci) s := hR.2.2.1 _ hov
  refine va_newq (D := D) (tys := []) hx hb hown (hts _ hl) hov2 hR.1 hR.2.2.2.1 hR.2.2.2.2 hS hA hpos hN hby hcap.1 hcap.2 hd (fun q cA H1 hK1 hP1 hD1 hS1 => ?_)
  have hag := g_upag r hp.length q hn
  have hR2 := hR.push (q := q) (cA := cA) (e := .inl (.object (g_cn ci), N', .inr (.inr (.inr (.inr (fun _ => none)))))) (ve := .inl (cA, N', .inr (.inr (.inr (.inr (fun _ => none)))))) hcl hn (by simp [g_cE, g_rA, va_up]) (fun a h => by cases h; exact hK1.2 0 _ rfl) hP1 hD1
  have hk := k (va_up r hp.length q) (va_up kp hp.length cA) hag (fun j hj => by simp [va_up, Nat.ne_of_lt hj, g_kp]) (hcl.push (g_ecl_q _ _ (fun j a h => by cases h))) hx hb hml hown hts hr hlocks hA hcap.1 hcap.2 H1 locs ls hR2 hS1 (by rw [← g_lcl_all hLc hag]; exact hL)
  simp only [List.map_cons] at hk
  rw [← g_vcl_all hsc hag] at hk
  simpa [g_re, va_up] using hk
/-- Object's own constructor -/
theorem g_oin (ix q : Nat) (hd : decode cc pc = .ok (.invokespecial ix, 3)) (hl : Cond.methodLink (g_cn ow) ix Lib.objectInit ∈ g_T) (hi : Cond.instanceMethod Lib.objectInit ∈ g_T) (hc : Cond.code Lib.objectInit ⟨#[0xb1]⟩ 1 none ∈ g_T) (hf : 1 ≤ R.frames) (hlo : (st.map fun v => v.category).sum + 12 ≤ R.locals) (k : g_G X R cc nL ow ret (pc + 3) L st hp) : g_G X R cc nL ow ret pc L (.ref q :: st) hp := by
  obtain ⟨l, p, e, s, m, args, below, meth, c, D, r, kp, A, Q, nc, ns⟩ := X
  intro hx hb hml hown hts hr hlocks hA hnc hns H locs ls hR hS hL
  refine W.objInit hx hb hown (hts _ hl) (hts _ hi) (hts _ hc) rfl (by rw [hml]; exact hL.1) rfl hd hf ?_ (k hx hb hml hown hts hr hlocks hA hnc hns H locs ls hR hS hL)
  show 2 * 0 + ((st.map (g_re r)).map fun v => v.category).sum + 12 ≤ R.locals
  rw [g_cats]
  omega
/-- is it a constructor's body -/
def g_ctor (X : g_X) : Prop := match X with
  | (_, _, _, _, _, _, _, meth, _, _, _, _, _, _, _, _) => meth.name = "<init>"
/-- a final field that holds a reference -/
theorem g_putF (ix ci kf q v : Nat) (fs : List Value) (hX : g_ctor X) (hd : decode cc pc = .ok (.putfield ix, 3)) (hci : ci < 8) (hk : kf < g_Nc ci) (hq : hp[q]? = some (.inr (ci, fs))) (hl : Cond.fieldLink (g_cn ow) ix (g_cn ci) (g_Tc ci kf).2.1 (g_Tc ci kf).2.2.1 ∈ g_T) (hsame : (g_Tc ci kf).1 = g_cn ci) (hown2 : g_cn ci = g_cn ow) (hfin : (g_Tc ci kf).2.2.2 = true) (hr1 : narrow (g_tc ci kf) (.ref 0) = .ref 0) (hty : match g_tc ci kf with
    | .object _ => True
    | .array _ => True
    | _ => False) (hlen : kf < fs.length) (k : g_G X R cc nL ow ret (pc + 3) L st (hp.set q (.inr (ci, fs.set kf (.ref v))))) : g_G X R cc nL ow ret pc L (.ref v :: .ref q :: st) hp := by
  obtain ⟨l, p, e, s, m, args, below, meth, c, D, r, kp, A, Q, nc, ns⟩ := X
  intro hx hb hml hown hts hr hlocks hA hnc hns H locs ls hR hS hL
  have hset : ((r q, .inr (ci, (fs.map (g_re r)).set kf (.ref (r v)))) : Nat × va_E) = (r q, g_cE r kp q (.inr (ci, fs.set kf (.ref v)))) := by
    simp only [g_cE, List.map_set]; rfl
  have hnar : ∀ z : Nat, narrow (g_tc ci kf) (.ref z) = .ref z ∧ fits (g_tc ci kf) (.ref z) = true := by
    intro z
    cases ht : g_tc ci kf <;> rw [ht] at hty <;> first | exact ⟨rfl, rfl⟩ | cases hty
  refine va_putF (D := D) (tys := []) (ref := g_cn ci) (v := .ref (r v)) hx hb hts (g_in ci hci) (g_tc ci) (g_ty ci hci) (g_nm ci hci) hown hR.1 hR.2.2.2.1 hR.2.2.2.2 hS q (g_cW_at hq) (g_cl_at ci hci) kf hk (hts _ hl) (fun x h9 => by rw [hsame] at h9; exact h9) hfin hX (by rw [hsame]; exact hown2) (g_ty ci hci kf hk) (hnar _).1 (hnar _).2 (by rw [List.length_map]; exact hlen) hd (fun H1 locs1 hP1 hD1 hS1 => ?_)
  rw [hset] at hP1 hD1
  exact k hx hb hml hown hts hr hlocks hA hnc hns H1 locs1 ls (hR.set hq (fun a h => by cases h) hP1 hD1) hS1 hL
end MAKE
