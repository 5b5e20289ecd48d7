/-! rows of operations, branches, switches, returns, calls, contracts -/
theorem g_rows {X : g_X} {R : Room} {cc : ByteArray} {nL ow : Nat} {ret : Option FieldType} {pc2 : Nat} : ∀ (os : List g_O) (pc : Nat) (L : List (Nat × Value)) (st : List Value) (hp : List g_E) (cs : List Prop) (L2 : List (Nat × Value)) (st2 : List Value) (hp2 : List g_E), g_ck ow cc pc2 pc os = true → g_run R nL os L st hp = some (cs, L2, st2, hp2) → g_all cs → g_G X R cc nL ow ret pc2 L2 st2 hp2 → g_G X R cc nL ow ret pc L st hp
  | [], pc, L, st, hp, cs, L2, st2, hp2, hk, hr, hc, k => by
    cases hr
    have h : pc = pc2 := by simpa [g_ck] using hk
    subst h
    exact k
  | o :: os, pc, L, st, hp, cs, L2, st2, hp2, hk, hr, hc, k => by
    simp only [g_ck, Bool.and_eq_true, decide_eq_true_eq] at hk
    simp only [g_run] at hr
    split at hr
    · cases hr
    · rename_i cs1 L1 st1 hp1 h1
      split at hr
      · cases hr
      · rename_i cs2 z h2
        cases hr
        obtain ⟨c1, c2⟩ := g_all_app.mp hc
        exact g_step hk.1 hk.2.1 h1 c1 (g_rows os _ L1 st1 hp1 cs2 L2 st2 hp2 hk.2.2 h2 c2 k)
/-- a row of operations at once -/
theorem g_blk {X : g_X} {R : Room} {cc : ByteArray} {nL ow : Nat} {ret : Option FieldType} {pc : Nat} {L : List (Nat × Value)} {st : List Value} {hp : List g_E} (pc2 : Nat) (os : List g_O) (cs : List Prop) (L2 : List (Nat × Value)) (st2 : List Value) (hp2 : List g_E) (hk : g_ck ow cc pc2 pc os = true) (hr : g_run R nL os L st hp = some (cs, L2, st2, hp2)) (hc : g_all cs) (k : g_G X R cc nL ow ret pc2 L2 st2 hp2) : g_G X R cc nL ow ret pc L st hp :=
  g_rows os pc L st hp cs L2 st2 hp2 hk hr hc k
/-- the condition of a branch: of the instruction, and the stack behind it -/
def g_cd (i : Instr) (st : List Value) : Option (Prop × List Value) := match i, st with
  | .ifCond .eq _, .int x :: st => some (x = 0, st)
  | .ifCond .ne _, .int x :: st => some (¬ x = 0, st)
  | .ifCond .lt _, .int x :: st => some (x < 0, st)
  | .ifCond .ge _, .int x :: st => some (0 ≤ x, st)
  | .ifCond .gt _, .int x :: st => some (0 < x, st)
  | .ifCond .le _, .int x :: st => some (x ≤ 0, st)
  | .if_icmp .eq _, .int y :: .int x :: st => some (x = y, st)
  | .if_icmp .ne _, .int y :: .int x :: st => some (¬ x = y, st)
  | .if_icmp .lt _, .int y :: .int x :: st => some (x < y, st)
  | .if_icmp .ge _, .int y :: .int x :: st => some (y ≤ x, st)
  | .if_icmp .gt _, .int y :: .int x :: st => some (y < x, st)
  | .if_icmp .le _, .int y :: .int x :: st => some (x ≤ y, st)
  | _, _ => none
def g_off (i : Instr) : Int := match i with
  | .ifCond _ o => o
  | .if_icmp _ o => o
  | _ => 0
def g_bk (cc : ByteArray) (pc tgt : Nat) (i : Instr) : Bool := decide (decode cc pc = .ok (i, 3)) && decide ((pc : Int) + g_off i = (tgt : Int))
set_option maxHeartbeats 4000000 in
theorem g_br {X : g_X} {R : Room} {cc : ByteArray} {nL ow : Nat} {ret : Option FieldType} {pc : Nat} {L : List (Nat × Value)} {st : List Value} {hp : List g_E} (tgt : Nat) (i : Instr) (c : Prop) (st2 : List Value) (hk : g_bk cc pc tgt i = true) (h : g_cd i st = some (c, st2)) (kt : c → g_G X R cc nL ow ret tgt L st2 hp) (kf : ¬ c → g_G X R cc nL ow ret (pc + 3) L st2 hp) : g_G X R cc nL ow ret pc L st hp := by
  obtain ⟨l, p, e, s, m, args, below, meth, c0, D, r, kp, A, Q, nc, ns⟩ := X
  simp only [g_bk, Bool.and_eq_true, decide_eq_true_eq] at hk
  obtain ⟨hd, ht⟩ := hk
  intro hx hb hml hown hts hr hlocks hA hnc hns H locs ls hR hS hL
  unfold g_cd at h
  split at h
  · cases h; exact lv_if_eq hx hb hd ht (fun z => kt z hx hb hml hown hts hr hlocks hA hnc hns H locs ls hR hS hL) (fun z => kf z hx hb hml hown hts hr hlocks hA hnc hns H locs ls hR hS hL)
  · cases h; exact lv_if_ne hx hb hd ht (fun z => kt z hx hb hml hown hts hr hlocks hA hnc hns H locs ls hR hS hL) (fun z => kf (fun n => n z) hx hb hml hown hts hr hlocks hA hnc hns H locs ls hR hS hL)
  · cases h; exact lv_if_lt hx hb hd ht (fun z => kt z hx hb hml hown hts hr hlocks hA hnc hns H locs ls hR hS hL) (fun z => kf z hx hb hml hown hts hr hlocks hA hnc hns H locs ls hR hS hL)
  · cases h; exact lv_if_ge hx hb hd ht (fun z => kt z hx hb hml hown hts hr hlocks hA hnc hns H locs ls hR hS hL) (fun z => kf z hx hb hml hown hts hr hlocks hA hnc hns H locs ls hR hS hL)
  · cases h; exact lv_if_gt hx hb hd ht (fun z => kt z hx hb hml hown hts hr hlocks hA hnc hns H locs ls hR hS hL) (fun z => kf z hx hb hml hown hts hr hlocks hA hnc hns H locs ls hR hS hL)
  · cases h; exact lv_if_le hx hb hd ht (fun z => kt z hx hb hml hown hts hr hlocks hA hnc hns H locs ls hR hS hL) (fun z => kf z hx hb hml hown hts hr hlocks hA hnc hns H locs ls hR hS hL)
  · cases h; exact lv_icmp_eq hx hb hd ht (fun z => kt z hx hb hml hown hts hr hlocks hA hnc hns H locs ls hR hS hL) (fun z => kf z hx hb hml hown hts hr hlocks hA hnc hns H locs ls hR hS hL)
  · cases h; exact lv_icmp_ne hx hb hd ht (fun z => kt z hx hb hml hown hts hr hlocks hA hnc hns H locs ls hR hS hL) (fun z => kf (fun n => n z) hx hb hml hown hts hr hlocks hA hnc hns H locs ls hR hS hL)
  · cases h; exact lv_icmp_lt hx hb hd ht (fun z => kt z hx hb hml hown hts hr hlocks hA hnc hns H locs ls hR hS hL) (fun z => kf z hx hb hml hown hts hr hlocks hA hnc hns H locs ls hR hS hL)
  · cases h; exact lv_icmp_ge hx hb hd ht (fun z => kt z hx hb hml hown hts hr hlocks hA hnc hns H locs ls hR hS hL) (fun z => kf z hx hb hml hown hts hr hlocks hA hnc hns H locs ls hR hS hL)
  · cases h; exact lv_icmp_gt hx hb hd ht (fun z => kt z hx hb hml hown hts hr hlocks hA hnc hns H locs ls hR hS hL) (fun z => kf z hx hb hml hown hts hr hlocks hA hnc hns H locs ls hR hS hL)
  · cases h; exact lv_icmp_le hx hb hd ht (fun z => kt z hx hb hml hown hts hr hlocks hA hnc hns H locs ls hR hS hL) (fun z => kf z hx hb hml hown hts hr hlocks hA hnc hns H locs ls hR hS hL)
  · cases h
/-- the target of a switch: the keys with their targets, one behind the other, else d -/
def g_sw (ks : List (Int32 × Nat)) (d : Nat) (x : Int32) : Nat := match ks with
  | [] => d
  | k :: ks => if x = k.1 then k.2 else g_sw ks d x
def g_swk (cc : ByteArray) (pc d : Nat) (ks : List (Int32 × Nat)) (dflt : Int) (ps : Array (Int × Int)) (len : Nat) : Bool :=
  decide (decode cc pc = .ok (.lookupswitch dflt ps, len)) && (ps.toList.zip (ps.toList.drop 1)).all (fun (a, next) => a.1 < next.1) && decide (ps.toList.map (fun a => (a.1, (pc : Int) + a.2)) = ks.map (fun k => (k.1.toInt, (k.2 : Int)))) && decide ((pc : Int) + dflt = (d : Int))
theorem g_sw_off (pc d : Nat) (dflt : Int) (hd : (pc : Int) + dflt = (d : Int)) (x : Int32) : ∀ (ps : List (Int × Int)) (ks : List (Int32 × Nat)), ps.map (fun a => (a.1, (pc : Int) + a.2)) = ks.map (fun k => (k.1.toInt, (k.2 : Int))) → (pc : Int) + Op.lookupswitch.offset ps dflt x.toInt = (g_sw ks d x : Int)
  | [], [], _ => by simpa [Op.lookupswitch.offset, g_sw] using hd
  | [], k :: ks, h => by simp at h
  | a :: ps, [], h => by simp at h
  | a :: ps, k :: ks, h => by
    simp only [List.map_cons, List.cons.injEq, Prod.mk.injEq] at h
    obtain ⟨⟨h1, h2⟩, h3⟩ := h
    obtain ⟨a1, a2⟩ := a
    by_cases hx : x = k.1
    · rw [Op.lookupswitch.offset_cons, if_pos (by rw [hx]; exact h1)]
      simp only [g_sw, if_pos hx]
      exact h2
    · rw [Op.lookupswitch.offset_cons, if_neg (by
        intro z
        exact hx (Int32.toInt_inj.mp (by rw [← h1]; exact z.symm)))]
      simp only [g_sw, if_neg hx]
      exact g_sw_off pc d dflt hd x ps ks h3
theorem g_lsw {X : g_X} {R : Room} {cc : ByteArray} {nL ow : Nat} {ret : Option FieldType} {pc : Nat} {L : List (Nat × Value)} {st : List Value} {hp : List g_E} {x : Int32} (d : Nat) (ks : List (Int32 × Nat)) (dflt : Int) (ps : Array (Int × Int)) (len : Nat) (hk : g_swk cc pc d ks dflt ps len = true) (k : ∀ t, g_sw ks d x = t → g_G X R cc nL ow ret t L st hp) : g_G X R cc nL ow ret pc L (.int x :: st) hp := by
  obtain ⟨l, p, e, s, m, args, below, meth, c0, D, r, kp, A, Q, nc, ns⟩ := X
  simp only [g_swk, Bool.and_eq_true, decide_eq_true_eq] at hk
  obtain ⟨⟨⟨hd, ho⟩, hm⟩, hdf⟩ := hk
  intro hx hb hml hown hts hr hlocks hA hnc hns H locs ls hR hS hL
  exact lv_lookup hx hb hd ho rfl (g_sw_off pc d dflt hdf x _ _ hm) (k _ rfl hx hb hml hown hts hr hlocks hA hnc hns H locs ls hR hS hL)
def g_tsk (cc : ByteArray) (pc d : Nat) (ks : List (Int32 × Nat)) (dflt lo hi : Int) (os : Array Int) (len : Nat) : Bool :=
  decide (decode cc pc = .ok (.tableswitch dflt lo hi os, len)) && decide ((pc : Int) + dflt = (d : Int)) && decide (lo + os.toList.length = hi + 1) && decide (ks.map (fun k => (k.1.toInt, (k.2 : Int))) = os.toList.mapIdx (fun i o => (lo + (i : Int), (pc : Int) + o)))
theorem g_ts_in (pc d : Nat) (x : Int32) : ∀ (os : List Int) (lo : Int) (ks : List (Int32 × Nat)), ks.map (fun k => (k.1.toInt, (k.2 : Int))) = os.mapIdx (fun i o => (lo + (i : Int), (pc : Int) + o)) → (lo ≤ x.toInt ∧ x.toInt < lo + os.length → ∃ o, os[(x.toInt - lo).toNat]? = some o ∧ (pc : Int) + o = (g_sw ks d x : Int)) ∧ (x.toInt < lo ∨ lo + os.length ≤ x.toInt → g_sw ks d x = d)
  | [], lo, ks, h => by
    simp at h
    subst h
    exact ⟨fun z => by simp at z; omega, fun _ => rfl⟩
  | o :: os, lo, [], h => by simp at h
  | o :: os, lo, k :: ks, h => by
    simp only [List.map_cons, List.mapIdx_cons, List.cons.injEq, Prod.mk.injEq] at h
    obtain ⟨⟨h1, h2⟩, h3⟩ := h
    have h3' : ks.map (fun k => (k.1.toInt, (k.2 : Int))) = os.mapIdx (fun i o => ((lo + 1) + (i : Int), (pc : Int) + o)) := by
      rw [h3]
      congr 1
      funext i o
      simp only [Prod.mk.injEq, and_true]
      omega
    obtain ⟨i1, i2⟩ := g_ts_in pc d x os (lo + 1) ks h3'
    simp at h1 h2
    by_cases hx : x = k.1
    · simp only [g_sw, if_pos hx]
      have hxi : x.toInt = lo := by rw [hx]; exact h1
      refine ⟨fun _ => ⟨o, ?_, h2.symm⟩, fun z => ?_⟩
      · rw [hxi]; simp
      · exfalso
        simp at z
        omega
    · have hne : x.toInt ≠ lo := fun z => hx (Int32.toInt_inj.mp (by rw [h1]; exact z))
      simp only [g_sw, if_neg hx]
      refine ⟨fun z => ?_, fun z => ?_⟩
      · simp at z
        obtain ⟨o', h5, h6⟩ := i1 (by omega)
        refine ⟨o', ?_, h6⟩
        have : (x.toInt - lo).toNat = (x.toInt - (lo + 1)).toNat + 1 := by omega
        rw [this]
        simpa using h5
      · simp at z
        exact i2 (by omega)
theorem g_tsw {X : g_X} {R : Room} {cc : ByteArray} {nL ow : Nat} {ret : Option FieldType} {pc : Nat} {L : List (Nat × Value)} {st : List Value} {hp : List g_E} {x : Int32} (d : Nat) (ks : List (Int32 × Nat)) (dflt lo hi : Int) (os : Array Int) (len : Nat) (hk : g_tsk cc pc d ks dflt lo hi os len = true) (k : ∀ t, g_sw ks d x = t → g_G X R cc nL ow ret t L st hp) : g_G X R cc nL ow ret pc L (.int x :: st) hp := by
  obtain ⟨l, p, e, s, m, args, below, meth, c0, D, r, kp, A, Q, nc, ns⟩ := X
  simp only [g_tsk, Bool.and_eq_true, decide_eq_true_eq] at hk
  obtain ⟨⟨⟨hd, hdf⟩, hlen⟩, hm⟩ := hk
  intro hx hb hml hown hts hr hlocks hA hnc hns H locs ls hR hS hL
  obtain ⟨i1, i2⟩ := g_ts_in pc d x os.toList lo ks hm
  by_cases hin : lo ≤ x.toInt ∧ x.toInt < lo + os.toList.length
  · obtain ⟨o, h1, h2⟩ := i1 hin
    exact lv_tableIn hx hb hd (by omega) (by omega) (by simpa using h1) h2 (k _ rfl hx hb hml hown hts hr hlocks hA hnc hns H locs ls hR hS hL)
  · have h1 := i2 (by omega)
    exact lv_tableOut hx hb hd (by omega) hdf (k _ h1 hx hb hml hown hts hr hlocks hA hnc hns H locs ls hR hS hL)
/-- the end of a method: what it answers, and its cells; the number of cells stays -/
def g_Q (D : va_G) (r : Nat → Nat) (kp : Nat → ClassId) (n : Nat) (post : Option Value → List g_E → Prop) (A : Nat → Prop) : Array Value → State → Outcome → State → Prop := fun _ st oc t =>
  (∃ (rv : Option Value) (hp : List g_E), oc = .returned (rv.map (g_re r)) ∧ post rv hp ∧ hp.length = n ∧ g_R D r kp A hp t t.heap) ∧ va_F A st t
/-- a method's contract: with these arguments and cells it ends, and post holds of its answer and its cells -/
def g_C (l : Launch) (y : MethodName) (cc : ByteArray) (nL : Nat) (ret : Option FieldType) (rm : Room) (av : List Value) (hp : List g_E) (post : Option Value → List g_E → Prop) : Prop :=
  ∀ (D : va_G) (r : Nat → Nat) (kp : Nat → ClassId) (sz : Nat), Met l y (.code y cc nL ret :: g_T) rm (va_Pc (av.map (g_re r)) (fun U => U.heap.size = sz ∧ g_R D r kp (fun _ => True) hp U U.heap)) (g_Q D r kp hp.length post (va_A (g_cW r kp hp) sz)) 0 0 (va_A (g_cW r kp hp) sz)
theorem g_R.moved {D : va_G} {r : Nat → Nat} {kp : Nat → ClassId} {A : Nat → Prop} {hp : List g_E} {s U : State} {H : Heap} (hW : s.WarmedH U.vm) (h : g_R D r kp A hp s H) : g_R D r kp A hp U H :=
  ⟨va_K.moved hW.alike h.1, fun k a hk => ⟨arrOfT_moved hW.alike (h.2.1 k a hk).1, (h.2.1 k a hk).2.moved hW.alike⟩, g_N_warm hW h.2.2.1, h.2.2.2⟩
theorem g_R.weak {D : va_G} {r : Nat → Nat} {kp : Nat → ClassId} {A B : Nat → Prop} {hp : List g_E} {s : State} {H : Heap} (hAB : ∀ (k : Nat) (q : Nat × va_E), (g_cW r kp hp)[k]? = some q → A q.1 → B q.1) (h : g_R D r kp A hp s H) : g_R D r kp B hp s H := ⟨h.1, h.2.1, h.2.2.1, h.2.2.2.1, h.2.2.2.2.weaken hAB⟩
/-- what the contract's place is -/
def g_At (post : Option Value → List g_E → Prop) (n : Nat) (X : g_X) : Prop := match X with
  | (_, _, _, s, _, args, below, _, _, D, r, kp, A, Q, nc, ns) => nc = 0 ∧ ns = 0 ∧ Q = MQ below (g_Q D r kp n post A) args s 0 0 A
theorem g_ofG {l : Launch} {y : MethodName} {cc : ByteArray} {nL : Nat} {ret : Option FieldType} {rm : Room} {av : List Value} {hp : List g_E} {post : Option Value → List g_E → Prop} (ow : Nat) (hy : plainName y.cls = true) (ho : y.cls = g_cn ow) (hn : (av.map fun v => v.category).sum ≤ nL) (k : ∀ X : g_X, g_At post hp.length X → g_G X rm cc nL ow ret 0 (lv_args 0 av) [] hp) : g_C l y cc nL ret rm av hp post := by
  intro D r kp sz
  refine Met.ofW (cc := cc) (maxL := nL) (ret := ret) hy rfl ?_
  intro p e s m args below meth c s₁ B hml hv
  obtain ⟨rfl, hsz, hR0⟩ := hv
  have hts := atoms_spec (ws := .code y cc nL ret :: g_T) B.pre
  have hown : s.vm.findClass (g_cn ow) = some m.cls := by rw [← ho]; exact findClass_of_methodNamed B.named
  subst hsz
  have hR : g_R D r kp (va_A (g_cW r kp hp) s.heap.size) hp s s.heap := ⟨hR0.1, hR0.2.1, hR0.2.2.1, hR0.2.2.2.1, hR0.2.2.2.2.self⟩
  have hlen : ∀ vs : List Value, (lg_sl (vs.map (g_re r))).length = (vs.map fun v => v.category).sum := by
    intro vs
    induction vs with
    | nil => rfl
    | cons v vs ih =>
      have h1 : lg_sl ((v :: vs).map (g_re r)) = lg_sl [g_re r v] ++ lg_sl (vs.map (g_re r)) := by simp [lg_sl]
      rw [h1, List.length_append, ih]
      have h2 : (lg_sl [g_re r v]).length = v.category := by cases v <;> rfl
      rw [h2]
      simp
  have hl := lv_entry (av.map (g_re r)) (n := nL) (by rw [hlen]; exact hn)
  have hla : ∀ (i : Nat) (vs : List Value), lv_args i (vs.map (g_re r)) = g_L r (lv_args i vs) := by
    intro i vs
    induction vs generalizing i with
    | nil => rfl
    | cons v vs ih =>
      simp only [List.map_cons, lv_args, g_cat]
      rw [ih]
      rfl
  rw [hla] at hl
  rw [lg_entry_eq]
  exact k (l, p, e, s, m, (av.map (g_re r)).toArray, below, meth, c, D, r, kp, va_A (g_cW r kp hp) s.heap.size, _, 0, 0) ⟨rfl, rfl, rfl⟩ B.exec B.bytes hml hown (fun w hw => hts w (List.mem_cons_of_mem _ hw)) B.returns B.notSynchronized (fun q h => Or.inr h) (Nat.zero_le _) (Nat.zero_le _) s.heap [] _ hR va_S.rf hl
section RET
variable {post : Option Value → List g_E → Prop} {n : Nat} {X : g_X} {R : Room} {cc : ByteArray} {nL ow : Nat} {pc : Nat} {L : List (Nat × Value)} {hp : List g_E}
theorem g_iret {v : Int32} (hX : g_At post n X) (hd : decode cc pc = .ok (.ireturn, 1)) (hn : hp.length = n) (h : post (some (.int v)) hp) : g_G X R cc nL ow (some .int) pc L [.int v] hp := by
  obtain ⟨l, p, e, s, m, args, below, meth, c, D, r, kp, A, Q, nc, ns⟩ := X
  obtain ⟨h1, h2, h3⟩ : nc = 0 ∧ ns = 0 ∧ Q = _ := hX
  subst h1 h2 h3
  intro hx hb hml hown hts hr hlocks hA hnc hns H locs ls hR hS hL
  exact W.iret (v := v) hx hb hr (fun t ht hW => ⟨⟨some (.int v), hp, rfl, h, hn, by rw [ht]; exact hR.moved hW⟩, hS.F ht⟩) hS.2.2 hd hlocks
theorem g_zret {v : Int32} (hX : g_At post n X) (hd : decode cc pc = .ok (.ireturn, 1)) (hn : hp.length = n) (hv : v = 0 ∨ v = 1) (h : post (some (.int v)) hp) : g_G X R cc nL ow (some .boolean) pc L [.int v] hp := by
  obtain ⟨l, p, e, s, m, args, below, meth, c, D, r, kp, A, Q, nc, ns⟩ := X
  obtain ⟨h1, h2, h3⟩ : nc = 0 ∧ ns = 0 ∧ Q = _ := hX
  subst h1 h2 h3
  intro hx hb hml hown hts hr hlocks hA hnc hns H locs ls hR hS hL
  exact W.zret (v := v) (ty := .boolean) hx hb hr (by rcases hv with rfl | rfl <;> rfl) (fun t ht hW => ⟨⟨some (.int v), hp, rfl, h, hn, by rw [ht]; exact hR.moved hW⟩, hS.F ht⟩) hS.2.2 hd hlocks
theorem g_lret {v : Int64} (hX : g_At post n X) (hd : decode cc pc = .ok (.lreturn, 1)) (hn : hp.length = n) (h : post (some (.long v)) hp) : g_G X R cc nL ow (some .long) pc L [.long v] hp := by
  obtain ⟨l, p, e, s, m, args, below, meth, c, D, r, kp, A, Q, nc, ns⟩ := X
  obtain ⟨h1, h2, h3⟩ : nc = 0 ∧ ns = 0 ∧ Q = _ := hX
  subst h1 h2 h3
  intro hx hb hml hown hts hr hlocks hA hnc hns H locs ls hR hS hL
  exact W.lret (v := v) hx hb hr (fun t ht hW => ⟨⟨some (.long v), hp, rfl, h, hn, by rw [ht]; exact hR.moved hW⟩, hS.F ht⟩) hS.2.2 hd hlocks
theorem g_vret (hX : g_At post n X) (hd : decode cc pc = .ok (.return_, 1)) (hn : hp.length = n) (h : post none hp) : g_G X R cc nL ow none pc L [] hp := by
  obtain ⟨l, p, e, s, m, args, below, meth, c, D, r, kp, A, Q, nc, ns⟩ := X
  obtain ⟨h1, h2, h3⟩ : nc = 0 ∧ ns = 0 ∧ Q = _ := hX
  subst h1 h2 h3
  intro hx hb hml hown hts hr hlocks hA hnc hns H locs ls hR hS hL
  exact W.vret hx hb hr (fun t ht hW => ⟨⟨none, hp, rfl, h, hn, by rw [ht]; exact hR.moved hW⟩, hS.F ht⟩) hS.2.2 hd hlocks
end RET
