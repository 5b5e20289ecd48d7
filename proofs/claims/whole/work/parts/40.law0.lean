/-! THE CLAIM OUT OF ONE WALK OF THE LAW'S BODY. Your part is whole_start (and what it stands on); all else here is the same for every law, but numbers. -/
def R_law : String := "LassoPathsLaw"
def lw_P (b : Addr) (xs : List Int32) (args : Array Value) (s : State) : Prop := args = #[.ref b] ∧ s.IntsAt b xs ∧ xs.length ≤ 2048 ∧ (Jvm.Cond.and given_1 narrow_1).before args s = true
def lw_Q (_ : Array Value) (s : State) (o : Outcome) (t : State) : Prop := o = .returned (some (.int 1)) ∧ Framed s o t [] 600000 7302249
def lw_Z (below : List Frame) (a : Array Value) (s : State) : State → Prop := fun t => ∃ o, t.status = .running ∧ Ended t below o ∧ lw_Q a s o t
/-- the law's own end, with 1 on the stack, nothing written that was there before, its room as the claim has it -/
theorem lw_ret {p : Program} {l : Launch} {e : Env} {s : State} {m : MethodId} {below : List Frame} {meth : Method} {c : Code} {b : Nat} (hx : p.tables.exec = Jvm.exec) (hb : c.code = code) (hr : meth.sig.returnType = ret) (hlocks : meth.locks = false) {pc : Nat} {H : Heap} {ls : Array Slot} (hdg : decode code pc = .ok (.ireturn, 1)) : W p l e room_1 s m #[Value.ref b] below meth c H [] 600000 7302249 (lw_Z below #[Value.ref b] s) (F0 m pc ls [.int 1]) := by
  intro T hT X
  obtain ⟨fs, hret, hrun, hended, hW, hframe⟩ := X.leave (v := some (.int 1)) (hlocks := hlocks) (fun h => by rw [hr] at h; cases h)
  have hmeth' : T.vm.method? m = some meth := X.method'
  refine ⟨T.setFrames fs, ?_, .returned (some (.int 1)), hrun, hended, rfl, ⟨_, rfl⟩, hW, hframe⟩
  jvm_step X.here [X.here.top, hx, hb, hdg, hmeth', hr, ret, narrow_b1]
  (try refine ⟨rfl, ?_⟩); (try refine ⟨rfl, ?_⟩)
  first | (intro acts; rw [hret _ acts rfl rfl rfl]) | rw [hret _ _ rfl rfl rfl]
  exact Steps.refl _
/-- what holds at the law's entry: the machine, the code, the tables' words (any of lw_tbl by 'hts w (by decide +kernel)'), the script of L ints xs at the cell b, what the Statement gives of the start (any of its parts by flat_of_before) -/
def lw_At (p : Program) (s : State) (m : MethodId) (meth : Method) (c : Code) (b L : Nat) (xs : Nat → Int32) : Prop :=
  p.tables.exec = Jvm.exec ∧ c.code = code ∧ meth.sig.returnType = ret ∧ c.maxLocals = 4 ∧ s.vm.findClass R_law = some m.cls ∧ (∀ w ∈ lw_tbl, w.before #[Value.ref b] s = true) ∧ va_X b L xs s s.heap ∧ b < s.heap.size ∧ meth.locks = false ∧ (Jvm.Cond.and given_1 narrow_1).before #[Value.ref b] s = true

/-! the law's own place: the script is the named place 1000; both objects' cells one behind the other -/
def g_two (hl hm : List g_E) : List g_E := hl ++ hm.map (g_rnE (fun j => j + 172))
def g_AtL (b Ls : Nat) (xs : Nat → Int32) (c s : Nat) (X : g_X) : Prop := match X with
  | (_, _, _, s0, _, args, below, _, _, _, r, _, A, Q, nc, ns) => nc = c ∧ ns = s ∧ r 1000 = b ∧ va_X b Ls xs s0 s0.heap ∧ b < s0.heap.size ∧ A = (fun q : Nat => s0.heap.size ≤ q) ∧ args = #[Value.ref b] ∧ Q = lw_Z below #[Value.ref b] s0
theorem g_AtL.nc {b Ls : Nat} {xs : Nat → Int32} {c s : Nat} {X : g_X} (h : g_AtL b Ls xs c s X) : g_nc X = c ∧ g_ns X = s := by
  obtain ⟨l, p, e, s0, m, args, below, meth, c0, D, r, kp, A, Q, nc, ns⟩ := X
  exact ⟨h.1, h.2.1⟩
theorem g_AtL.up {b Ls : Nat} {xs : Nat → Int32} {c s n dc ds : Nat} {X : g_X} {r2 : Nat → Nat} {kp2 : Nat → ClassId} (h : g_AtL b Ls xs c s X) (h1 : g_ag n (g_r X) r2) : g_AtL b Ls xs (c + dc) (s + ds) (g_up X r2 kp2 dc ds) := by
  obtain ⟨l, p, e, s0, m, args, below, meth, c0, D, r, kp, A, Q, nc, ns⟩ := X
  obtain ⟨a1, a2, a3, a4⟩ := h
  exact ⟨by rw [a1], by rw [a2], (h1.2.symm.trans a3 : r2 1000 = b), a4⟩
section LAW
variable {b Ls : Nat} {xs : Nat → Int32} {c0 s0 : Nat} {X : g_X} {R : Room} {cc : ByteArray} {nL ow : Nat} {ret2 : Option FieldType} {pc : Nat} {L : List (Nat × Value)} {st : List Value} {hp hl hm : List g_E}
theorem g_sld {i : Int32} (hX : g_AtL b Ls xs c0 s0 X) (hd : decode cc pc = .ok (.iaload, 1)) (hin : vp_in i Ls) (k : g_G X R cc nL ow ret2 (pc + 1) L (.int (xs i.toNatClampNeg) :: st) hp) : g_G X R cc nL ow ret2 pc L (.int i :: .ref 1000 :: st) hp := by
  obtain ⟨l, p, e, s, m, args, below, meth, c, D, r, kp, A, Q, nc, ns⟩ := X
  obtain ⟨a1, a2, a3, a4, a5, a6, a7, a8⟩ := hX
  intro hx hb hml hown hts hr hlocks hA hnc hns H locs ls hR hS hL
  have hk := k hx hb hml hown hts hr hlocks hA hnc hns H locs ls hR hS hL
  have hbA : ¬ A b := by rw [a6]; exact Nat.not_le.mpr a5
  show W p l e R s m args below meth c H locs nc ns Q (F0 m pc ls (.int i :: .ref (r 1000) :: st.map (g_re r)))
  rw [a3]
  exact va_sld hx hb a4 a5 hbA hS hin hd hk
theorem g_slen (hX : g_AtL b Ls xs c0 s0 X) (hd : decode cc pc = .ok (.arraylength, 1)) (k : g_G X R cc nL ow ret2 (pc + 1) L (.int (Int32.ofNat Ls) :: st) hp) : g_G X R cc nL ow ret2 pc L (.ref 1000 :: st) hp := by
  obtain ⟨l, p, e, s, m, args, below, meth, c, D, r, kp, A, Q, nc, ns⟩ := X
  obtain ⟨a1, a2, a3, a4, a5, a6, a7, a8⟩ := hX
  intro hx hb hml hown hts hr hlocks hA hnc hns H locs ls hR hS hL
  have hk := k hx hb hml hown hts hr hlocks hA hnc hns H locs ls hR hS hL
  have hbA : ¬ A b := by rw [a6]; exact Nat.not_le.mpr a5
  show W p l e R s m args below meth c H locs nc ns Q (F0 m pc ls (.ref (r 1000) :: st.map (g_re r)))
  rw [a3]
  exact va_slen hx hb a4 a5 hbA hS hd hk
theorem g_lret1 (hX : g_AtL b Ls xs c0 s0 X) (hd : decode code pc = .ok (.ireturn, 1)) (h1 : c0 ≤ 600000) (h2 : s0 ≤ 7302249) : g_G X room_1 code nL ow ret pc L [.int 1] hp := by
  obtain ⟨l, p, e, s, m, args, below, meth, c, D, r, kp, A, Q, nc, ns⟩ := X
  obtain ⟨a1, a2, a3, a4, a5, a6, a7, a8⟩ := hX
  subst a1 a2 a6 a7 a8
  intro hx hb hml hown hts hr hlocks hA hnc hns H locs ls hR hS hL
  refine va_forget (fun q hq => hS.2.2 q hq) ?_
  refine W.widen (k := 600000) (n := 7302249) h1 h2 ?_
  exact lw_ret hx hb hr hlocks hd
/-- a call of the first object's -/
theorem g_callA {y : MethodName} {cc2 : ByteArray} {nL2 : Nat} {rm : Room} {as : List Value} {r : Int32} {hl2 : List g_E} (hC : ∀ l, g_C l y cc2 nL2 (some .int) rm (.ref 0 :: as) hl (fun rv h => rv = some (.int r) ∧ h = hl2)) (ix n : Nat) (hw : g_W ow ix y cc2 nL2 (some .int) true n) (hd : decode cc pc = .ok (.invokevirtual ix, 3)) (hn : as.length = n) (hroom : rm.cells = 0 ∧ rm.slots = 0 ∧ rm.frames + 1 ≤ R.frames ∧ 8 + (nL2 + 11) + rm.locals ≤ R.locals) (rest : List Value) (hst : st = as.reverse ++ .ref 0 :: rest) (hcat : (rest.map fun v => v.category).sum ≤ 8) (hy : y.cls = g_cn 6) (h0 : ∃ fs, hl[0]? = some (.inr (6, fs))) (k : g_G X R cc nL ow ret2 (pc + 3) L (.int r :: rest) (g_two hl2 hm)) : g_G X R cc nL ow ret2 pc L st (g_two hl hm) := by
  have hid : (g_re fun j => j) = id := funext g_re_id
  have h0l : 0 < hl.length := by obtain ⟨fs, h⟩ := h0; exact (List.getElem?_eq_some_iff.mp h).1
  refine g_call0 hC ix true hw.1 hw.2.1 hd n hw.2.2 (by simp [hn]) hroom (fun j => j) (fun h2 => g_two h2 hm) rest (by rw [hid, List.map_id, hst]; simp) hcat (fun i j _ _ h => h) (fun j e2 h => by rw [g_rnE_id, g_two, List.getElem?_append_left (List.getElem?_eq_some_iff.mp h).1]; exact h) (fun h2 hlen k e h => ?_) (fun _ => ?_) (fun rv h2 ⟨e1, e2⟩ _ => by subst e1; subst e2; exact k)
  · by_cases hk : k < hl.length
    · rw [g_two, List.getElem?_append_left (by omega)] at h
      refine Or.inl ⟨k, e, hk, rfl, h, (g_rnE_id e).symm, ?_⟩
      rw [g_two, List.getElem?_append_left hk]
      exact ⟨_, List.getElem?_eq_getElem hk⟩
    · rw [g_two, List.getElem?_append_right (by omega), hlen] at h
      refine Or.inr ⟨?_, fun j hj z => by omega⟩
      rw [g_two, List.getElem?_append_right (by omega)]
      exact h
  · obtain ⟨fs, h⟩ := h0
    exact ⟨0, 6, fs, rfl, h, by decide, hy⟩
/-- a call of the second object's -/
theorem g_callB {y : MethodName} {cc2 : ByteArray} {nL2 : Nat} {rm : Room} {as : List Value} {r : Int32} {hm2 : List g_E} (hlen0 : hl.length = 172) (hC : ∀ l, g_C l y cc2 nL2 (some .int) rm (.ref 0 :: as) hm (fun rv h => rv = some (.int r) ∧ h = hm2)) (ix n : Nat) (hw : g_W ow ix y cc2 nL2 (some .int) true n) (hd : decode cc pc = .ok (.invokevirtual ix, 3)) (hn : as.length = n) (hai : as.map (g_re (fun j => j + 172)) = as) (hroom : rm.cells = 0 ∧ rm.slots = 0 ∧ rm.frames + 1 ≤ R.frames ∧ 8 + (nL2 + 11) + rm.locals ≤ R.locals) (rest : List Value) (hst : st = as.reverse ++ .ref 172 :: rest) (hcat : (rest.map fun v => v.category).sum ≤ 8) (hy : y.cls = g_cn 7) (h0 : ∃ fs, hm[0]? = some (.inr (7, fs))) (k : g_G X R cc nL ow ret2 (pc + 3) L (.int r :: rest) (g_two hl hm2)) : g_G X R cc nL ow ret2 pc L st (g_two hl hm) := by
  refine g_call0 hC ix true hw.1 hw.2.1 hd n hw.2.2 (by simp [hn]) hroom (fun j => j + 172) (fun h2 => g_two hl h2) rest (by rw [hst, List.map_cons, hai]; simp [g_re]) hcat (fun i j _ _ h => by omega) (fun j e2 h => ?_) (fun h2 hlen k e h => ?_) (fun _ => ?_) (fun rv h2 ⟨e1, e2⟩ _ => by subst e1; subst e2; exact k)
  · rw [g_two, List.getElem?_append_right (by omega), hlen0, Nat.add_sub_cancel, List.getElem?_map, h]
    rfl
  · by_cases hk : k < 172
    · rw [g_two, List.getElem?_append_left (by omega)] at h
      refine Or.inr ⟨?_, fun j hj z => by omega⟩
      rw [g_two, List.getElem?_append_left (by omega)]
      exact h
    · rw [g_two, List.getElem?_append_right (by omega), hlen0, List.getElem?_map] at h
      cases h5 : h2[k - 172]? with
      | none => rw [h5] at h; cases h
      | some e2 =>
        rw [h5] at h
        have hkl : k - 172 < hm.length := by rw [← hlen]; exact (List.getElem?_eq_some_iff.mp h5).1
        refine Or.inl ⟨k - 172, e2, hkl, by omega, h5, (Option.some.inj h).symm, ?_⟩
        rw [g_two, List.getElem?_append_right (by omega), hlen0, List.getElem?_map, List.getElem?_eq_getElem hkl]
        exact ⟨_, rfl⟩
  · obtain ⟨fs, h⟩ := h0
    exact ⟨0, 7, fs, rfl, h, by decide, hy⟩
/-- the cells in another order -/
theorem g_reo (f : Nat → Nat) (L2 : List (Nat × Value)) (hl2 : List g_E) (hinj : ∀ i j, i < hl2.length → j < hl2.length → f i = f j → i = j) (hsel : ∀ j e, hl2[j]? = some e → hp[f j]? = some (g_rnE f e)) (h1000 : f 1000 = 1000) (hX : g_AtL b Ls xs c0 s0 X) (hL : L = g_L f L2) (k : ∀ X2, g_AtL b Ls xs c0 s0 X2 → g_G X2 R cc nL ow ret2 pc L2 [] hl2) : g_G X R cc nL ow ret2 pc L [] hp := by
  obtain ⟨l, p, e, s, m, args, below, meth, c, D, r, kp, A, Q, nc, ns⟩ := X
  obtain ⟨a1, a2, a3, a4⟩ := hX
  intro hx hb hml hown hts hr hlocks hA hnc hns H locs ls hR hS hL9
  have hX2 : g_AtL b Ls xs c0 s0 (l, p, e, s, m, args, below, meth, c, D, (fun j => r (f j)), (fun j => kp (f j)), A, Q, nc, ns) := ⟨a1, a2, (by show r (f 1000) = b; rw [h1000]; exact a3), a4⟩
  refine k _ hX2 hx hb hml hown hts hr hlocks hA hnc hns H locs ls ⟨hR.1, fun j a hj => ?_, hR.2.2.1, fun j q hq => ?_, ⟨fun i j x y hi hj hxy => ?_, fun j q hq => ?_⟩⟩ hS ?_
  · have h9 := hR.2.1 _ (a.1, g_rA f a.2) (hsel j _ hj)
    exact h9
  · obtain ⟨e2, h1, rfl⟩ := g_cW_of hq
    rw [← g_cE_rn]
    exact hR.2.2.2.1 _ _ (g_cW_at (hsel j e2 h1))
  · obtain ⟨e1, h1, rfl⟩ := g_cW_of hi
    obtain ⟨e2, h2, rfl⟩ := g_cW_of hj
    exact hinj i j (List.getElem?_eq_some_iff.mp h1).1 (List.getElem?_eq_some_iff.mp h2).1 (hR.2.2.2.2.1 _ _ _ _ (g_cW_at (hsel i e1 h1)) (g_cW_at (hsel j e2 h2)) hxy)
  · obtain ⟨e2, h1, rfl⟩ := g_cW_of hq
    have h9 := hR.2.2.2.2.2 _ _ (g_cW_at (hsel j e2 h1))
    exact h9
  · have h9 : g_L (fun j => r (f j)) L2 = g_L r L := by
      rw [hL]
      simp only [g_L, List.map_map]
      apply List.map_congr_left
      intro q _
      simp [g_re_re]
    rw [h9]
    exact hL9
end LAW
/-- one kind of call, on both sides: equal answers, and the relation stays -/
def g_op (Rel : List g_E → List g_E → Prop) (yL yM : MethodName) (cL cM : ByteArray) (nLl nLm : Nat) (rmL rmM : Room) (as : List Value) : Prop := ∀ hl hm, Rel hl hm → ∃ (r : Int32) (hl2 hm2 : List g_E), (∀ l, g_C l yL cL nLl (some .int) rmL (.ref 0 :: as) hl (fun rv h => rv = some (.int r) ∧ h = hl2)) ∧ (∀ l, g_C l yM cM nLm (some .int) rmM (.ref 0 :: as) hm (fun rv h => rv = some (.int r) ∧ h = hm2)) ∧ Rel hl2 hm2
/-- what the relation is wanted to give -/
def g_relok (Rel : List g_E → List g_E → Prop) : Prop := ∀ hl hm, Rel hl hm → hl.length = 172 ∧ hm.length = 24 ∧ (∃ fs, hl[0]? = some (.inr (6, fs))) ∧ ∃ fs, hm[0]? = some (.inr (7, fs))
