/-! calls: the callee's cells are some of the caller's, by their places; what it does not have stays -/
def g_rnE (f : Nat → Nat) (e : g_E) : g_E := match e with
  | .inl a => .inl (a.1, g_rA f a.2)
  | .inr o => .inr (o.1, o.2.map (g_re f))
theorem g_re_re (r f : Nat → Nat) (v : Value) : g_re r (g_re f v) = g_re (fun j => r (f j)) v := by cases v <;> rfl
theorem g_rA_rA (r f : Nat → Nat) (a : vp_A) : g_rA r (g_rA f a) = g_rA (fun j => r (f j)) a := by
  obtain ⟨n, g | g | g | g | g⟩ := a
  · rfl
  · rfl
  · rfl
  · rfl
  · simp only [g_rA, Option.map_map]
    rfl
theorem g_cE_rn (r : Nat → Nat) (kp : Nat → ClassId) (f : Nat → Nat) (j : Nat) (e : g_E) : g_cE r kp (f j) (g_rnE f e) = g_cE (fun j => r (f j)) (fun j => kp (f j)) j e := by
  cases e with
  | inl a => simp only [g_cE, g_rnE, g_rA_rA]
  | inr o =>
    simp only [g_cE, g_rnE, List.map_map]
    congr 2
    apply List.map_congr_left
    intro v _
    exact g_re_re r f v
def g_f (sel : List Nat) (j : Nat) : Nat := sel.getD j 0
/-- the caller's cells behind a call: those of sel are what the callee left (told by the caller's places) -/
def g_pick : List Nat → List g_E → Nat → g_E → g_E
  | i :: is, e2 :: hr, k, e => match Nat.beq i k with
    | true => e2
    | false => g_pick is hr k e
  | _, _, _, e => e
def g_pbg (sel : List Nat) (hr : List g_E) : Nat → List g_E → List g_E
  | _, [] => []
  | k, e :: es => g_pick sel hr k e :: g_pbg sel hr (k + 1) es
def g_pb (sel : List Nat) (hp hr : List g_E) : List g_E := g_pbg sel hr 0 hp
theorem g_pbg_at (sel : List Nat) (hr : List g_E) : ∀ (hp : List g_E) (n k : Nat), (g_pbg sel hr n hp)[k]? = (hp[k]?).map (g_pick sel hr (n + k))
  | [], n, k => by simp [g_pbg]
  | e :: hp, n, 0 => by simp [g_pbg]
  | e :: hp, n, k + 1 => by
    simp only [g_pbg, List.getElem?_cons_succ]
    rw [g_pbg_at sel hr hp (n + 1) k, show n + 1 + k = n + (k + 1) by omega]
theorem g_pick_at : ∀ (sel : List Nat) (hr : List g_E) (k : Nat) (e : g_E), hr.length = sel.length → (∃ j, j < sel.length ∧ g_f sel j = k ∧ hr[j]? = some (g_pick sel hr k e)) ∨ (g_pick sel hr k e = e ∧ ∀ j, j < sel.length → g_f sel j ≠ k)
  | [], hr, k, e, h => by
    right
    refine ⟨?_, fun j hj => by simp at hj⟩
    cases hr <;> rfl
  | i :: is, [], k, e, h => by simp at h
  | i :: is, e2 :: hr, k, e, h => by
    have hl : hr.length = is.length := by simpa using h
    cases hb : Nat.beq i k with
    | true =>
      left
      refine ⟨0, by simp, ?_, ?_⟩
      · simpa [g_f] using Nat.eq_of_beq_eq_true hb
      · simp [g_pick, hb]
    | false =>
      have hne : i ≠ k := fun z => by
        subst z
        have h9 : Nat.beq i i = true := Nat.beq_refl i
        rw [h9] at hb
        cases hb
      have hg : g_pick (i :: is) (e2 :: hr) k e = g_pick is hr k e := by simp [g_pick, hb]
      rw [hg]
      rcases g_pick_at is hr k e hl with ⟨j, h1, h2, h3⟩ | ⟨h1, h2⟩
      · exact Or.inl ⟨j + 1, by simpa using h1, by simpa [g_f] using h2, by simpa using h3⟩
      · refine Or.inr ⟨h1, fun j hj => ?_⟩
        cases j with
        | zero => simpa [g_f] using hne
        | succ j => simpa [g_f] using h2 j (by simpa using hj)
theorem g_pb_at {sel : List Nat} {hp hr : List g_E} {k : Nat} {e : g_E} (h : (g_pb sel hp hr)[k]? = some e) (hlen : hr.length = sel.length) : (∃ j, j < sel.length ∧ g_f sel j = k ∧ hr[j]? = some e ∧ ∃ e1, hp[k]? = some e1) ∨ (hp[k]? = some e ∧ ∀ j, j < sel.length → g_f sel j ≠ k) := by
  rw [g_pb, g_pbg_at, Nat.zero_add] at h
  cases h1 : hp[k]? with
  | none => rw [h1] at h; cases h
  | some e1 =>
    rw [h1] at h
    have h := Option.some.inj h
    rcases g_pick_at sel hr k e1 hlen with ⟨j, h2, h3, h4⟩ | ⟨h2, h3⟩
    · exact Or.inl ⟨j, h2, h3, by rw [← h]; exact h4, e1, rfl⟩
    · exact Or.inr ⟨by rw [← h, h2], h3⟩
theorem g_R.same {D : va_G} {r : Nat → Nat} {kp : Nat → ClassId} {A : Nat → Prop} {hp : List g_E} {s U : State} {H : Heap} (hvm : s.vm = U.vm) (h : g_R D r kp A hp s H) : g_R D r kp A hp U H := by
  have hal : s.vm.Alike U.vm := by rw [hvm]; exact Vm.Alike.refl _
  refine ⟨va_K.moved hal h.1, fun k a hk => ⟨arrOfT_moved hal (h.2.1 k a hk).1, (h.2.1 k a hk).2.moved hal⟩, fun w hw => ?_, h.2.2.2⟩
  have h1 := List.all_eq_true.mp g_N_all w hw
  simp only [Bool.and_eq_true] at h1
  have h2 := h.2.2.1 w hw
  cases w <;> first
    | exact va_Nw.same rfl hvm h2
    | exact g_ao_moved hal h1.1 h2
    | (exfalso; revert h1; simp [g_isN]; done)
/-- what a call is linked by: an own method's or another class's, a static one's, a nest mate's static one's -/
def g_LK (ow ix : Nat) (y : MethodName) (v : Bool) : Prop :=
  Cond.initialized y.cls ∈ g_T ∧ (y.cls ≠ "java/lang/invoke/MethodHandle" ∧ y.cls ≠ "java/lang/invoke/VarHandle") ∧
  ((v = true ∧ Cond.methodLink (g_cn ow) ix y ∈ g_T ∧ Cond.instanceMethod y ∈ g_T ∧ Cond.selects y.cls y y ∈ g_T) ∨ (v = false ∧ Cond.static y ∈ g_T ∧ (Cond.methodLink (g_cn ow) ix y ∈ g_T ∨ Cond.methodLinkNest (g_cn ow) ix y R_6 ∈ g_N)))
def g_ci (v : Bool) (ix : Nat) : Instr := if v then .invokevirtual ix else .invokestatic ix
set_option maxHeartbeats 4000000 in
theorem g_call0 {X : g_X} {R : Room} {cc : ByteArray} {nL ow : Nat} {ret : Option FieldType} {pc : Nat} {L : List (Nat × Value)} {st : List Value} {hp : List g_E} {y : MethodName} {cc2 : ByteArray} {nL2 : Nat} {ret2 : Option FieldType} {rm : Room} {av : List Value} {hl : List g_E} {post : Option Value → List g_E → Prop}
    (hC : ∀ l, g_C l y cc2 nL2 ret2 rm av hl post) (ix : Nat) (v : Bool) (hlk : g_LK ow ix y v) (hcode : Cond.code y cc2 nL2 ret2 ∈ g_T) (hd : decode cc pc = .ok (g_ci v ix, 3)) (n : Nat) (hn : (parseMethodDescriptor y.desc).map (fun d => d.parameters.length) = some n) (hav : av.length = if v then n + 1 else n)
    (hroom : rm.cells = 0 ∧ rm.slots = 0 ∧ rm.frames + 1 ≤ R.frames ∧ 8 + (nL2 + 11) + rm.locals ≤ R.locals) (f : Nat → Nat) (put : List g_E → List g_E) (rest : List Value) (hst : st = (av.map (g_re f)).reverse ++ rest) (hcat : (rest.map fun v => v.category).sum ≤ 8)
    (hinj : ∀ i j, i < hl.length → j < hl.length → f i = f j → i = j) (hselat : ∀ j e2, hl[j]? = some e2 → hp[f j]? = some (g_rnE f e2)) (hput : ∀ hl2 : List g_E, hl2.length = hl.length → ∀ k e, (put hl2)[k]? = some e → (∃ j e2, j < hl.length ∧ f j = k ∧ hl2[j]? = some e2 ∧ e = g_rnE f e2 ∧ ∃ e1, hp[k]? = some e1) ∨ (hp[k]? = some e ∧ ∀ j, j < hl.length → f j ≠ k))
    (hrecv : v = true → ∃ q ci fs, av.head? = some (.ref q) ∧ hl[q]? = some (.inr (ci, fs)) ∧ ci < 8 ∧ y.cls = g_cn ci)
    (k : ∀ (rv : Option Value) (hl2 : List g_E), post rv hl2 → hl2.length = hl.length → g_G X R cc nL ow ret (pc + 3) L ((rv.map (g_re f)).toList ++ rest) (put hl2)) : g_G X R cc nL ow ret pc L st hp := by
  obtain ⟨l, p, e, s, m, args, below, meth, c, D, r, kp, A, Q, nc, ns⟩ := X
  intro hx hb hml hown hts hr hlocks hA hnc hns H locs ls hR hS hL
  have hltl : ∀ {j : Nat} {e2 : g_E}, hl[j]? = some e2 → j < hl.length := fun h => (List.getElem?_eq_some_iff.mp h).1
  -- the callee's cells
  have hRl : ∀ U : State, U.heap = H → s.WarmedH U.vm → g_R D (fun j => r (f j)) (fun j => kp (f j)) (fun _ => True) hl U U.heap := by
    intro U hU hW
    have hR2 := hR.moved hW
    refine ⟨hR2.1, fun j a hj => ?_, hR2.2.2.1, fun j q hq => ?_, ⟨fun i j x y hi hj hxy => ?_, fun _ _ _ => trivial⟩⟩
    · have h9 := hR2.2.1 _ (a.1, g_rA f a.2) (hselat j _ hj)
      exact h9
    · obtain ⟨e2, h1, rfl⟩ := g_cW_of hq
      rw [← g_cE_rn, hU]
      exact hR.2.2.2.1 _ _ (g_cW_at (hselat j e2 h1))
    · obtain ⟨e1, h1, rfl⟩ := g_cW_of hi
      obtain ⟨e2, h2, rfl⟩ := g_cW_of hj
      have a1 := hselat i e1 h1
      have a2 := hselat j e2 h2
      exact hinj i j (hltl h1) (hltl h2) (hR.2.2.2.2.1 _ _ _ _ (g_cW_at a1) (g_cW_at a2) hxy)
  have hMet := hC l D (fun j => r (f j)) (fun j => kp (f j)) H.size
  have hav2 : (st.map (g_re r)) = (av.map (g_re (fun j => r (f j)))).reverse ++ rest.map (g_re r) := by
    rw [hst, List.map_append, List.map_reverse, List.map_map]
    congr 2
    apply List.map_congr_left
    intro v _
    exact g_re_re r f v
  have hblind : FrameBlind (va_Pc (av.map (g_re (fun j => r (f j)))) (fun U => U.heap.size = H.size ∧ g_R D (fun j => r (f j)) (fun j => kp (f j)) (fun _ => True) hl U U.heap)) := by
    intro a U g mk q
    obtain ⟨q0, q1, q2⟩ := q
    exact ⟨q0, q1, g_R.same (s := U) (U := U.calling g mk a) rfl q2⟩
  have hpre : ∀ U : State, U.heap = H → s.WarmedH U.vm → va_Pc (av.map (g_re (fun j => r (f j)))) (fun U => U.heap.size = H.size ∧ g_R D (fun j => r (f j)) (fun j => kp (f j)) (fun _ => True) hl U U.heap) (av.map (g_re (fun j => r (f j)))).toArray U := fun U hU hW => ⟨rfl, by rw [hU], hRl U hU hW⟩
  have hG : GoodIn g_T (.code y cc2 nL2 ret2 :: g_T) := by
    intro w hw
    have hw2 : w ∈ g_T := by
      rcases List.mem_cons.mp hw with rfl | h
      · exact hcode
      · exact h
    exact ⟨hw2, g_T_good hw2⟩
  obtain ⟨hini, hy, hlk3⟩ := hlk
  have hcat2 : 2 * (F0 m pc ls (st.map (g_re r))).monitorRoom + (((rest.map (g_re r))).map fun v => v.category).sum ≤ 8 := lv_room (by rw [g_cats]; exact hcat)
  have hrun : va_Run p l e R s m args below meth c H locs nc ns 0 0 (F0 m pc ls (st.map (g_re r))) (rest.map (g_re r)) (g_Q D (fun j => r (f j)) (fun j => kp (f j)) hl.length post (va_A (g_cW (fun j => r (f j)) (fun j => kp (f j)) hl) H.size) (av.map (g_re (fun j => r (f j)))).toArray) (va_A (g_cW (fun j => r (f j)) (fun j => kp (f j)) hl) H.size) := by
    rcases hlk3 with ⟨rfl, h1, h2, h3⟩ | ⟨rfl, h1, h2⟩
    · obtain ⟨q, ci, fs, b1, b2, b3, b4⟩ := hrecv rfl
      obtain ⟨av1, rfl⟩ : ∃ av1, av = .ref q :: av1 := by
        cases av with
        | nil => cases b1
        | cons z av1 => cases b1; exact ⟨av1, rfl⟩
      obtain ⟨cell, g1, g2, g3⟩ := va_recv (q0 := f q) hR.1 hR.2.2.2.1 (g_cl_at ci b3) (g_cW_at (hselat q _ b2))
      refine va_runV (C := y.cls) (As := av1.map (g_re (fun j => r (f j)))) (rest := rest.map (g_re r)) (n := n) (bytes := cc2) (maxL := nL2) (ret := ret2) (b := r (f q)) ⟨hx, hb, hml, hown, hts⟩ hMet ⟨callB_of n hts hG rfl hroom.1 hroom.2.1 (hts _ hini) (hts _ h1) ⟨hy.1, hy.2, hn⟩ ⟨hroom.2.2.1, hroom.2.2.2⟩, hts _ h2, hts _ h3⟩ ⟨hblind, ⟨cell, g1, g2, by rw [b4]; exact g3⟩, hpre⟩ rfl ?_ hL.1 ?_ hcat2 hd ⟨hnc, hns⟩
      · simp at hav
        simpa using hav
      · show st.map (g_re r) = _
        rw [hav2]
        simp [g_re]
    · rcases h2 with h2 | h2
      · exact va_runS (As := av.map (g_re (fun j => r (f j)))) (rest := rest.map (g_re r)) (n := n) (bytes := cc2) (maxL := nL2) (ret := ret2) ⟨hx, hb, hml, hown, hts⟩ hMet ⟨callB_of n hts hG rfl hroom.1 hroom.2.1 (hts _ hini) (hts _ h2) ⟨hy.1, hy.2, hn⟩ ⟨hroom.2.2.1, hroom.2.2.2⟩, hts _ h1⟩ ⟨hblind, hpre⟩ rfl (by simpa using hav) hL.1 hav2 hcat2 hd ⟨hnc, hns⟩
      · exact va_runSN (As := av.map (g_re (fun j => r (f j)))) (rest := rest.map (g_re r)) (n := n) (bytes := cc2) (maxL := nL2) (ret := ret2) ⟨hx, hb, hml, hown, hts⟩ hMet ⟨va_cnB n hts hG rfl hroom.1 hroom.2.1 (hR.2.2.1 _ h2) (hts _ hini) ⟨hy.1, hy.2, hn⟩ ⟨hroom.2.2.1, hroom.2.2.2⟩, hts _ h1, trivial⟩ ⟨hblind, hpre⟩ rfl (by simpa using hav) hL.1 hav2 hcat2 hd ⟨hnc, hns⟩
  -- behind it
  intro T hT XT
  obtain ⟨rv0, st₀, t, T', L', h0, X', hL', e1, e2, ⟨⟨rv, hl2, hrv, hpost, hlen2, hR1⟩, hz, hkept⟩, stp⟩ := hrun T hT XT
  rw [h0] at hz hkept
  have hrv2 : rv0 = rv.map (g_re (fun j => r (f j))) := by
    cases hrv; rfl
  have hal : s.vm.Alike t.vm := by rw [← e2]; exact X'.warmed.alike
  have hAin : ∀ q, va_A (g_cW (fun j => r (f j)) (fun j => kp (f j)) hl) H.size q → A q := by
    intro q hq
    rcases hq with ⟨j, ee, hj⟩ | hq
    · obtain ⟨e3, h3, h4⟩ := g_cW_of hj
      have h5 : q = r (f j) := congrArg Prod.fst h4
      rw [h5]
      exact hR.2.2.2.2.2 _ _ (g_cW_at (hselat j e3 h3))
    · exact hA q (Nat.le_trans hS.1 hq)
  have hR3 : g_R D r kp A (put hl2) s T'.heap := by
    refine ⟨hR.1, fun j a hj => ?_, hR.2.2.1, fun j q hq => ?_, ⟨fun i j x y hi hj hxy => ?_, fun j q hq => ?_⟩⟩
    · rcases hput hl2 hlen2 _ _ hj with ⟨j2, e3, hj2, rfl, h3, h4, -⟩ | ⟨h3, -⟩
      · cases e3 with
        | inr o => cases h4
        | inl a3 =>
          cases h4
          have h5 := hR1.2.1 j2 a3 h3
          have hal2 : t.vm.Alike s.vm := hal.symm
          exact ⟨arrOfT_moved hal2 h5.1, h5.2.moved hal2⟩
      · exact hR.2.1 j a h3
    · obtain ⟨e4, h4, rfl⟩ := g_cW_of hq
      rcases hput hl2 hlen2 _ _ h4 with ⟨j2, e3, hj2, rfl, h3, rfl, -⟩ | ⟨h3, h5⟩
      · rw [g_cE_rn, e1]
        exact hR1.2.2.2.1 j2 _ (g_cW_at h3)
      · have h6 := hR.2.2.2.1 j _ (g_cW_at h3)
        refine h6.kept ?_
        rw [e1]
        refine hkept _ h6.lt (fun hin => ?_)
        rcases hin with ⟨j2, ee, hj2⟩ | hin
        · obtain ⟨e7, h7, h8⟩ := g_cW_of hj2
          have h9 : r j = r (f j2) := congrArg Prod.fst h8
          have h10 := hselat j2 e7 h7
          exact h5 j2 (hltl h7) (hR.2.2.2.2.1 _ _ _ _ (g_cW_at h3) (g_cW_at h10) h9).symm
        · have := h6.lt
          dsimp only at this hin
          omega
    · have old : ∀ i x, (g_cW r kp (put hl2))[i]? = some x → ∃ e0, hp[i]? = some e0 ∧ x.1 = r i := by
        intro i x hi
        obtain ⟨e4, h4, rfl⟩ := g_cW_of hi
        rcases hput hl2 hlen2 _ _ h4 with ⟨j2, e3, hj2, rfl, h3, rfl, e0, h0⟩ | ⟨h3, h5⟩
        · exact ⟨e0, h0, rfl⟩
        · exact ⟨e4, h3, rfl⟩
      obtain ⟨a1, a2, a3⟩ := old i x hi
      obtain ⟨b1, b2, b3⟩ := old j y hj
      exact hR.2.2.2.2.1 i j _ _ (g_cW_at a2) (g_cW_at b2) (by dsimp only; rw [← a3, ← b3]; exact hxy)
    · obtain ⟨e4, h4, rfl⟩ := g_cW_of hq
      rcases hput hl2 hlen2 _ _ h4 with ⟨j2, e3, hj2, rfl, h3, rfl, e0, h0⟩ | ⟨h3, h5⟩
      · have h9 := hR.2.2.2.2.2 _ _ (g_cW_at h0)
        exact h9
      · exact hR.2.2.2.2.2 _ _ (g_cW_at h3)
  have hS3 : va_S A s.heap T'.heap (locs ++ L') := ⟨Nat.le_trans hS.1 (by rw [e1]; exact hz), fun q h1 h2 => by
      rw [e1, hkept q (Nat.lt_of_lt_of_le h1 hS.1) (fun z => h2 (hAin q z))]
      exact hS.2.1 q h1 h2, fun q hq => by
      rcases List.mem_append.mp hq with h | h
      · exact hS.2.2 q h
      · exact hAin _ (hL' q h)⟩
  have hk := k rv hl2 hpost hlen2 hx hb hml hown hts hr hlocks hA hnc hns T'.heap (locs ++ L') ls hR3 hS3 hL
  have hstk : ((rv.map (g_re f)).toList ++ rest).map (g_re r) = rv0.toList ++ rest.map (g_re r) := by
    rw [hrv2, List.map_append]
    congr 1
    cases rv with
    | none => rfl
    | some v => simp [g_re_re]
  rw [hstk] at hk
  obtain ⟨t2, a1, b1⟩ := hk T' rfl X'
  exact ⟨t2, stp t2 a1, b1⟩
theorem g_re_id (v : Value) : g_re (fun j => j) v = v := by cases v <;> rfl
theorem g_rnE_id (e : g_E) : g_rnE (fun j => j) e = e := by
  rcases e with ⟨ty, n, f | f | f | f | f⟩ | ⟨ci, fs⟩
  · rfl
  · rfl
  · rfl
  · rfl
  · simp [g_rnE, g_rA]
  · simp only [g_rnE]
    congr 2
    rw [show (g_re fun j => j) = id from funext g_re_id]
    exact List.map_id _
def g_sat {α : Type} (o : Option α) (P : α → Prop) : Prop := ∃ a, o = some a ∧ P a
theorem g_sat_s {α : Type} {a : α} {P : α → Prop} (h : g_sat (some a) P) : P a := by
  obtain ⟨b, h1, h2⟩ := h
  cases h1
  exact h2
theorem g_sat_i {α : Type} {a : α} {P : α → Prop} (h : P a) : g_sat (some a) P := ⟨a, rfl, h⟩
theorem g_sat_t {α : Type} {c : Prop} [Decidable c] {a b : Option α} {P : α → Prop} (h : g_sat (if c then a else b) P) (hc : c) : g_sat a P := by rwa [if_pos hc] at h
theorem g_sat_f {α : Type} {c : Prop} [Decidable c] {a b : Option α} {P : α → Prop} (h : g_sat (if c then a else b) P) (hc : ¬ c) : g_sat b P := by rwa [if_neg hc] at h
theorem g_sat_b {α β : Type} {o : Option α} {k : α → Option β} {P : β → Prop} (h : g_sat (o.bind k) P) : g_sat o (fun a => g_sat (k a) P) := by
  obtain ⟨b, h1, h2⟩ := h
  cases o with
  | none => cases h1
  | some a => exact ⟨a, rfl, b, h1, h2⟩
theorem g_sat_m {α : Type} {o : Option α} {P P2 : α → Prop} (h : g_sat o P) (k : ∀ a, P a → P2 a) : g_sat o P2 := by
  obtain ⟨a, h1, h2⟩ := h
  exact ⟨a, h1, k a h2⟩
def g_chk {α : Type} (b : Bool) (k : Option α) : Option α := match b with
  | true => k
  | false => none
theorem g_sat_c {α : Type} {b : Bool} {k : Option α} {P : α → Prop} (h : g_sat (g_chk b k) P) : b = true ∧ g_sat k P := by
  cases b with
  | true => exact ⟨rfl, h⟩
  | false => obtain ⟨a, h1, -⟩ := h; cases h1
def g_inb (i : Int32) (n : Nat) : Bool := !(decide (i < 0)) && decide (i.toNatClampNeg < n)
theorem g_inb_in {i : Int32} {n : Nat} (h : g_inb i n = true) : vp_in i n := by
  simp only [g_inb, Bool.and_eq_true, Bool.not_eq_true', decide_eq_false_iff_not, decide_eq_true_eq] at h
  rintro (h1 | h1)
  · exact h.1 h1
  · omega
def g_isb (v : Int32) : Bool := decide (v = 0) || decide (v = 1)
theorem g_isb_of {v : Int32} (h : g_isb v = true) : v = 0 ∨ v = 1 := by simpa [g_isb] using h
theorem g_and {c : Prop} {cs : List Prop} (h : c) (t : g_all cs) : g_all (c :: cs) := g_all_c.mpr ⟨h, t⟩
theorem g_nil : g_all [] := trivial
/-- fewer locals, in any order -/
theorem g_loc {X : g_X} {R : Room} {cc : ByteArray} {nL ow : Nat} {ret : Option FieldType} {pc : Nat} {L L2 : List (Nat × Value)} {st : List Value} {hp : List g_E} (ks : List Nat) (h : ks.filterMap (fun k => L[k]?) = L2) (k : g_G X R cc nL ow ret pc L2 st hp) : g_G X R cc nL ow ret pc L st hp := by
  obtain ⟨l, p, e, s, m, args, below, meth, c, D, r, kp, A, Q, nc, ns⟩ := X
  intro hx hb hml hown hts hr hlocks hA hnc hns H locs ls hR hS hL
  refine k hx hb hml hown hts hr hlocks hA hnc hns H locs ls hR hS ⟨hL.1, hL.2.1, fun q hq => hL.2.2 q ?_⟩
  subst h
  obtain ⟨q0, h0, rfl⟩ := List.mem_map.mp hq
  obtain ⟨i, -, hi⟩ := List.mem_filterMap.mp h0
  exact List.mem_map.mpr ⟨q0, List.mem_of_getElem? hi, rfl⟩
/-- a contract by a function: whatever holds of what it gives holds behind the call -/
def g_F (y : MethodName) (cc : ByteArray) (nL : Nat) (ret : Option FieldType) (rm : Room) (av : List Value) (hl : List g_E) {α : Type} (f : Option α) (rv : α → Option Value) (ho : α → List g_E) : Prop := ∀ (l : Launch) (P : Option Value → List g_E → Prop), g_sat f (fun a => P (rv a) (ho a)) → g_C l y cc nL ret rm av hl P
section CL
variable {X : g_X} {R : Room} {cc : ByteArray} {nL ow : Nat} {ret : Option FieldType} {pc : Nat} {L : List (Nat × Value)} {st : List Value} {hp : List g_E} {y : MethodName} {cc2 : ByteArray} {nL2 : Nat} {ret2 : Option FieldType} {rm : Room} {av : List Value} {hl : List g_E} {α β : Type} {f : Option α} {rv : α → Option Value} {ho : α → List g_E} {kf : α → Option β} {P : β → Prop}
/-- all of what a call's words say, for its place -/
def g_W (ow ix : Nat) (y : MethodName) (cc2 : ByteArray) (nL2 : Nat) (ret2 : Option FieldType) (v : Bool) (n : Nat) : Prop := g_LK ow ix y v ∧ Cond.code y cc2 nL2 ret2 ∈ g_T ∧ (parseMethodDescriptor y.desc).map (fun d => d.parameters.length) = some n
/-- a call over the same cells -/
theorem g_callM {P0 : Option Value → List g_E → Prop} (hC : ∀ l, g_C l y cc2 nL2 ret2 rm av hp P0) (ix : Nat) (v : Bool) (n : Nat) (hw : g_W ow ix y cc2 nL2 ret2 v n) (hd : decode cc pc = .ok (g_ci v ix, 3)) (hav : av.length = if v then n + 1 else n)
    (hroom : rm.cells = 0 ∧ rm.slots = 0 ∧ rm.frames + 1 ≤ R.frames ∧ 8 + (nL2 + 11) + rm.locals ≤ R.locals) (rest : List Value) (hst : st = av.reverse ++ rest) (hcat : (rest.map fun v => v.category).sum ≤ 8)
    (hrecv : v = true → ∃ q ci fs, av.head? = some (.ref q) ∧ hp[q]? = some (.inr (ci, fs)) ∧ ci < 8 ∧ y.cls = g_cn ci)
    (k : ∀ (rv : Option Value) (hl2 : List g_E), P0 rv hl2 → hl2.length = hp.length → g_G X R cc nL ow ret (pc + 3) L (rv.toList ++ rest) hl2) : g_G X R cc nL ow ret pc L st hp := by
  have hid : (g_re fun j => j) = id := funext g_re_id
  refine g_call0 hC ix v hw.1 hw.2.1 hd n hw.2.2 hav hroom (fun j => j) (fun hl2 => hl2) rest (by rw [hid, List.map_id]; exact hst) hcat (fun i j _ _ h => h) (fun j e2 h => by rw [g_rnE_id]; exact h) (fun hl2 hlen k e h => Or.inl ⟨k, e, ?_, rfl, h, (g_rnE_id e).symm, ?_⟩) hrecv (fun rv hl2 h1 h2 => by rw [hid, Option.map_id]; exact k rv hl2 h1 h2)
  · have := (List.getElem?_eq_some_iff.mp h).1
    omega
  · have hk : k < hp.length := by
      have := (List.getElem?_eq_some_iff.mp h).1
      omega
    exact ⟨hp[k], List.getElem?_eq_getElem hk⟩
/-- a call with some of the cells -/
theorem g_callP {P0 : Option Value → List g_E → Prop} (hC : ∀ l, g_C l y cc2 nL2 ret2 rm av hl P0) (ix : Nat) (v : Bool) (n : Nat) (hw : g_W ow ix y cc2 nL2 ret2 v n) (hd : decode cc pc = .ok (g_ci v ix, 3)) (hav : av.length = if v then n + 1 else n)
    (hroom : rm.cells = 0 ∧ rm.slots = 0 ∧ rm.frames + 1 ≤ R.frames ∧ 8 + (nL2 + 11) + rm.locals ≤ R.locals) (sel : List Nat) (rest : List Value) (hst : st = (av.map (g_re (g_f sel))).reverse ++ rest) (hcat : (rest.map fun v => v.category).sum ≤ 8)
    (hnd : va_nd sel = true) (hsel : sel.map (fun i => hp[i]?) = (hl.map (g_rnE (g_f sel))).map some)
    (hrecv : v = true → ∃ q ci fs, av.head? = some (.ref q) ∧ hl[q]? = some (.inr (ci, fs)) ∧ ci < 8 ∧ y.cls = g_cn ci)
    (k : ∀ (rv : Option Value) (hl2 : List g_E), P0 rv hl2 → hl2.length = hl.length → g_G X R cc nL ow ret (pc + 3) L ((rv.map (g_re (g_f sel))).toList ++ rest) (g_pb sel hp (hl2.map (g_rnE (g_f sel))))) : g_G X R cc nL ow ret pc L st hp := by
  have hslen : sel.length = hl.length := by
    have := congrArg List.length hsel
    simpa using this
  refine g_call0 hC ix v hw.1 hw.2.1 hd n hw.2.2 hav hroom (g_f sel) (fun hl2 => g_pb sel hp (hl2.map (g_rnE (g_f sel)))) rest hst hcat ?_ ?_ ?_ hrecv k
  · intro i j hi hj hij
    rw [← hslen] at hi hj
    rw [g_f, g_f, List.getD_eq_getElem?_getD, List.getElem?_eq_getElem hi, List.getD_eq_getElem?_getD, List.getElem?_eq_getElem hj] at hij
    exact va_nd_inj sel hnd i j sel[i] (List.getElem?_eq_getElem hi) (by rw [List.getElem?_eq_getElem hj]; exact congrArg some hij.symm)
  · intro j e2 hj
    have hj0 : j < hl.length := (List.getElem?_eq_some_iff.mp hj).1
    have h1 : (sel.map (fun i => hp[i]?))[j]? = ((hl.map (g_rnE (g_f sel))).map some)[j]? := by rw [hsel]
    rw [List.getElem?_map, List.getElem?_map, List.getElem?_map, hj] at h1
    have hjs : j < sel.length := by omega
    rw [List.getElem?_eq_getElem hjs] at h1
    have h2 : hp[sel[j]]? = some (g_rnE (g_f sel) e2) := Option.some.inj h1
    rw [g_f, List.getD_eq_getElem?_getD, List.getElem?_eq_getElem hjs]
    exact h2
  · intro hl2 hlen k e h
    rw [← hslen]
    rcases g_pb_at h (by rw [List.length_map]; omega) with ⟨j, hj, h2, h3, h4⟩ | h2
    · rw [List.getElem?_map] at h3
      cases h5 : hl2[j]? with
      | none => rw [h5] at h3; cases h3
      | some e2 =>
        rw [h5] at h3
        exact Or.inl ⟨j, e2, hj, h2, h5, (Option.some.inj h3).symm, h4⟩
    · exact Or.inr h2
/-- a call that needs no cells -/
theorem g_callN {P0 : Option Value → List g_E → Prop} (hC : ∀ l, g_C l y cc2 nL2 ret2 rm av [] P0) (ix : Nat) (n : Nat) (hw : g_W ow ix y cc2 nL2 ret2 false n) (hd : decode cc pc = .ok (.invokestatic ix, 3)) (hav : av.length = n)
    (hroom : rm.cells = 0 ∧ rm.slots = 0 ∧ rm.frames + 1 ≤ R.frames ∧ 8 + (nL2 + 11) + rm.locals ≤ R.locals) (rest : List Value) (hst : st = av.reverse ++ rest) (hcat : (rest.map fun v => v.category).sum ≤ 8)
    (k : ∀ (rv : Option Value), P0 rv [] → g_G X R cc nL ow ret (pc + 3) L (rv.toList ++ rest) hp) : g_G X R cc nL ow ret pc L st hp := by
  have hid : (g_re fun j => j) = id := funext g_re_id
  refine g_call0 hC ix false hw.1 hw.2.1 hd n hw.2.2 (by simpa using hav) hroom (fun j => j) (fun _ => hp) rest (by rw [hid, List.map_id]; exact hst) hcat (fun i j _ _ h => h) (fun j e2 h => by simp at h) (fun hl2 hlen k e h => Or.inr ⟨h, fun j hj => by simp at hj⟩) (fun h => by cases h) (fun rv hl2 h1 h2 => ?_)
  have h3 : hl2 = [] := List.length_eq_zero_iff.mp h2
  subst h3
  rw [hid, Option.map_id]
  exact k rv h1
/-- the three by functions: with what comes behind -/
theorem g_fM (hF : g_F y cc2 nL2 ret2 rm av hp f rv ho) (ix : Nat) (v : Bool) (n : Nat) (hw : g_W ow ix y cc2 nL2 ret2 v n) (hd : decode cc pc = .ok (g_ci v ix, 3)) (hav : av.length = if v then n + 1 else n)
    (hroom : rm.cells = 0 ∧ rm.slots = 0 ∧ rm.frames + 1 ≤ R.frames ∧ 8 + (nL2 + 11) + rm.locals ≤ R.locals) (rest : List Value) (hst : st = av.reverse ++ rest) (hcat : (rest.map fun v => v.category).sum ≤ 8)
    (hrecv : v = true → ∃ q ci fs, av.head? = some (.ref q) ∧ hp[q]? = some (.inr (ci, fs)) ∧ ci < 8 ∧ y.cls = g_cn ci) (hs : g_sat (f.bind kf) P)
    (k : ∀ a, g_sat (kf a) P → g_G X R cc nL ow ret (pc + 3) L ((rv a).toList ++ rest) (ho a)) : g_G X R cc nL ow ret pc L st hp :=
  g_callM (P0 := fun r2 h2 => ∃ a, r2 = rv a ∧ h2 = ho a ∧ g_sat (kf a) P) (fun l => hF l _ (g_sat_m (g_sat_b hs) (fun a h => ⟨a, rfl, rfl, h⟩))) ix v n hw hd hav hroom rest hst hcat hrecv (fun r2 h2 ⟨a, e1, e2, h⟩ _ => by subst e1; subst e2; exact k a h)
theorem g_fP (hF : g_F y cc2 nL2 ret2 rm av hl f rv ho) (ix : Nat) (v : Bool) (n : Nat) (hw : g_W ow ix y cc2 nL2 ret2 v n) (hd : decode cc pc = .ok (g_ci v ix, 3)) (hav : av.length = if v then n + 1 else n)
    (hroom : rm.cells = 0 ∧ rm.slots = 0 ∧ rm.frames + 1 ≤ R.frames ∧ 8 + (nL2 + 11) + rm.locals ≤ R.locals) (sel : List Nat) (rest : List Value) (hst : st = (av.map (g_re (g_f sel))).reverse ++ rest) (hcat : (rest.map fun v => v.category).sum ≤ 8)
    (hnd : va_nd sel = true) (hsel : sel.map (fun i => hp[i]?) = (hl.map (g_rnE (g_f sel))).map some)
    (hrecv : v = true → ∃ q ci fs, av.head? = some (.ref q) ∧ hl[q]? = some (.inr (ci, fs)) ∧ ci < 8 ∧ y.cls = g_cn ci) (hs : g_sat (f.bind kf) P)
    (k : ∀ a, g_sat (kf a) P → g_G X R cc nL ow ret (pc + 3) L (((rv a).map (g_re (g_f sel))).toList ++ rest) (g_pb sel hp ((ho a).map (g_rnE (g_f sel))))) : g_G X R cc nL ow ret pc L st hp :=
  g_callP (P0 := fun r2 h2 => ∃ a, r2 = rv a ∧ h2 = ho a ∧ g_sat (kf a) P) (fun l => hF l _ (g_sat_m (g_sat_b hs) (fun a h => ⟨a, rfl, rfl, h⟩))) ix v n hw hd hav hroom sel rest hst hcat hnd hsel hrecv (fun r2 h2 ⟨a, e1, e2, h⟩ _ => by subst e1; subst e2; exact k a h)
theorem g_fN (hF : g_F y cc2 nL2 ret2 rm av [] f rv (fun _ => [])) (ix : Nat) (n : Nat) (hw : g_W ow ix y cc2 nL2 ret2 false n) (hd : decode cc pc = .ok (.invokestatic ix, 3)) (hav : av.length = n)
    (hroom : rm.cells = 0 ∧ rm.slots = 0 ∧ rm.frames + 1 ≤ R.frames ∧ 8 + (nL2 + 11) + rm.locals ≤ R.locals) (rest : List Value) (hst : st = av.reverse ++ rest) (hcat : (rest.map fun v => v.category).sum ≤ 8) (hs : g_sat (f.bind kf) P)
    (k : ∀ a, g_sat (kf a) P → g_G X R cc nL ow ret (pc + 3) L ((rv a).toList ++ rest) hp) : g_G X R cc nL ow ret pc L st hp :=
  g_callN (P0 := fun r2 _ => ∃ a, r2 = rv a ∧ g_sat (kf a) P) (fun l => hF l _ (g_sat_m (g_sat_b hs) (fun a h => ⟨a, rfl, h⟩))) ix n hw hd hav hroom rest hst hcat (fun r2 ⟨a, e1, h⟩ => by subst e1; exact k a h)
end CL
section CP
variable {X : g_X} {R : Room} {cc : ByteArray} {nL ow : Nat} {ret : Option FieldType} {pc : Nat} {L : List (Nat × Value)} {st : List Value} {hp : List g_E} {y : MethodName} {cc2 : ByteArray} {nL2 : Nat} {ret2 : Option FieldType} {rm : Room} {av : List Value} {hl : List g_E} {α : Type} {a : α} {rv : α → Option Value} {ho : α → List g_E}
theorem g_pM (hF : g_F y cc2 nL2 ret2 rm av hp (some a) rv ho) (ix : Nat) (v : Bool) (n : Nat) (hw : g_W ow ix y cc2 nL2 ret2 v n) (hd : decode cc pc = .ok (g_ci v ix, 3)) (hav : av.length = if v then n + 1 else n)
    (hroom : rm.cells = 0 ∧ rm.slots = 0 ∧ rm.frames + 1 ≤ R.frames ∧ 8 + (nL2 + 11) + rm.locals ≤ R.locals) (rest : List Value) (hst : st = av.reverse ++ rest) (hcat : (rest.map fun v => v.category).sum ≤ 8)
    (hrecv : v = true → ∃ q ci fs, av.head? = some (.ref q) ∧ hp[q]? = some (.inr (ci, fs)) ∧ ci < 8 ∧ y.cls = g_cn ci)
    (k : g_G X R cc nL ow ret (pc + 3) L ((rv a).toList ++ rest) (ho a)) : g_G X R cc nL ow ret pc L st hp :=
  g_callM (P0 := fun r2 h2 => r2 = rv a ∧ h2 = ho a) (fun l => hF l _ (g_sat_i ⟨rfl, rfl⟩)) ix v n hw hd hav hroom rest hst hcat hrecv (fun r2 h2 ⟨e1, e2⟩ _ => by subst e1; subst e2; exact k)
theorem g_pP (hF : g_F y cc2 nL2 ret2 rm av hl (some a) rv ho) (ix : Nat) (v : Bool) (n : Nat) (hw : g_W ow ix y cc2 nL2 ret2 v n) (hd : decode cc pc = .ok (g_ci v ix, 3)) (hav : av.length = if v then n + 1 else n)
    (hroom : rm.cells = 0 ∧ rm.slots = 0 ∧ rm.frames + 1 ≤ R.frames ∧ 8 + (nL2 + 11) + rm.locals ≤ R.locals) (sel : List Nat) (rest : List Value) (hst : st = (av.map (g_re (g_f sel))).reverse ++ rest) (hcat : (rest.map fun v => v.category).sum ≤ 8)
    (hnd : va_nd sel = true) (hsel : sel.map (fun i => hp[i]?) = (hl.map (g_rnE (g_f sel))).map some)
    (hrecv : v = true → ∃ q ci fs, av.head? = some (.ref q) ∧ hl[q]? = some (.inr (ci, fs)) ∧ ci < 8 ∧ y.cls = g_cn ci)
    (k : g_G X R cc nL ow ret (pc + 3) L (((rv a).map (g_re (g_f sel))).toList ++ rest) (g_pb sel hp ((ho a).map (g_rnE (g_f sel))))) : g_G X R cc nL ow ret pc L st hp :=
  g_callP (P0 := fun r2 h2 => r2 = rv a ∧ h2 = ho a) (fun l => hF l _ (g_sat_i ⟨rfl, rfl⟩)) ix v n hw hd hav hroom sel rest hst hcat hnd hsel hrecv (fun r2 h2 ⟨e1, e2⟩ _ => by subst e1; subst e2; exact k)
theorem g_pN (hF : g_F y cc2 nL2 ret2 rm av [] (some a) rv (fun _ => [])) (ix : Nat) (n : Nat) (hw : g_W ow ix y cc2 nL2 ret2 false n) (hd : decode cc pc = .ok (.invokestatic ix, 3)) (hav : av.length = n)
    (hroom : rm.cells = 0 ∧ rm.slots = 0 ∧ rm.frames + 1 ≤ R.frames ∧ 8 + (nL2 + 11) + rm.locals ≤ R.locals) (rest : List Value) (hst : st = av.reverse ++ rest) (hcat : (rest.map fun v => v.category).sum ≤ 8)
    (k : g_G X R cc nL ow ret (pc + 3) L ((rv a).toList ++ rest) hp) : g_G X R cc nL ow ret pc L st hp :=
  g_callN (P0 := fun r2 _ => r2 = rv a) (fun l => hF l _ (g_sat_i rfl)) ix n hw hd hav hroom rest hst hcat (fun r2 e1 => by subst e1; exact k)
theorem g_brn (tgt : Nat) (i : Instr) (c : Prop) (st2 : List Value) (hk : g_bk cc pc tgt i = true) (h : g_cd i st = some (¬ c, st2)) (kt : ¬ c → g_G X R cc nL ow ret tgt L st2 hp) (kf : c → g_G X R cc nL ow ret (pc + 3) L st2 hp) : g_G X R cc nL ow ret pc L st hp :=
  g_br tgt i (¬ c) st2 hk h kt (fun z => kf (Classical.byContradiction z))
end CP
/-- a part, and what comes behind it -/
theorem g_join {α β : Type} {o : Option α} {kf : α → Option β} {P : β → Prop} {Gb : Prop} (GJ : α → Prop) (hs : g_sat (o.bind kf) P) (hJ : ∀ a, g_sat (kf a) P → GJ a) (hb : g_sat o GJ → Gb) : Gb := hb (g_sat_m (g_sat_b hs) hJ)
/-- a part that may end the whole: inl -/
def g_el {ρ α σ : Type} (inj : ρ → σ) (o : Option (ρ ⊕ α)) (k : α → Option σ) : Option σ := o.bind (fun z => match z with
  | .inl a => some (inj a)
  | .inr v => k v)
theorem g_joinE {ρ α σ : Type} {inj : ρ → σ} {o : Option (ρ ⊕ α)} {kf : α → Option σ} {P : σ → Prop} {Gb : Prop} (GJ : α → Prop) (hs : g_sat (g_el inj o kf) P) (hJ : ∀ a, g_sat (kf a) P → GJ a) (hb : ∀ GP : ρ ⊕ α → Prop, (∀ a, GP (.inl a) → P (inj a)) → (∀ v, GP (.inr v) → GJ v) → g_sat o GP → Gb) : Gb := by
  refine hb (fun z => match z with
    | .inl a => P (inj a)
    | .inr v => GJ v) (fun a h => h) (fun v h => h) (g_sat_m (g_sat_b hs) (fun z h => ?_))
  cases z with
  | inl a =>
    have h2 : g_sat (some (inj a)) P := h
    have h3 : P (inj a) := g_sat_s h2
    exact h3
  | inr v => exact hJ v h
/-- an array of references by a row of places -/
def g_rl (l : List Nat) : Nat → Option Nat := fun j => l[j]?
theorem g_rl_map (f : Nat → Nat) (l : List Nat) : (fun j => (g_rl l j).map f) = g_rl (l.map f) := by
  funext j
  simp [g_rl]
theorem g_rl_up (l : List Nat) (c v : Nat) (h : c < l.length) : va_up (g_rl l) c (some v) = g_rl (l.set c v) := by
  funext j
  by_cases hj : j = c
  · subst hj
    simp [va_up, g_rl, h]
  · simp [va_up, g_rl, hj, List.getElem?_set_ne (Ne.symm hj)]
theorem g_rn_rl (f : Nat → Nat) (ty : FieldType) (n : Nat) (l : List Nat) : g_rnE f (.inl (ty, n, .inr (.inr (.inr (.inr (g_rl l)))))) = .inl (ty, n, .inr (.inr (.inr (.inr (g_rl (l.map f)))))) := by
  simp only [g_rnE, g_rA, g_rl_map]
