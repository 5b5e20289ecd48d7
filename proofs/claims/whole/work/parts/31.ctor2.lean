/-! constructors' contracts -/
/-- the end of a constructor: the cells that were there (their addresses stay), and new ones behind them -/
def g_QI (D : va_G) (r0 : Nat → Nat) (kp0 : Nat → ClassId) (n0 : Nat) (post : List g_E → Prop) (A : Nat → Prop) : Array Value → State → Outcome → State → Prop := fun _ st oc t =>
  (oc = .returned none ∧ ∃ (r : Nat → Nat) (kp : Nat → ClassId) (hp : List g_E), g_ag n0 r0 r ∧ (∀ k, k < n0 → kp0 k = kp k) ∧ post hp ∧ g_cld hp ∧ g_R D r kp A hp t t.heap) ∧ va_F A st t
def g_CI (l : Launch) (y : MethodName) (cc : ByteArray) (nL : Nat) (rm : Room) (mc ms : Nat) (av : List Value) (hp : List g_E) (post : List g_E → Prop) : Prop :=
  ∀ (D : va_G) (r : Nat → Nat) (kp : Nat → ClassId) (sz : Nat), Met l y (.code y cc nL none :: g_T) rm (va_Pc (av.map (g_re r)) (fun U => U.heap.size = sz ∧ g_R D r kp (fun _ => True) hp U U.heap)) (g_QI D r kp hp.length post (va_A (g_cW r kp hp) sz)) mc ms (va_A (g_cW r kp hp) sz)
/-- a constructor's place: so many cells and slots were made -/
def g_AtI (post : List g_E → Prop) (n0 mc ms c s : Nat) (X : g_X) : Prop := match X with
  | (_, _, _, s0, _, args, below, meth, _, D, r, kp, A, Q, nc, ns) => nc = c ∧ ns = s ∧ meth.name = "<init>" ∧ ∃ (r0 : Nat → Nat) (kp0 : Nat → ClassId), g_ag n0 r0 r ∧ (∀ k, k < n0 → kp0 k = kp k) ∧ Q = MQ below (g_QI D r0 kp0 n0 post A) args s0 mc ms A
theorem g_AtI.ctor {post : List g_E → Prop} {n0 mc ms c s : Nat} {X : g_X} (h : g_AtI post n0 mc ms c s X) : g_ctor X := by
  obtain ⟨l, p, e, s0, m, args, below, meth, c0, D, r, kp, A, Q, nc, ns⟩ := X
  exact h.2.2.1
theorem g_AtI.nc {post : List g_E → Prop} {n0 mc ms c s : Nat} {X : g_X} (h : g_AtI post n0 mc ms c s X) : g_nc X = c ∧ g_ns X = s := by
  obtain ⟨l, p, e, s0, m, args, below, meth, c0, D, r, kp, A, Q, nc, ns⟩ := X
  exact ⟨h.1, h.2.1⟩
theorem g_AtI.up {post : List g_E → Prop} {n0 mc ms c s n dc ds : Nat} {X : g_X} {r2 : Nat → Nat} {kp2 : Nat → ClassId} (h : g_AtI post n0 mc ms c s X) (hn : n0 ≤ n) (h1 : g_ag n (g_r X) r2) (h2 : ∀ k, k < n → g_kp X k = kp2 k) : g_AtI post n0 mc ms (c + dc) (s + ds) (g_up X r2 kp2 dc ds) := by
  obtain ⟨l, p, e, s0, m, args, below, meth, c0, D, r, kp, A, Q, nc, ns⟩ := X
  obtain ⟨a1, a2, a3, r0, kp0, a4, a5, a6⟩ := h
  exact ⟨by rw [a1], by rw [a2], a3, r0, kp0, a4.trans (h1.mono hn), fun k hk => (a5 k hk).trans (h2 k (by omega)), a6⟩
theorem g_ofGI {l : Launch} {y : MethodName} {cc : ByteArray} {nL : Nat} {rm : Room} {mc ms : Nat} {av : List Value} {hp : List g_E} {post : List g_E → Prop} (ow : Nat) (hy : plainName y.cls = true) (ho : y.cls = g_cn ow) (hini : y.name = "<init>") (hn : (av.map fun v => v.category).sum ≤ nL) (k : ∀ X : g_X, g_AtI post hp.length mc ms 0 0 X → g_G X rm cc nL ow none 0 (lv_args 0 av) [] hp) : g_CI l y cc nL rm mc ms av hp post := by
  intro D r kp sz
  refine Met.ofW (cc := cc) (maxL := nL) (ret := none) hy rfl ?_
  intro p e s m args below meth c s₁ B hml hv
  obtain ⟨rfl, hsz, hR0⟩ := hv
  have hts := atoms_spec (ws := .code y cc nL none :: g_T) B.pre
  have hown : s.vm.findClass (g_cn ow) = some m.cls := by rw [← ho]; exact findClass_of_methodNamed B.named
  have hin : meth.name = "<init>" := by rw [(name_of_methodNamed B.named B.method).1]; exact hini
  subst hsz
  have hR : g_R D r kp (va_A (g_cW r kp hp) s.heap.size) hp s s.heap := ⟨hR0.1, hR0.2.1, hR0.2.2.1, hR0.2.2.2.1, hR0.2.2.2.2.self⟩
  have hlen : ∀ vs : List Value, (lg_sl (vs.map (g_re r))).length = (vs.map fun v => v.category).sum := by
    intro vs
    induction vs with
    | nil => rfl
    | cons v vs ih =>
      have h1 : lg_sl ((v :: vs).map (g_re r)) = lg_sl [g_re r v] ++ lg_sl (vs.map (g_re r)) := by simp [lg_sl]
      rw [h1, List.length_append, ih]
      have h2 : (lg_sl [g_re r v]).length = v.category := by cases v <;> rfl
      rw [h2]
      simp
  have hl := lv_entry (av.map (g_re r)) (n := nL) (by rw [hlen]; exact hn)
  have hla : ∀ (i : Nat) (vs : List Value), lv_args i (vs.map (g_re r)) = g_L r (lv_args i vs) := by
    intro i vs
    induction vs generalizing i with
    | nil => rfl
    | cons v vs ih =>
      simp only [List.map_cons, lv_args, g_cat]
      rw [ih]
      rfl
  rw [hla] at hl
  rw [lg_entry_eq]
  exact k (l, p, e, s, m, (av.map (g_re r)).toArray, below, meth, c, D, r, kp, va_A (g_cW r kp hp) s.heap.size, _, 0, 0) ⟨rfl, rfl, hin, r, kp, ⟨fun _ _ => rfl, rfl⟩, fun _ _ => rfl, rfl⟩ B.exec B.bytes hml hown (fun w hw => hts w (List.mem_cons_of_mem _ hw)) B.returns B.notSynchronized (fun q h => Or.inr h) (Nat.zero_le _) (Nat.zero_le _) s.heap [] _ hR va_S.rf hl
theorem g_vretI {post : List g_E → Prop} {n0 mc ms c0 s0 : Nat} {X : g_X} {R : Room} {cc : ByteArray} {nL ow : Nat} {pc : Nat} {L : List (Nat × Value)} {hp : List g_E} (hX : g_AtI post n0 mc ms c0 s0 X) (hd : decode cc pc = .ok (.return_, 1)) (h1 : c0 ≤ mc) (h2 : s0 ≤ ms) (hcl : g_cld hp) (h : post hp) : g_G X R cc nL ow none pc L [] hp := by
  obtain ⟨l, p, e, s, m, args, below, meth, c, D, r, kp, A, Q, nc, ns⟩ := X
  obtain ⟨a1, a2, a3, r0, kp0, a4, a5, a6⟩ := hX
  subst a1 a2 a6
  intro hx hb hml hown hts hr hlocks hA hnc hns H locs ls hR hS hL
  refine W.widen (k := mc) (n := ms) h1 h2 ?_
  exact W.vret hx hb hr (fun t ht hW => ⟨⟨rfl, r, kp, hp, a4, a5, h, hcl, by rw [ht]; exact hR.moved hW⟩, hS.F ht⟩) hS.2.2 hd hlocks
/-- the places of a constructor's cells among the caller's: its own object is q, the named one is p, those that it makes come behind the n that are there -/
def g_fi (q p n : Nat) (j : Nat) : Nat := if j = 0 then q else if j = 1000 then p else n + (j - 1)
set_option maxHeartbeats 4000000 in
theorem g_callI {X : g_X} {R : Room} {cc : ByteArray} {nL ow : Nat} {ret : Option FieldType} {pc : Nat} {L : List (Nat × Value)} {st : List Value} {hp : List g_E} {y : MethodName} {cc2 : ByteArray} {nL2 : Nat} {rm : Room} {mc ms : Nat} {av : List Value} {e0 : g_E} {post : List g_E → Prop}
    (hC : ∀ l, g_CI l y cc2 nL2 rm mc ms av [e0] post) (ix : Nat) (hini : Cond.initialized y.cls ∈ g_T) (hy : y.cls ≠ "java/lang/invoke/MethodHandle" ∧ y.cls ≠ "java/lang/invoke/VarHandle") (hnm : y.name = "<init>") (hinst : Cond.instanceMethod y ∈ g_T) (hlk : Cond.methodLink (g_cn ow) ix y ∈ g_T ∨ Cond.methodLinkNest (g_cn ow) ix y R_6 ∈ g_N) (hcode : Cond.code y cc2 nL2 none ∈ g_T) (hd : decode cc pc = .ok (.invokespecial ix, 3)) (n : Nat) (hn : (parseMethodDescriptor y.desc).map (fun d => d.parameters.length) = some n) (As : List Value) (hav : av = .ref 0 :: As) (hasn : As.length = n)
    (hroom : rm.cells = mc ∧ rm.slots = ms ∧ rm.frames + 1 ≤ R.frames ∧ 8 + (nL2 + 11) + rm.locals ≤ R.locals) (q pn : Nat) (rest : List Value) (hst : st = (av.map (g_re (g_fi q pn hp.length))).reverse ++ rest) (hcat : (rest.map fun v => v.category).sum ≤ 8)
    (hq : hp[q]? = some (g_rnE (g_fi q pn hp.length) e0)) (hpn : pn < hp.length ∨ pn = 1000) (hcl : g_cld hp) (hsm : ∀ hl2, post hl2 → hp.length + hl2.length < 1000 ∧ 1 ≤ hl2.length) (hLc : L.all (fun q => g_vcl hp.length q.2) = true) (hsc : rest.all (g_vcl hp.length) = true) (hcap : g_nc X + mc ≤ R.cells ∧ g_ns X + ms ≤ R.slots) (hob : ∀ hl2, post hl2 → ∃ o, hl2[0]? = some (.inr o))
    (k : ∀ (r2 : Nat → Nat) (kp2 : Nat → ClassId) (e1 : g_E) (new : List g_E), g_ag hp.length (g_r X) r2 → (∀ k, k < hp.length → g_kp X k = kp2 k) → post (e1 :: new) → g_cld (hp.set q (g_rnE (g_fi q pn hp.length) e1) ++ new.map (g_rnE (g_fi q pn hp.length))) → g_G (g_up X r2 kp2 mc ms) R cc nL ow ret (pc + 3) L rest (hp.set q (g_rnE (g_fi q pn hp.length) e1) ++ new.map (g_rnE (g_fi q pn hp.length)))) : g_G X R cc nL ow ret pc L st hp := by
  obtain ⟨l, p, e, s, m, args, below, meth, c, D, r, kp, A, Q, nc, ns⟩ := X
  intro hx hb hml hown hts hr hlocks hA hnc hns H locs ls hR hS hL
  generalize hf : g_fi q pn hp.length = f at hst hq k
  have hf0 : f 0 = q := by rw [← hf]; rfl
  have hqn : q < hp.length := (List.getElem?_eq_some_iff.mp hq).1
  -- the constructor's one cell
  have hRl : ∀ U : State, U.heap = H → s.WarmedH U.vm → g_R D (fun j => r (f j)) (fun j => kp (f j)) (fun _ => True) [e0] U U.heap := by
    intro U hU hW
    have hR2 := hR.moved hW
    refine ⟨hR2.1, fun j a hj => ?_, hR2.2.2.1, fun j x hx9 => ?_, ⟨fun i j x y hi hj hxy => ?_, fun _ _ _ => trivial⟩⟩
    · have hj1 : j < 1 := (List.getElem?_eq_some_iff.mp hj).1
      have hj0 : j = 0 := by omega
      subst hj0
      cases hj
      have h9 := hR2.2.1 q (a.1, g_rA f a.2) hq
      dsimp only
      rw [hf0]
      exact h9
    · obtain ⟨e2, h1, rfl⟩ := g_cW_of hx9
      have hj1 : j < 1 := (List.getElem?_eq_some_iff.mp h1).1
      have hj0 : j = 0 := by omega
      subst hj0
      cases h1
      rw [← g_cE_rn, hU, hf0]
      exact hR.2.2.2.1 _ _ (g_cW_at hq)
    · obtain ⟨e1, h1, rfl⟩ := g_cW_of hi
      obtain ⟨e2, h2, rfl⟩ := g_cW_of hj
      have hj1 : j < 1 := (List.getElem?_eq_some_iff.mp h2).1
      have hi1 : i < 1 := (List.getElem?_eq_some_iff.mp h1).1
      omega
  have hMet := hC l D (fun j => r (f j)) (fun j => kp (f j)) H.size
  have hav2 : (st.map (g_re r)) = (av.map (g_re (fun j => r (f j)))).reverse ++ rest.map (g_re r) := by
    rw [hst, List.map_append, List.map_reverse, List.map_map]
    congr 2
    apply List.map_congr_left
    intro v _
    exact g_re_re r f v
  have hblind : FrameBlind (va_Pc (av.map (g_re (fun j => r (f j)))) (fun U => U.heap.size = H.size ∧ g_R D (fun j => r (f j)) (fun j => kp (f j)) (fun _ => True) [e0] U U.heap)) := by
    intro a U g mk q9
    obtain ⟨q0, q1, q2⟩ := q9
    exact ⟨q0, q1, g_R.same (s := U) (U := U.calling g mk a) rfl q2⟩
  have hpre : ∀ U : State, U.heap = H → s.WarmedH U.vm → va_Pc (av.map (g_re (fun j => r (f j)))) (fun U => U.heap.size = H.size ∧ g_R D (fun j => r (f j)) (fun j => kp (f j)) (fun _ => True) [e0] U U.heap) (av.map (g_re (fun j => r (f j)))).toArray U := fun U hU hW => ⟨rfl, by rw [hU], hRl U hU hW⟩
  have hG : GoodIn g_T (.code y cc2 nL2 none :: g_T) := by
    intro w hw
    have hw2 : w ∈ g_T := by
      rcases List.mem_cons.mp hw with rfl | h
      · exact hcode
      · exact h
    exact ⟨hw2, g_T_good hw2⟩
  have hcat2 : 2 * (F0 m pc ls (st.map (g_re r))).monitorRoom + (((rest.map (g_re r))).map fun v => v.category).sum ≤ 8 := lv_room (by rw [g_cats]; exact hcat)
  have hcap2 : nc + mc ≤ R.cells ∧ ns + ms ≤ R.slots := hcap
  subst hav
  have hstk : (F0 m pc ls (st.map (g_re r))).stack = (As.map (g_re (fun j => r (f j)))).reverse ++ .ref (r (f 0)) :: rest.map (g_re r) := by
    show st.map (g_re r) = _
    rw [hav2]
    simp [g_re]
  have hrun : va_Run p l e R s m args below meth c H locs nc ns mc ms (F0 m pc ls (st.map (g_re r))) (rest.map (g_re r)) (g_QI D (fun j => r (f j)) (fun j => kp (f j)) 1 post (va_A (g_cW (fun j => r (f j)) (fun j => kp (f j)) [e0]) H.size) (Value.ref (r (f 0)) :: As.map (g_re (fun j => r (f j)))).toArray) (va_A (g_cW (fun j => r (f j)) (fun j => kp (f j)) [e0]) H.size) := by
    rcases hlk with hlk | hlk
    · exact va_runI (As := As.map (g_re (fun j => r (f j)))) (rest := rest.map (g_re r)) (n := n) (bytes := cc2) (maxL := nL2) (b := r (f 0)) ⟨hx, hb, hml, hown, hts⟩ hMet ⟨callB_of n hts hG rfl hroom.1 hroom.2.1 (hts _ hini) (hts _ hlk) ⟨hy.1, hy.2, hn⟩ ⟨hroom.2.2.1, hroom.2.2.2⟩, hnm, hts _ hinst⟩ ⟨hblind, hpre⟩ rfl (by simpa using hasn) hL.1 hstk hcat2 hd hcap2
    · exact va_runIN (As := As.map (g_re (fun j => r (f j)))) (rest := rest.map (g_re r)) (n := n) (bytes := cc2) (maxL := nL2) (b := r (f 0)) ⟨hx, hb, hml, hown, hts⟩ hMet ⟨va_cnB n hts hG rfl hroom.1 hroom.2.1 (hR.2.2.1 _ hlk) (hts _ hini) ⟨hy.1, hy.2, hn⟩ ⟨hroom.2.2.1, hroom.2.2.2⟩, hnm, hts _ hinst⟩ ⟨hblind, hpre⟩ rfl (by simpa using hasn) hL.1 hstk hcat2 hd hcap2
  -- behind it
  intro T hT XT
  obtain ⟨rv0, st₀, t, T', L', h0, X', hL', e1, e2, ⟨⟨hrv, rc, kc, hl2, hag0, hkc0, hpost, hcl2, hR1⟩, hz, hkept⟩, stp⟩ := hrun T hT XT
  rw [h0] at hz hkept
  have hrv2 : rv0 = none := by cases hrv; rfl
  subst hrv2
  have hal : s.vm.Alike t.vm := by rw [← e2]; exact X'.warmed.alike
  obtain ⟨hsz, hone⟩ := hsm hl2 hpost
  obtain ⟨ob, hob0⟩ := hob hl2 hpost
  obtain ⟨c1, new, rfl⟩ : ∃ c1 new, hl2 = c1 :: new := by
    cases hl2 with
    | nil => simp at hone
    | cons c1 new => exact ⟨c1, new, rfl⟩
  have hc1 : c1 = .inr ob := by simpa using hob0
  have hrc0 : rc 0 = r q := by
    have h9 := hag0.1 0 (by omega)
    dsimp only at h9
    rw [← h9, hf0]
  have hA1 : ∀ z, va_A (g_cW (fun j => r (f j)) (fun j => kp (f j)) [e0]) H.size z ↔ z = r q ∨ H.size ≤ z := by
    intro z
    constructor
    · rintro (⟨j, ee, hj⟩ | h)
      · obtain ⟨e3, h3, h4⟩ := g_cW_of hj
        have hj1 : j < 1 := (List.getElem?_eq_some_iff.mp h3).1
        have hj0 : j = 0 := by omega
        subst hj0
        left
        have h5 : z = r (f 0) := congrArg Prod.fst h4
        rw [h5, hf0]
      · exact Or.inr h
    · rintro (rfl | h)
      · left
        exact ⟨0, _, by rw [g_cW_at (e := e0) rfl]; rw [hf0]⟩
      · exact Or.inr h
  have hrq : r q < H.size := (hR.2.2.2.1 _ _ (g_cW_at hq)).lt
  have hrlt : ∀ {k : Nat} {e3 : g_E}, hp[k]? = some e3 → r k < H.size := fun h => (hR.2.2.2.1 _ _ (g_cW_at h)).lt
  -- addresses of the new ones
  have hnewlt : ∀ j e3, new[j]? = some e3 → H.size ≤ rc (j + 1) := by
    intro j e3 hj
    have h3 : (c1 :: new)[j + 1]? = some e3 := by simpa using hj
    have h4 := (hA1 _).mp (hR1.2.2.2.2.2 _ _ (g_cW_at h3))
    rcases h4 with h4 | h4
    · exfalso
      have h5 := hR1.2.2.2.2.1 (j + 1) 0 _ _ (g_cW_at h3) (g_cW_at (e := c1) rfl) (by dsimp only; rw [hrc0]; exact h4)
      omega
    · exact h4
  generalize hr2 : (fun k => if k < hp.length then r k else if k = 1000 then r 1000 else rc (k - hp.length + 1)) = r2 at *
  generalize hk2 : (fun k => if k < hp.length then kp k else kc (k - hp.length + 1)) = kp2 at *
  have hlp : hp.length < 1000 := by omega
  have hr2a : ∀ k, k < hp.length → r2 k = r k := fun k hk => by rw [← hr2]; simp [hk]
  have hr2b : r2 1000 = r 1000 := by rw [← hr2]; simp [show ¬ 1000 < hp.length by omega]
  have hr2c : ∀ j, j < new.length → r2 (hp.length + j) = rc (j + 1) := fun j hj => by
    have hne : hp.length + j ≠ 1000 := by simp at hsz; omega
    rw [← hr2]
    simp [show ¬ hp.length + j < hp.length by omega, hne]
  have hk2a : ∀ k, k < hp.length → kp2 k = kp k := fun k hk => by rw [← hk2]; simp [hk]
  have hk2c : ∀ j, kp2 (hp.length + j) = kc (j + 1) := fun j => by rw [← hk2]; simp [show ¬ hp.length + j < hp.length by omega]
  have hag : g_ag hp.length r r2 := ⟨fun k hk => (hr2a k hk).symm, hr2b.symm⟩
  have hfj : ∀ j, j < (c1 :: new).length → f j < hp.length + new.length ∧ r2 (f j) = rc j := by
    intro j hj
    cases j with
    | zero => rw [hf0]; exact ⟨by omega, by rw [hr2a q hqn, hrc0]⟩
    | succ j =>
      have hj2 : j < new.length := by simpa using hj
      have hne : j + 1 ≠ 1000 := by simp at hsz; omega
      have h5 : f (j + 1) = hp.length + j := by rw [← hf]; simp [g_fi, hne]
      rw [h5]
      exact ⟨by omega, hr2c j hj2⟩
  have hf1000 : f 1000 = pn := by rw [← hf]; simp [g_fi]
  have hagf : g_ag (c1 :: new).length (fun j => r2 (f j)) rc := by
    refine ⟨fun j hj => (hfj j hj).2, ?_⟩
    dsimp only
    rw [hf1000]
    have h6 := hag0.2
    dsimp only at h6
    rw [← h6, hf1000]
    rcases hpn with h | h
    · exact hr2a pn h
    · rw [h]; exact hr2b
  generalize hhp2 : hp.set q (g_rnE f c1) ++ new.map (g_rnE f) = hp2 at *
  have hl2len : hp2.length = hp.length + new.length := by rw [← hhp2]; simp
  -- what stands where
  have hat : ∀ k e3, hp2[k]? = some e3 → (k = q ∧ e3 = g_rnE f c1) ∨ (k ≠ q ∧ k < hp.length ∧ hp[k]? = some e3) ∨ ∃ j e4, k = hp.length + j ∧ new[j]? = some e4 ∧ e3 = g_rnE f e4 := by
    intro k e3 hk
    rw [← hhp2] at hk
    by_cases hlt : k < hp.length
    · rw [List.getElem?_append_left (by simpa using hlt)] at hk
      by_cases hkq : q = k
      · subst hkq
        rw [List.getElem?_set_self hlt] at hk
        exact Or.inl ⟨rfl, (Option.some.inj hk).symm⟩
      · rw [List.getElem?_set_ne hkq] at hk
        exact Or.inr (Or.inl ⟨Ne.symm hkq, hlt, hk⟩)
    · rw [List.getElem?_append_right (by simpa using hlt)] at hk
      simp only [List.length_set, List.getElem?_map] at hk
      cases h7 : new[k - hp.length]? with
      | none => rw [h7] at hk; cases hk
      | some e4 =>
        rw [h7] at hk
        exact Or.inr (Or.inr ⟨k - hp.length, e4, by omega, h7, (Option.some.inj hk).symm⟩)
  have hcld : g_cld hp2 := by
    intro k e3 hk
    rw [hl2len]
    have hcomp : ∀ (j : Nat) (e4 : g_E), (c1 :: new)[j]? = some e4 → g_ecl (hp.length + new.length) (g_rnE f e4) := by
      intro j e4 hj ra rb hab
      have hrn : ∀ (ρ : Nat → Nat) (e9 : g_E), g_rnE ρ (g_rnE f e9) = g_rnE (fun j => ρ (f j)) e9 := by
        intro ρ e9
        cases e9 with
        | inl a => simp only [g_rnE, g_rA_rA]
        | inr o =>
          simp only [g_rnE, List.map_map]
          congr 2
          apply List.map_congr_left
          intro v _
          exact g_re_re ρ f v
      rw [hrn, hrn]
      refine hcl2 j e4 hj _ _ ⟨fun i hi => hab.1 _ (hfj i hi).1, ?_⟩
      dsimp only
      rw [hf1000]
      rcases hpn with h | h
      · exact hab.1 pn (by omega)
      · rw [h]; exact hab.2
    rcases hat k e3 hk with ⟨-, rfl⟩ | ⟨-, -, h3⟩ | ⟨j, e4, -, h4, rfl⟩
    · exact hcomp 0 c1 rfl
    · exact (hcl k e3 h3).mono (by omega)
    · exact hcomp (j + 1) e4 (by simpa using h4)
  have hcellrn : ∀ (j : Nat) (e4 : g_E), (c1 :: new)[j]? = some e4 → kp2 (f j) = kc j ∨ (∃ o, e4 = .inr o) → g_cE r2 kp2 (f j) (g_rnE f e4) = g_cE rc kc j e4 := by
    intro j e4 hj hkk
    rw [g_cE_rn]
    have h8 := hcl2 j e4 hj _ _ hagf
    rcases hkk with hkk | ⟨o, rfl⟩
    · exact g_cE_eq h8 hkk
    · simp only [g_rnE, Sum.inr.injEq, Prod.mk.injEq, true_and] at h8
      simp only [g_cE, h8]
  have hR3 : g_R D r2 kp2 A hp2 s T'.heap := by
    refine ⟨hR.1, fun k a hk => ?_, hR.2.2.1, fun k x hx9 => ?_, ⟨fun i j x y hi hj hxy => ?_, fun k x hx9 => ?_⟩⟩
    · rcases hat k _ hk with ⟨-, h3⟩ | ⟨-, hlt, h3⟩ | ⟨j, e4, rfl, h4, h5⟩
      · rw [hc1] at h3; cases h3
      · rw [hk2a k hlt]; exact hR.2.1 k a h3
      · rw [hk2c j]
        cases e4 with
        | inr o => cases h5
        | inl a4 =>
          cases h5
          have h6 := hR1.2.1 (j + 1) a4 (by simpa using h4)
          exact ⟨arrOfT_moved hal.symm h6.1, h6.2.moved hal.symm⟩
    · obtain ⟨e3, h3, rfl⟩ := g_cW_of hx9
      rcases hat k e3 h3 with ⟨hkq, rfl⟩ | ⟨hne, hlt, h4⟩ | ⟨j, e4, rfl, h4, rfl⟩
      · have h5 := hcellrn 0 c1 rfl (Or.inr ⟨ob, hc1⟩)
        rw [hf0] at h5
        rw [hkq, h5, hr2a q hqn, ← hrc0, e1]
        exact hR1.2.2.2.1 0 _ (g_cW_at (e := c1) rfl)
      · have h5 : g_cE r2 kp2 k e3 = g_cE r kp k e3 := g_cE_eq (hcl k e3 h4 _ _ hag.symm) (hk2a k hlt)
        rw [h5, hr2a k hlt]
        refine (hR.2.2.2.1 k _ (g_cW_at h4)).kept ?_
        rw [e1]
        refine hkept _ (hrlt h4) (fun hin => ?_)
        rcases (hA1 _).mp hin with h6 | h6
        · exact hne (hR.2.2.2.2.1 k q _ _ (g_cW_at h4) (g_cW_at hq) h6)
        · have := hrlt h4
          dsimp only at h6
          omega
      · have hj2 : j < new.length := (List.getElem?_eq_some_iff.mp h4).1
        have hne : j + 1 ≠ 1000 := by simp at hsz; omega
        have h5 : f (j + 1) = hp.length + j := by rw [← hf]; simp [g_fi, hne]
        have h6 := hcellrn (j + 1) e4 (by simpa using h4) (Or.inl (by rw [h5]; exact hk2c j))
        rw [h5] at h6
        rw [h6, hr2c j hj2, e1]
        exact hR1.2.2.2.1 (j + 1) _ (g_cW_at (by simpa using h4))
    · have old : ∀ i x, (g_cW r2 kp2 hp2)[i]? = some x → (i < hp.length ∧ x.1 = r i ∧ ∃ e3, hp[i]? = some e3) ∨ ∃ j e4, i = hp.length + j ∧ new[j]? = some e4 ∧ x.1 = rc (j + 1) := by
        intro i x hi
        obtain ⟨e3, h3, rfl⟩ := g_cW_of hi
        rcases hat i e3 h3 with ⟨rfl, rfl⟩ | ⟨hne, hlt, h4⟩ | ⟨j, e4, rfl, h4, rfl⟩
        · exact Or.inl ⟨hqn, hr2a i hqn, _, hq⟩
        · exact Or.inl ⟨hlt, hr2a i hlt, _, h4⟩
        · exact Or.inr ⟨j, e4, rfl, h4, hr2c j (List.getElem?_eq_some_iff.mp h4).1⟩
      rcases old i x hi with ⟨a1, a2, e3, a3⟩ | ⟨j1, e3, rfl, a3, a4⟩ <;> rcases old j y hj with ⟨b1, b2, e4, b3⟩ | ⟨j2, e4, rfl, b3, b4⟩
      · exact hR.2.2.2.2.1 i j _ _ (g_cW_at a3) (g_cW_at b3) (by dsimp only; rw [← a2, ← b2]; exact hxy)
      · exfalso
        have h7 := hrlt a3
        have h8 := hnewlt j2 e4 b3
        rw [a2, b4] at hxy
        omega
      · exfalso
        have h7 := hrlt b3
        have h8 := hnewlt j1 e3 a3
        rw [a4, b2] at hxy
        omega
      · have h7 := hR1.2.2.2.2.1 (j1 + 1) (j2 + 1) _ _ (g_cW_at (by simpa using a3)) (g_cW_at (by simpa using b3)) (by dsimp only; rw [← a4, ← b4]; exact hxy)
        omega
    · obtain ⟨e3, h3, rfl⟩ := g_cW_of hx9
      rcases hat k e3 h3 with ⟨hkq, rfl⟩ | ⟨hne, hlt, h4⟩ | ⟨j, e4, rfl, h4, rfl⟩
      · dsimp only
        rw [hkq, hr2a q hqn]
        exact hR.2.2.2.2.2 _ _ (g_cW_at hq)
      · dsimp only
        rw [hr2a k hlt]
        exact hR.2.2.2.2.2 _ _ (g_cW_at h4)
      · dsimp only
        rw [hr2c j (List.getElem?_eq_some_iff.mp h4).1]
        exact hA _ (Nat.le_trans hS.1 (hnewlt j e4 h4))
  have hAin : ∀ z, va_A (g_cW (fun j => r (f j)) (fun j => kp (f j)) [e0]) H.size z → A z := by
    intro z hz9
    rcases (hA1 z).mp hz9 with rfl | h
    · exact hR.2.2.2.2.2 _ _ (g_cW_at hq)
    · exact hA z (Nat.le_trans hS.1 h)
  have hS3 : va_S A s.heap T'.heap (locs ++ L') := ⟨Nat.le_trans hS.1 (by rw [e1]; exact hz), fun z h1 h2 => by
      rw [e1, hkept z (Nat.lt_of_lt_of_le h1 hS.1) (fun w => h2 (hAin z w))]
      exact hS.2.1 z h1 h2, fun z hz9 => by
      rcases List.mem_append.mp hz9 with h | h
      · exact hS.2.2 z h
      · exact hAin _ (hL' z h)⟩
  have hk := k r2 kp2 c1 new hag (fun j hj => (hk2a j hj).symm) hpost (by rw [hhp2]; exact hcld)
  rw [hhp2] at hk
  have hk3 := hk hx hb hml hown hts hr hlocks hA hcap2.1 hcap2.2 T'.heap (locs ++ L') ls hR3 hS3 (by rw [← g_lcl_all hLc hag]; exact hL)
  rw [← g_vcl_all hsc hag] at hk3
  obtain ⟨t2, a1, b1⟩ := hk3 T' rfl X'
  exact ⟨t2, stp t2 a1, b1⟩
