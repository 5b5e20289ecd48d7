/-! A method's cells as a list; a reference is a place of that list; r tells the address of a place, kp the class of an array at a place. -/
abbrev g_E : Type := (FieldType × vp_A) ⊕ (Nat × List Value)
def g_re (r : Nat → Nat) (v : Value) : Value := match v with
  | .ref k => .ref (r k)
  | w => w
def g_rA (r : Nat → Nat) (a : vp_A) : vp_A := match a with
  | (n, .inr (.inr (.inr (.inr f)))) => (n, .inr (.inr (.inr (.inr (fun j => (f j).map r)))))
  | x => x
def g_cE (r : Nat → Nat) (kp : Nat → ClassId) (k : Nat) (e : g_E) : va_E := match e with
  | .inl a => .inl (kp k, g_rA r a.2)
  | .inr o => .inr (o.1, o.2.map (g_re r))
def g_cW (r : Nat → Nat) (kp : Nat → ClassId) (hp : List g_E) : va_W := hp.mapIdx (fun k e => (r k, g_cE r kp k e))
def g_L (r : Nat → Nat) (L : List (Nat × Value)) : List (Nat × Value) := L.map (fun q => (q.1, g_re r q.2))
theorem g_cW_at {r : Nat → Nat} {kp : Nat → ClassId} {hp : List g_E} {k : Nat} {e : g_E} (h : hp[k]? = some e) : (g_cW r kp hp)[k]? = some (r k, g_cE r kp k e) := by
  simp [g_cW, List.getElem?_mapIdx, h]
theorem g_cW_of {r : Nat → Nat} {kp : Nat → ClassId} {hp : List g_E} {k : Nat} {q : Nat × va_E} (h : (g_cW r kp hp)[k]? = some q) : ∃ e, hp[k]? = some e ∧ q = (r k, g_cE r kp k e) := by
  simp only [g_cW, List.getElem?_mapIdx] at h
  cases he : hp[k]? with
  | none => rw [he] at h; cases h
  | some e => rw [he] at h; exact ⟨e, rfl, (Option.some.inj h).symm⟩
theorem g_cW_set {r : Nat → Nat} {kp : Nat → ClassId} {hp : List g_E} {k : Nat} {e : g_E} : (g_cW r kp hp).set k (r k, g_cE r kp k e) = g_cW r kp (hp.set k e) := by
  apply List.ext_getElem?
  intro i
  simp only [g_cW, List.getElem?_mapIdx, List.getElem?_set, List.length_mapIdx]
  by_cases h : k = i
  · subst h
    by_cases hl : k < hp.length <;> simp [hl]
  · simp [h]
theorem g_cat (r : Nat → Nat) (v : Value) : (g_re r v).category = v.category := by cases v <;> rfl
theorem g_cats (r : Nat → Nat) (st : List Value) : ((st.map (g_re r)).map fun v => v.category) = st.map fun v => v.category := by
  simp only [List.map_map]
  apply List.map_congr_left
  intro v _
  exact g_cat r v
theorem g_L_f1 (r : Nat → Nat) (L : List (Nat × Value)) (i : Nat) (v : Value) : (i, g_re r v) :: (g_L r L).filter (fun q => !(q.1 == i) && !(q.1 + 1 == i && q.2.category == 2)) = g_L r ((i, v) :: L.filter (fun q => !(q.1 == i) && !(q.1 + 1 == i && q.2.category == 2))) := by
  simp only [g_L, List.map_cons, List.filter_map]
  congr 2
  apply List.filter_congr
  intro q _
  simp [g_cat]
theorem g_L_f2 (r : Nat → Nat) (L : List (Nat × Value)) (i : Nat) (v : Value) : (i, g_re r v) :: (g_L r L).filter (fun q => !(q.1 == i) && (!(q.1 == i + 1) && !(q.1 + 1 == i && q.2.category == 2))) = g_L r ((i, v) :: L.filter (fun q => !(q.1 == i) && (!(q.1 == i + 1) && !(q.1 + 1 == i && q.2.category == 2)))) := by
  simp only [g_L, List.map_cons, List.filter_map]
  congr 2
  apply List.filter_congr
  intro q _
  simp [g_cat]
theorem g_look {L : List (Nat × Value)} {i : Nat} {v : Value} (h : L.lookup i = some v) : (i, v) ∈ L := by
  induction L with
  | nil => cases h
  | cons q L ih =>
    obtain ⟨j, w⟩ := q
    simp only [List.lookup] at h
    by_cases hj : i == j
    · simp only [hj] at h
      cases h
      have : i = j := by simpa using hj
      subst this
      exact List.mem_cons_self
    · simp only [hj] at h
      exact List.mem_cons_of_mem _ (ih h)
theorem g_lookL {L : List (Nat × Value)} {i : Nat} {v : Value} (r : Nat → Nat) (h : L.lookup i = some v) : (i, g_re r v) ∈ g_L r L := List.mem_map.mpr ⟨(i, v), g_look h, rfl⟩
def g_isN : Cond → Bool
  | .fieldLinkNest .. => true
  | .methodLinkNest .. => true
  | .arrayOver (.object _) => true
  | .arrayOver (.array _) => true
  | _ => false
theorem g_ao_moved {ty : FieldType} {s U : State} (hal : s.vm.Alike U.vm) (hn : g_isN (.arrayOver ty) = true) (h : va_Nw (.arrayOver ty) s) : va_Nw (.arrayOver ty) U := by
  cases ty <;> first
    | (exfalso; revert hn; simp [g_isN]; done)
    | exact va_AO.moved hal h
    | exact Jvm.Stand.arrayOver_alikeB hal h
theorem g_ao_use {t : FieldType} {s : State} {A : Array Value} (h : va_Nw (.arrayOver (.array t)) s) : (Cond.arrayOver (.array t)).before A s = true := Jvm.Stand.arrayOver_alikeB (Vm.Alike.refl _) h
set_option maxRecDepth 100000 in
theorem g_N_all : g_N.all (fun w => g_isN w && decide (w ∈ g_N)) = true := by decide +kernel
theorem g_N_warm {s U : State} (hW : s.WarmedH U.vm) (h : ∀ w ∈ g_N, va_Nw w s) : ∀ w ∈ g_N, va_Nw w U := by
  intro w hw
  have h1 := List.all_eq_true.mp g_N_all w hw
  simp only [Bool.and_eq_true] at h1
  have h2 := h w hw
  cases w <;> first
    | exact va_Nw.warmF hW h2
    | exact va_Nw.warmM hW h2
    | exact g_ao_moved hW.alike h1.1 h2
    | (exfalso; revert h1; simp [g_isN]; done)
/-- what the heap H is, by the cells hp -/
def g_R (D : va_G) (r : Nat → Nat) (kp : Nat → ClassId) (A : Nat → Prop) (hp : List g_E) (U : State) (H : Heap) : Prop :=
  va_K D g_cl [] U ∧ (∀ (k : Nat) (a : FieldType × vp_A), hp[k]? = some (.inl a) → ArrOfT U (kp k) a.1 ∧ va_RA U (kp k) a.1) ∧ (∀ w ∈ g_N, va_Nw w U) ∧ va_P D g_cl (g_cW r kp hp) H ∧ va_D A (g_cW r kp hp)
/-- where the machine is: all that a method's body stands in -/
abbrev g_X : Type := Launch × Program × Env × State × MethodId × Array Value × List Frame × Method × Code × va_G × (Nat → Nat) × (Nat → ClassId) × (Nat → Prop) × (State → Prop) × Nat × Nat
/-- the machine goes on from pc, with these locals, this stack, these cells, to what X wants -/
def g_G (X : g_X) (R : Room) (cc : ByteArray) (nL : Nat) (ow : Nat) (ret : Option FieldType) (pc : Nat) (L : List (Nat × Value)) (st : List Value) (hp : List g_E) : Prop := match X with
  | (l, p, e, s, m, args, below, meth, c, D, r, kp, A, Q, nc, ns) =>
    p.tables.exec = Jvm.exec → c.code = cc → c.maxLocals = nL → s.vm.findClass (g_cn ow) = some m.cls → (∀ w ∈ g_T, w.before args s = true) → meth.sig.returnType = ret → meth.locks = false → (∀ q, s.heap.size ≤ q → A q) → nc ≤ R.cells → ns ≤ R.slots →
    ∀ (H : Heap) (locs : List Loc) (ls : Array Slot), g_R D r kp A hp s H → va_S A s.heap H locs → lv_has ls nL (g_L r L) → W p l e R s m args below meth c H locs nc ns Q (F0 m pc ls (st.map (g_re r)))
/-- an operation: the instruction, two numbers, an int, a long (what its operand stands for) -/
abbrev g_O : Type := Instr × Nat × Nat × Int32 × Int64
def g_ishl (x y : Int32) : Int32 := x <<< (y &&& 31)
def g_ishr (x y : Int32) : Int32 := x >>> (y &&& 31)
def g_irem (x y : Int32) : Int32 := x - x / y * y
def g_lshl (x : Int64) (y : Int32) : Int64 := x <<< (y.toInt64 &&& 63)
def g_lshr (x : Int64) (y : Int32) : Int64 := x >>> (y.toInt64 &&& 63)
def g_lushr (x : Int64) (y : Int32) : Int64 := (x.toUInt64 >>> (y.toInt64.toUInt64 &&& Int64.toUInt64 63)).toInt64
def g_imin (x y : Int32) : Int32 := if y < x then y else x
def g_imax (x y : Int32) : Int32 := if x < y then y else x
abbrev g_S : Type := List (Nat × Value) × List Value × List g_E
def g_put (nL i : Nat) (v : Value) (L : List (Nat × Value)) (st : List Value) (hp : List g_E) : Option (List Prop × g_S) :=
  if i < nL then some ([], (i, v) :: L.filter (fun q => !(q.1 == i) && !(q.1 + 1 == i && q.2.category == 2)), st, hp) else none
def g_put2 (nL i : Nat) (v : Value) (L : List (Nat × Value)) (st : List Value) (hp : List g_E) : Option (List Prop × g_S) :=
  if i + 1 < nL then some ([], (i, v) :: L.filter (fun q => !(q.1 == i) && (!(q.1 == i + 1) && !(q.1 + 1 == i && q.2.category == 2))), st, hp) else none
def g_ldI (i : Nat) (L : List (Nat × Value)) (st : List Value) (hp : List g_E) : Option (List Prop × g_S) := match L.lookup i with
  | some (.int x) => some ([], L, .int x :: st, hp)
  | _ => none
def g_ldL (i : Nat) (L : List (Nat × Value)) (st : List Value) (hp : List g_E) : Option (List Prop × g_S) := match L.lookup i with
  | some (.long x) => some ([], L, .long x :: st, hp)
  | _ => none
def g_ldA (i : Nat) (L : List (Nat × Value)) (st : List Value) (hp : List g_E) : Option (List Prop × g_S) := match L.lookup i with
  | some (.ref x) => some ([], L, .ref x :: st, hp)
  | _ => none
def g_i2 (f : Int32 → Int32 → Int32) (L : List (Nat × Value)) (st : List Value) (hp : List g_E) : Option (List Prop × g_S) := match st with
  | .int y :: .int x :: st => some ([], L, .int (f x y) :: st, hp)
  | _ => none
def g_i2d (f : Int32 → Int32 → Int32) (L : List (Nat × Value)) (st : List Value) (hp : List g_E) : Option (List Prop × g_S) := match st with
  | .int y :: .int x :: st => some ([¬ y = 0], L, .int (f x y) :: st, hp)
  | _ => none
def g_l2 (f : Int64 → Int64 → Int64) (L : List (Nat × Value)) (st : List Value) (hp : List g_E) : Option (List Prop × g_S) := match st with
  | .long y :: .long x :: st => some ([], L, .long (f x y) :: st, hp)
  | _ => none
def g_li (f : Int64 → Int32 → Int64) (L : List (Nat × Value)) (st : List Value) (hp : List g_E) : Option (List Prop × g_S) := match st with
  | .int y :: .long x :: st => some ([], L, .long (f x y) :: st, hp)
  | _ => none
/-- one operation -/
def g_s (R : Room) (nL : Nat) (o : g_O) (L : List (Nat × Value)) (st : List Value) (hp : List g_E) : Option (List Prop × g_S) := match o.1 with
  | .iconst _ => some ([], L, .int o.2.2.2.1 :: st, hp)
  | .bipush _ => some ([], L, .int o.2.2.2.1 :: st, hp)
  | .sipush _ => some ([], L, .int o.2.2.2.1 :: st, hp)
  | .lconst _ => some ([], L, .long o.2.2.2.2 :: st, hp)
  | .ldc2_w _ => some ([], L, .long o.2.2.2.2 :: st, hp)
  | .iload_n k => g_ldI k L st hp
  | .iload k => g_ldI k L st hp
  | .lload_n k => g_ldL k L st hp
  | .lload k => g_ldL k L st hp
  | .aload_n k => g_ldA k L st hp
  | .aload k => g_ldA k L st hp
  | .istore_n k => match st with
    | .int x :: st => g_put nL k (.int x) L st hp
    | _ => none
  | .istore k => match st with
    | .int x :: st => g_put nL k (.int x) L st hp
    | _ => none
  | .astore_n k => match st with
    | .ref x :: st => g_put nL k (.ref x) L st hp
    | _ => none
  | .astore k => match st with
    | .ref x :: st => g_put nL k (.ref x) L st hp
    | _ => none
  | .lstore_n k => match st with
    | .long x :: st => g_put2 nL k (.long x) L st hp
    | _ => none
  | .lstore k => match st with
    | .long x :: st => g_put2 nL k (.long x) L st hp
    | _ => none
  | .iinc k _ => match L.lookup k with
    | some (.int x) => g_put nL k (.int (x + o.2.2.2.1)) L st hp
    | _ => none
  | .iadd => g_i2 (fun x y => x + y) L st hp
  | .isub => g_i2 (fun x y => x - y) L st hp
  | .imul => g_i2 (fun x y => x * y) L st hp
  | .iand => g_i2 (fun x y => x &&& y) L st hp
  | .ior => g_i2 (fun x y => x ||| y) L st hp
  | .ixor => g_i2 (fun x y => x ^^^ y) L st hp
  | .ishl => g_i2 g_ishl L st hp
  | .ishr => g_i2 g_ishr L st hp
  | .idiv => g_i2d (fun x y => x / y) L st hp
  | .irem => g_i2d g_irem L st hp
  | .lsub => g_l2 (fun x y => x - y) L st hp
  | .ladd => g_l2 (fun x y => x + y) L st hp
  | .land => g_l2 (fun x y => x &&& y) L st hp
  | .lor => g_l2 (fun x y => x ||| y) L st hp
  | .lxor => g_l2 (fun x y => x ^^^ y) L st hp
  | .lshl => g_li g_lshl L st hp
  | .lshr => g_li g_lshr L st hp
  | .lushr => g_li g_lushr L st hp
  | .lcmp => match st with
    | .long y :: .long x :: st => some ([], L, .int (lg_cmp x y) :: st, hp)
    | _ => none
  | .dup => match st with
    | .int x :: st => some ([], L, .int x :: .int x :: st, hp)
    | .ref x :: st => some ([], L, .ref x :: .ref x :: st, hp)
    | _ => none
  | .dup2 => match st with
    | .int y :: .int x :: st => some ([], L, .int y :: .int x :: .int y :: .int x :: st, hp)
    | .int y :: .ref x :: st => some ([], L, .int y :: .ref x :: .int y :: .ref x :: st, hp)
    | _ => none
  | .pop => match st with
    | .int _ :: st => some ([], L, st, hp)
    | .ref _ :: st => some ([], L, st, hp)
    | _ => none
  | .goto _ => some ([], L, st, hp)
  | .getfield _ => match st with
    | .ref q :: st => match hp[q]? with
      | some (.inr (ci, fs)) => if ci = o.2.1 then (match fs[o.2.2.1]? with
        | some v => some ([], L, v :: st, hp)
        | none => none) else none
      | _ => none
    | _ => none
  | .putfield _ => match st with
    | .int x :: .ref q :: st => match hp[q]? with
      | some (.inr (ci, fs)) => if ci = o.2.1 ∧ o.2.2.2.1 = 1 ∧ o.2.2.1 < fs.length then some ([], L, st, hp.set q (.inr (ci, fs.set o.2.2.1 (.int x)))) else none
      | _ => none
    | .long x :: .ref q :: st => match hp[q]? with
      | some (.inr (ci, fs)) => if ci = o.2.1 ∧ o.2.2.2.1 = 2 ∧ o.2.2.1 < fs.length then some ([], L, st, hp.set q (.inr (ci, fs.set o.2.2.1 (.long x)))) else none
      | _ => none
    | _ => none
  | .arraylength => match st with
    | .ref q :: st => match hp[q]? with
      | some (.inl (_, n, _)) => some ([], L, .int (Int32.ofNat n) :: st, hp)
      | _ => none
    | _ => none
  | .iaload => match st with
    | .int i :: .ref q :: st => match hp[q]? with
      | some (.inl (.int, n, .inl f)) => some ([vp_in i n], L, .int (f i.toNatClampNeg) :: st, hp)
      | _ => none
    | _ => none
  | .baload => match st with
    | .int i :: .ref q :: st => match hp[q]? with
      | some (.inl (.boolean, n, .inl f)) => some ([vp_in i n], L, .int (f i.toNatClampNeg) :: st, hp)
      | _ => none
    | _ => none
  | .laload => match st with
    | .int i :: .ref q :: st => match hp[q]? with
      | some (.inl (.long, n, .inr (.inl f))) => some ([vp_in i n], L, .long (f i.toNatClampNeg) :: st, hp)
      | _ => none
    | _ => none
  | .aaload => match st with
    | .int i :: .ref q :: st => match hp[q]? with
      | some (.inl (ty, n, .inr (.inr (.inr (.inr f))))) => if ty.isReference = true then some ([vp_in i n], L, va_rf (f i.toNatClampNeg) :: st, hp) else none
      | _ => none
    | _ => none
  | .iastore => match st with
    | .int x :: .int i :: .ref q :: st => match hp[q]? with
      | some (.inl (.int, n, .inl f)) => some ([vp_in i n], L, st, hp.set q (.inl (.int, n, .inl (upd f i.toNatClampNeg x))))
      | _ => none
    | _ => none
  | .bastore => match st with
    | .int x :: .int i :: .ref q :: st => match hp[q]? with
      | some (.inl (.boolean, n, .inl f)) => some ([vp_in i n], L, st, hp.set q (.inl (.boolean, n, .inl (upd f i.toNatClampNeg (vp_nar .boolean x)))))
      | _ => none
    | _ => none
  | .lastore => match st with
    | .long x :: .int i :: .ref q :: st => match hp[q]? with
      | some (.inl (.long, n, .inr (.inl f))) => some ([vp_in i n], L, st, hp.set q (.inl (.long, n, .inr (.inl (vp_updL f i.toNatClampNeg x)))))
      | _ => none
    | _ => none
  | .aastore => match st with
    | .ref v :: .int i :: .ref q :: st => match hp[q]?, hp[v]? with
      | some (.inl (.object C, n, .inr (.inr (.inr (.inr f))))), some (.inr (ci, _)) => if ci < 8 ∧ C = g_cn ci then some ([vp_in i n], L, st, hp.set q (.inl (.object C, n, .inr (.inr (.inr (.inr (va_up f i.toNatClampNeg (some v)))))))) else none
      | _, _ => none
    | _ => none
  | .invokestatic _ => match o.2.1, st with
    | 1, .int y :: .int x :: st => some ([1 ≤ R.frames ∧ (st.map fun v => v.category).sum + 13 ≤ R.locals], L, .int (g_imin x y) :: st, hp)
    | 2, .int y :: .int x :: st => some ([1 ≤ R.frames ∧ (st.map fun v => v.category).sum + 13 ≤ R.locals], L, .int (g_imax x y) :: st, hp)
    | 3, .int n :: .int dp :: .ref q1 :: .int sp :: .ref q0 :: st => match hp[q0]?, hp[q1]? with
      | some (.inl (.int, n0, .inl f)), some (.inl (.int, n1, .inl g)) => some ([1 ≤ R.frames ∧ (st.map fun v => v.category).sum + (nativeFrameWords "java/lang/System" "arraycopy" 5 + 11) ≤ R.locals, ¬ sp < 0 ∧ ¬ dp < 0 ∧ ¬ n < 0 ∧ sp.toNatClampNeg + n.toNatClampNeg ≤ n0 ∧ dp.toNatClampNeg + n.toNatClampNeg ≤ n1], L, st, hp.set q1 (.inl (.int, n1, .inl (va_cpy f g sp.toNatClampNeg dp.toNatClampNeg n.toNatClampNeg))))
      | _, _ => none
    | _, _ => none
  | _ => none
