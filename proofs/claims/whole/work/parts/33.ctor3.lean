/-! the rows for constructors' bodies: the cells stay told by their places -/
section CT
variable {X : g_X} {R : Room} {cc : ByteArray} {nL ow : Nat} {ret : Option FieldType} {pc : Nat} {L : List (Nat × Value)} {st : List Value} {hp : List g_E}
theorem g_blkC (pc2 : Nat) (os : List g_O) (cs : List Prop) (L2 : List (Nat × Value)) (st2 : List Value) (hp2 : List g_E) (hk : g_ck ow cc pc2 pc os = true) (hr : g_run R nL os L st hp = some (cs, L2, st2, hp2)) (hc : g_all cs) (hcl : g_cld hp) (k : g_cld hp2 → g_G X R cc nL ow ret pc2 L2 st2 hp2) : g_G X R cc nL ow ret pc L st hp :=
  g_blk pc2 os cs L2 st2 hp2 hk hr hc (k (g_run_cl os hr hcl).1)
theorem g_cv (L2 : List (Nat × Value)) (st2 : List Value) (hp2 : List g_E) (h1 : L = L2) (h2 : st = st2) (h3 : hp = hp2) (hcl : g_cld hp) (k : g_cld hp2 → g_G X R cc nL ow ret pc L2 st2 hp2) : g_G X R cc nL ow ret pc L st hp := by
  subst h1 h2 h3
  exact k hcl
theorem g_putFC (ix ci kf q v : Nat) (fs : List Value) (hX : g_ctor X) (hd : decode cc pc = .ok (.putfield ix, 3)) (hci : ci < 8) (hk : kf < g_Nc ci) (hq : hp[q]? = some (.inr (ci, fs))) (hl : Cond.fieldLink (g_cn ow) ix (g_cn ci) (g_Tc ci kf).2.1 (g_Tc ci kf).2.2.1 ∈ g_T) (hsame : (g_Tc ci kf).1 = g_cn ci) (hown2 : g_cn ci = g_cn ow) (hfin : (g_Tc ci kf).2.2.2 = true) (hr1 : narrow (g_tc ci kf) (.ref 0) = .ref 0) (hty : match g_tc ci kf with
    | .object _ => True
    | .array _ => True
    | _ => False) (hlen : kf < fs.length) (hv : g_vcl hp.length (.ref v) = true) (hcl : g_cld hp) (k : g_cld (hp.set q (.inr (ci, fs.set kf (.ref v)))) → g_G X R cc nL ow ret (pc + 3) L st (hp.set q (.inr (ci, fs.set kf (.ref v))))) : g_G X R cc nL ow ret pc L (.ref v :: .ref q :: st) hp :=
  g_putF ix ci kf q v fs hX hd hci hk hq hl hsame hown2 hfin hr1 hty hlen (k (hcl.set (g_ecl_set (hcl q _ hq) hv)))
end CT
/-- an array of references by a row of places, some of them null -/
def g_ro (l : List (Option Nat)) : Nat → Option Nat := fun j => (l[j]?).join
theorem g_ro_none (n : Nat) : (fun _ => none : Nat → Option Nat) = g_ro (List.replicate n none) := by
  funext j
  simp only [g_ro, List.getElem?_replicate]
  split <;> rfl
theorem g_ro_up (l : List (Option Nat)) (c v : Nat) (h : c < l.length) : va_up (g_ro l) c (some v) = g_ro (l.set c (some v)) := by
  funext j
  by_cases hj : j = c
  · subst hj
    simp [va_up, g_ro, h]
  · simp [va_up, g_ro, hj, List.getElem?_set_ne (Ne.symm hj)]
theorem g_ro_rl (l : List Nat) : g_ro (l.map some) = g_rl l := by
  funext j
  simp only [g_ro, g_rl, List.getElem?_map]
  cases l[j]? <;> rfl
theorem g_rn_ro (f : Nat → Nat) (ty : FieldType) (n : Nat) (l : List (Option Nat)) : g_rnE f (.inl (ty, n, .inr (.inr (.inr (.inr (g_ro l)))))) = .inl (ty, n, .inr (.inr (.inr (.inr (g_ro (l.map (fun x => x.map f))))))) := by
  simp only [g_rnE, g_rA]
  refine congrArg (fun z => (Sum.inl (ty, n, .inr (.inr (.inr (.inr z)))) : g_E)) (funext fun j => ?_)
  simp only [g_ro, List.getElem?_map]
  cases l[j]? <;> rfl
