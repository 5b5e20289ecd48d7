/-! the closed check of a row of operations, and that one operation of it is one step of the machine -/
def g_len : Instr → Nat
  | .bipush _ => 2
  | .sipush _ => 3
  | .iload _ => 2
  | .lload _ => 2
  | .aload _ => 2
  | .istore _ => 2
  | .lstore _ => 2
  | .astore _ => 2
  | .iinc _ _ => 3
  | .goto _ => 3
  | .getfield _ => 3
  | .putfield _ => 3
  | .ldc2_w _ => 3
  | .invokestatic _ => 3
  | _ => 1
def g_nx (pc : Nat) (i : Instr) : Nat := match i with
  | .goto off => ((pc : Int) + off).toNat
  | j => pc + g_len j
def g_fl (ow ix ci k : Nat) : Bool := g_FL.any (fun t => t.1 == ow && (t.2.1 == ix && (t.2.2.1 == ci && t.2.2.2.1 == k)))
def g_flk (ow ix ci k kd : Nat) : Bool := g_FL.any (fun t => t.1 == ow && (t.2.1 == ix && (t.2.2.1 == ci && (t.2.2.2.1 == k && t.2.2.2.2.2.1 == kd))))
def g_lk (ow pc : Nat) (o : g_O) : Bool := match o.1 with
  | .iconst n => decide (Int32.ofInt n = o.2.2.2.1)
  | .bipush n => decide ((Int8.ofInt n).toInt32 = o.2.2.2.1)
  | .sipush n => decide ((Int16.ofInt n).toInt32 = o.2.2.2.1)
  | .lconst n => decide (Int64.ofNat (n : Nat) = o.2.2.2.2)
  | .ldc2_w ix => g_KL.any (fun t => t.1 == ow && (t.2.1 == ix && decide (t.2.2.1 = o.2.2.2.2)))
  | .iinc _ n => decide (Int32.ofInt n = o.2.2.2.1)
  | .getfield ix => g_fl ow ix o.2.1 o.2.2.1
  | .putfield ix => (decide (o.2.2.2.1 = 1) && g_flk ow ix o.2.1 o.2.2.1 1) || (decide (o.2.2.2.1 = 2) && g_flk ow ix o.2.1 o.2.2.1 2)
  | .goto off => decide (0 ≤ (pc : Int) + off)
  | .invokestatic ix => g_ML.any (fun t => t.1 == ow && (t.2.1 == ix && t.2.2.1 == o.2.1))
  | _ => true
/-- the row of operations stands at pc in the code, and ends at pc2 -/
def g_ck (ow : Nat) (cc : ByteArray) (pc2 : Nat) : Nat → List g_O → Bool
  | pc, [] => pc == pc2
  | pc, o :: os => decide (decode cc pc = .ok (o.1, g_len o.1)) && (g_lk ow pc o && g_ck ow cc pc2 (g_nx pc o.1) os)
def g_run (R : Room) (nL : Nat) : List g_O → List (Nat × Value) → List Value → List g_E → Option (List Prop × g_S)
  | [], L, st, hp => some ([], L, st, hp)
  | o :: os, L, st, hp => match g_s R nL o L st hp with
    | none => none
    | some (cs, L1, st1, hp1) => match g_run R nL os L1 st1 hp1 with
      | none => none
      | some (cs2, z) => some (cs ++ cs2, z)
def g_all : List Prop → Prop
  | [] => True
  | [c] => c
  | c :: cs => c ∧ g_all cs
theorem g_all_c {c : Prop} {cs : List Prop} : g_all (c :: cs) ↔ c ∧ g_all cs := by
  cases cs <;> simp [g_all]
theorem g_all_app {a b : List Prop} : g_all (a ++ b) ↔ g_all a ∧ g_all b := by
  induction a with
  | nil => simp [g_all]
  | cons c a ih => rw [List.cons_append, g_all_c, g_all_c, ih, and_assoc]
/-- what the table of the field links gives -/
theorem g_fl_of {t : Nat × Nat × Nat × Nat × Nat × Nat × Nat} (ht : t ∈ g_FL) : t.2.2.1 < 8 ∧ t.2.2.2.1 < g_Nc t.2.2.1 ∧ (g_Tc t.2.2.1 t.2.2.2.1).1 = g_cn t.2.2.1 ∧ (if t.2.2.2.2.1 = 0 then g_fw t ∈ g_T else g_fw t ∈ g_N) ∧ (t.2.2.2.2.2.1 = 1 → (g_Tc t.2.2.1 t.2.2.2.1).2.2.2 = false ∧ g_tc t.2.2.1 t.2.2.2.1 = .int) ∧ (t.2.2.2.2.2.1 = 2 → (g_Tc t.2.2.1 t.2.2.2.1).2.2.2 = false ∧ g_tc t.2.2.1 t.2.2.2.1 = .long) := by
  have h := List.all_eq_true.mp g_FL_ok t ht
  obtain ⟨ow, ix, ci, k, nt, kd, pl⟩ := t
  simp only [g_fok, Bool.and_eq_true, decide_eq_true_eq, Bool.or_eq_true] at h
  obtain ⟨⟨⟨⟨⟨h1, h2⟩, h3⟩, h4⟩, h5⟩, h6⟩ := h
  refine ⟨h1, h2, h3, ?_, ?_, ?_⟩
  · dsimp only
    split
    · rename_i hz
      rw [if_pos hz] at h5
      exact g_w pl h4 h5
    · rename_i hz
      rw [if_neg hz] at h5
      simpa using h5
  · intro hk
    dsimp only at hk
    subst hk
    rcases h6 with h6 | ⟨h6, h7⟩
    · cases h6
    · rcases h7 with h7 | h7
      · exact ⟨h6, h7.2⟩
      · exact absurd h7.1 (by decide)
  · intro hk
    dsimp only at hk
    subst hk
    rcases h6 with h6 | ⟨h6, h7⟩
    · cases h6
    · rcases h7 with h7 | h7
      · exact absurd h7.1 (by decide)
      · exact ⟨h6, h7.2⟩
section GR
variable {D : va_G} {r : Nat → Nat} {kp : Nat → ClassId} {A : Nat → Prop} {hp : List g_E} {U : State} {H H1 : Heap} {q : Nat}
theorem g_R.set {e0 e : g_E} (hR : g_R D r kp A hp U H) (hq : hp[q]? = some e0) (hty : ∀ a, e = .inl a → ∃ a0, e0 = .inl a0 ∧ a.1 = a0.1) (hP : va_P D g_cl ((g_cW r kp hp).set q (r q, g_cE r kp q e)) H1) (hD : va_D A ((g_cW r kp hp).set q (r q, g_cE r kp q e))) : g_R D r kp A (hp.set q e) U H1 := by
  refine ⟨hR.1, ?_, hR.2.2.1, by rw [← g_cW_set]; exact hP, by rw [← g_cW_set]; exact hD⟩
  intro k a hk
  have hl := (List.getElem?_eq_some_iff.mp hq).1
  by_cases h : q = k
  · subst h
    rw [List.getElem?_set_self hl] at hk
    obtain ⟨a0, h1, h2⟩ := hty a (Option.some.inj hk)
    rw [h1] at hq
    rw [h2]
    exact hR.2.1 q a0 hq
  · rw [List.getElem?_set_ne h] at hk
    exact hR.2.1 k a hk
theorem g_R.K1 {a : FieldType × vp_A} (hR : g_R D r kp A hp U H) (hq : hp[q]? = some (.inl a)) : va_K D g_cl [(kp q, a.1)] U := by
  refine ⟨hR.1.1, fun k x hx => ?_⟩
  have h0 : k < 1 := (List.getElem?_eq_some_iff.mp hx).1
  rw [show k = 0 by omega] at hx
  cases hx
  exact hR.2.1 q a hq
theorem g_R.K2 {q2 : Nat} {a b : FieldType × vp_A} (hR : g_R D r kp A hp U H) (hq : hp[q]? = some (.inl a)) (hq2 : hp[q2]? = some (.inl b)) : va_K D g_cl [(kp q, a.1), (kp q2, b.1)] U := by
  have h := (hR.K1 hq).app (hR.K1 hq2)
  exact h
end GR
theorem g_rf (r : Nat → Nat) (x : Option Nat) : g_re r (va_rf x) = va_rf (x.map r) := by cases x <;> rfl
set_option maxHeartbeats 4000000 in
theorem g_step {X : g_X} {R : Room} {cc : ByteArray} {nL ow : Nat} {ret : Option FieldType} {pc : Nat} {L L2 : List (Nat × Value)} {st st2 : List Value} {hp hp2 : List g_E} {o : g_O} {cs : List Prop} (hd : decode cc pc = .ok (o.1, g_len o.1)) (hlk : g_lk ow pc o = true) (h : g_s R nL o L st hp = some (cs, L2, st2, hp2)) (hc : g_all cs)
    (k : g_G X R cc nL ow ret (g_nx pc o.1) L2 st2 hp2) : g_G X R cc nL ow ret pc L st hp := by
  obtain ⟨l, p, e, s, m, args, below, meth, c, D, r, kp, A, Q, nc, ns⟩ := X
  obtain ⟨i, a, b, ci32, cl64⟩ := o
  intro hx hb hml hown hts hr hlocks hA hnc hns H locs ls hR hS hL
  have kk := k hx hb hml hown hts hr hlocks hA hnc hns
  dsimp only at hd h hlk
  cases i <;> first
    | (exfalso; revert h; simp [g_s]; done)
    | skip
  case iconst n =>
    cases h
    exact lv_iconst hx hb hd (of_decide_eq_true hlk) (kk H locs ls hR hS hL)
  case bipush n =>
    cases h
    exact lv_bipush hx hb hd (of_decide_eq_true hlk) (kk H locs ls hR hS hL)
  case sipush n =>
    cases h
    exact lv_sipush hx hb hd (of_decide_eq_true hlk) (kk H locs ls hR hS hL)
  case lconst n =>
    cases h
    exact lv_lconst hx hb hd (of_decide_eq_true hlk) (kk H locs ls hR hS hL)
  case ldc2_w ix =>
    cases h
    obtain ⟨t, ht, h1⟩ := List.any_eq_true.mp hlk
    simp only [Bool.and_eq_true, beq_iff_eq, decide_eq_true_eq] at h1
    have h2 := List.all_eq_true.mp g_KL_ok t ht
    simp only [Bool.and_eq_true, decide_eq_true_eq] at h2
    rw [h1.1, h1.2.1, h1.2.2] at h2
    exact lv_ldc2 hx hb hown (hts _ (g_w _ h2.1 h2.2)) hd (kk H locs ls hR hS hL)
  case iload_n n =>
    simp only [g_s, g_ldI] at h
    split at h
    · rename_i x hk
      cases h
      exact lv_iload_n hx hb hd rfl (hL.2.2 _ (g_lookL r hk)) (kk H locs ls hR hS hL)
    · cases h
  case iload n =>
    simp only [g_s, g_ldI] at h
    split at h
    · rename_i x hk
      cases h
      exact lv_iload hx hb hd (hL.2.2 _ (g_lookL r hk)) (kk H locs ls hR hS hL)
    · cases h
  case lload_n n =>
    simp only [g_s, g_ldL] at h
    split at h
    · rename_i x hk
      cases h
      exact lv_lload_n hx hb hd rfl (hL.2.2 _ (g_lookL r hk)) (kk H locs ls hR hS hL)
    · cases h
  case lload n =>
    simp only [g_s, g_ldL] at h
    split at h
    · rename_i x hk
      cases h
      exact lv_lload hx hb hd (hL.2.2 _ (g_lookL r hk)) (kk H locs ls hR hS hL)
    · cases h
  case aload_n n =>
    simp only [g_s, g_ldA] at h
    split at h
    · rename_i x hk
      cases h
      exact lv_aload_n hx hb hd rfl (hL.2.2 _ (g_lookL r hk)) (kk H locs ls hR hS hL)
    · cases h
  case aload n =>
    simp only [g_s, g_ldA] at h
    split at h
    · rename_i x hk
      cases h
      exact lv_aload hx hb hd (hL.2.2 _ (g_lookL r hk)) (kk H locs ls hR hS hL)
    · cases h
  case istore_n n =>
    simp only [g_s, g_put] at h
    split at h
    · split at h
      · rename_i x st0 hn
        cases h
        exact lv_istore_n hx hb hd rfl hL hn (g_L_f1 r L _ (.int x)) (fun ls' hl => kk H locs ls' hR hS hl)
      · cases h
    · cases h
  case istore n =>
    simp only [g_s, g_put] at h
    split at h
    · split at h
      · rename_i x st0 hn
        cases h
        exact lv_istore hx hb hd hL hn (g_L_f1 r L _ (.int x)) (fun ls' hl => kk H locs ls' hR hS hl)
      · cases h
    · cases h
  case astore_n n =>
    simp only [g_s, g_put] at h
    split at h
    · split at h
      · rename_i x st0 hn
        cases h
        exact lv_astore_n hx hb hd rfl hL hn (g_L_f1 r L _ (.ref x)) (fun ls' hl => kk H locs ls' hR hS hl)
      · cases h
    · cases h
  case astore n =>
    simp only [g_s, g_put] at h
    split at h
    · split at h
      · rename_i x st0 hn
        cases h
        exact lv_astore hx hb hd hL hn (g_L_f1 r L _ (.ref x)) (fun ls' hl => kk H locs ls' hR hS hl)
      · cases h
    · cases h
  case lstore_n n =>
    simp only [g_s, g_put2] at h
    split at h
    · split at h
      · rename_i x st0 hn
        cases h
        exact lv_lstore_n hx hb hd rfl hL hn (g_L_f2 r L _ (.long x)) (fun ls' hl => kk H locs ls' hR hS hl)
      · cases h
    · cases h
  case lstore n =>
    simp only [g_s, g_put2] at h
    split at h
    · split at h
      · rename_i x st0 hn
        cases h
        exact lv_lstore hx hb hd hL hn (g_L_f2 r L _ (.long x)) (fun ls' hl => kk H locs ls' hR hS hl)
      · cases h
    · cases h
  case iinc n z =>
    simp only [g_s, g_put] at h
    split at h
    · rename_i x hk
      split at h
      · rename_i hn
        cases h
        obtain ⟨j, hj⟩ := List.getElem?_of_mem (g_lookL r hk)
        have hz : Int32.ofInt z = ci32 := of_decide_eq_true hlk
        exact lv_iinc (v := x + ci32) hx hb hd hL hj (by rw [hz]) hn (g_L_f1 r L _ (.int (x + ci32))) (fun ls' hl => kk H locs ls' hR hS hl)
      · cases h
    · cases h
  case iadd =>
    simp only [g_s, g_i2] at h
    split at h
    · cases h
      exact lv_iadd hx hb hd (kk H locs ls hR hS hL)
    · cases h
  case isub =>
    simp only [g_s, g_i2] at h
    split at h
    · cases h
      exact lv_isub hx hb hd (kk H locs ls hR hS hL)
    · cases h
  case imul =>
    simp only [g_s, g_i2] at h
    split at h
    · cases h
      exact lv_imul hx hb hd (kk H locs ls hR hS hL)
    · cases h
  case iand =>
    simp only [g_s, g_i2] at h
    split at h
    · cases h
      exact lv_iand hx hb hd (kk H locs ls hR hS hL)
    · cases h
  case ior =>
    simp only [g_s, g_i2] at h
    split at h
    · cases h
      exact lv_ior hx hb hd (kk H locs ls hR hS hL)
    · cases h
  case ixor =>
    simp only [g_s, g_i2] at h
    split at h
    · cases h
      exact lv_ixor hx hb hd (kk H locs ls hR hS hL)
    · cases h
  case ishl =>
    simp only [g_s, g_i2] at h
    split at h
    · cases h
      exact lv_ishl hx hb hd (kk H locs ls hR hS hL)
    · cases h
  case ishr =>
    simp only [g_s, g_i2] at h
    split at h
    · cases h
      exact lv_ishr hx hb hd (kk H locs ls hR hS hL)
    · cases h
  case idiv =>
    simp only [g_s, g_i2d] at h
    split at h
    · cases h
      exact lv_idiv hx hb hd hc (kk H locs ls hR hS hL)
    · cases h
  case irem =>
    simp only [g_s, g_i2d] at h
    split at h
    · cases h
      exact lv_irem hx hb hd hc (kk H locs ls hR hS hL)
    · cases h
  case ladd =>
    simp only [g_s, g_l2] at h
    split at h
    · cases h
      exact lv_ladd hx hb hd (kk H locs ls hR hS hL)
    · cases h
  case lsub =>
    simp only [g_s, g_l2] at h
    split at h
    · cases h
      exact lv_lsub hx hb hd (kk H locs ls hR hS hL)
    · cases h
  case land =>
    simp only [g_s, g_l2] at h
    split at h
    · cases h
      exact lv_land hx hb hd (kk H locs ls hR hS hL)
    · cases h
  case lor =>
    simp only [g_s, g_l2] at h
    split at h
    · cases h
      exact lv_lor hx hb hd (kk H locs ls hR hS hL)
    · cases h
  case lxor =>
    simp only [g_s, g_l2] at h
    split at h
    · cases h
      exact lv_lxor hx hb hd (kk H locs ls hR hS hL)
    · cases h
  case lshl =>
    simp only [g_s, g_li] at h
    split at h
    · cases h
      exact lv_lshl hx hb hd rfl (kk H locs ls hR hS hL)
    · cases h
  case lshr =>
    simp only [g_s, g_li] at h
    split at h
    · cases h
      exact lv_lshr hx hb hd rfl (kk H locs ls hR hS hL)
    · cases h
  case lushr =>
    simp only [g_s, g_li] at h
    split at h
    · cases h
      exact lv_lushr hx hb hd rfl (kk H locs ls hR hS hL)
    · cases h
  case lcmp =>
    simp only [g_s] at h
    split at h
    · cases h
      exact W.lcmp hx hb hd (kk H locs ls hR hS hL)
    · cases h
  case dup =>
    simp only [g_s] at h
    split at h
    · cases h
      exact lv_dup hx hb hd rfl (kk H locs ls hR hS hL)
    · cases h
      exact lv_dup hx hb hd rfl (kk H locs ls hR hS hL)
    · cases h
  case dup2 =>
    simp only [g_s] at h
    split at h
    · cases h
      exact lv_dup2_11 hx hb hd rfl rfl (kk H locs ls hR hS hL)
    · cases h
      exact lv_dup2_11 hx hb hd rfl rfl (kk H locs ls hR hS hL)
    · cases h
  case pop =>
    simp only [g_s] at h
    split at h
    · cases h
      exact lv_pop hx hb hd rfl (kk H locs ls hR hS hL)
    · cases h
      exact lv_pop hx hb hd rfl (kk H locs ls hR hS hL)
    · cases h
  case goto off =>
    cases h
    have h0 : 0 ≤ (pc : Int) + off := of_decide_eq_true hlk
    exact lv_goto (tgt := ((pc : Int) + off).toNat) hx hb hd (by omega) (kk H locs ls hR hS hL)
  case getfield ix =>
    simp only [g_s] at h
    split at h
    · rename_i q st0
      split at h
      · rename_i ci fs hq
        split at h
        · rename_i hci
          subst hci
          split at h
          · rename_i v hv
            cases h
            obtain ⟨t, ht, h1⟩ := List.any_eq_true.mp (show g_fl ow ix ci b = true from hlk)
            simp only [Bool.and_eq_true, beq_iff_eq] at h1
            obtain ⟨f1, f2, f3, f4, -, -⟩ := g_fl_of ht
            obtain ⟨tow, tix, tci, tk, tn, tkd, tpl⟩ := t
            dsimp only at h1 f1 f2 f3 f4
            obtain ⟨rfl, rfl, rfl, rfl⟩ := h1
            have hv' : (fs.map (g_re r))[tk]? = some (g_re r v) := by rw [List.getElem?_map, hv]; rfl
            by_cases hn : tn = 0
            · subst hn
              exact va_get (D := D) (tys := []) (ref := g_cn tci) hx hb hts (g_in tci f1) hown hR.1 hR.2.2.2.1 q (g_cW_at hq) (g_cl_at tci f1) tk f2 (hts _ f4) (fun x h9 => by rw [f3] at h9; exact h9) hv' hd (kk H locs ls hR hS hL)
            · rw [if_neg hn] at f4
              have f5 := va_Nw.use (A := args) (by simp only [g_fw, if_neg hn]; rfl) (hR.2.2.1 _ f4)
              simp only [g_fw, if_neg hn] at f5
              exact va_getN (D := D) (tys := []) (ref := g_cn tci) hx hb hts (g_in tci f1) hown hR.1 hR.2.2.2.1 q (g_cW_at hq) (g_cl_at tci f1) tk f2 f5 (fun x h9 => by rw [f3] at h9; exact h9) hv' hd (kk H locs ls hR hS hL)
          · cases h
        · cases h
      · cases h
    · cases h
  case putfield ix =>
    simp only [g_s] at h
    split at h
    · rename_i x q st0
      split at h
      · rename_i ci fs hq
        split at h
        · rename_i hci
          obtain ⟨rfl, rfl, hbl⟩ := hci
          cases h
          have hlk2 : g_flk ow ix ci b 1 = true := by
            simp only [g_lk, Bool.or_eq_true, Bool.and_eq_true, decide_eq_true_eq] at hlk
            rcases hlk with h1 | h1
            · exact h1.2
            · exact absurd h1.1 (by decide)
          obtain ⟨t, ht, h1⟩ := List.any_eq_true.mp hlk2
          simp only [Bool.and_eq_true, beq_iff_eq] at h1
          obtain ⟨f1, f2, f3, f4, fi, fl⟩ := g_fl_of ht
          obtain ⟨tow, tix, tci, tk, tn, tkd, tpl⟩ := t
          dsimp only at h1 f1 f2 f3 f4 fi fl
          obtain ⟨rfl, rfl, rfl, rfl, hkd⟩ := h1
          obtain ⟨fin, fty⟩ := fi hkd
          have hpd := g_ty tci f1 tk f2
          rw [fty] at hpd
          have hset : ((r q, .inr (tci, (fs.map (g_re r)).set tk (.int x))) : Nat × va_E) = (r q, g_cE r kp q (.inr (tci, fs.set tk (.int x)))) := by
            simp only [g_cE, List.map_set]; rfl
          by_cases hn : tn = 0
          · subst hn
            refine va_put (D := D) (tys := []) (ref := g_cn tci) (v := .int x) hx hb hts (g_in tci f1) (g_tc tci) (g_ty tci f1) (g_nm tci f1) hown hR.1 hR.2.2.2.1 hR.2.2.2.2 hS q (g_cW_at hq) (g_cl_at tci f1) tk f2 (hts _ f4) (fun x h9 => by rw [f3] at h9; exact h9) fin hpd rfl rfl (by rw [List.length_map]; exact hbl) hd (fun H1 locs1 hP1 hD1 hS1 => ?_)
            rw [hset] at hP1 hD1
            exact kk H1 locs1 ls (hR.set hq (fun a h => by cases h) hP1 hD1) hS1 hL
          · rw [if_neg hn] at f4
            have f5 := va_Nw.use (A := args) (by simp only [g_fw, if_neg hn]; rfl) (hR.2.2.1 _ f4)
            simp only [g_fw, if_neg hn] at f5
            refine va_putN (D := D) (tys := []) (ref := g_cn tci) (v := .int x) hx hb hts (g_in tci f1) (g_tc tci) (g_ty tci f1) (g_nm tci f1) hown hR.1 hR.2.2.2.1 hR.2.2.2.2 hS q (g_cW_at hq) (g_cl_at tci f1) tk f2 f5 (fun x h9 => by rw [f3] at h9; exact h9) fin hpd rfl rfl (by rw [List.length_map]; exact hbl) hd (fun H1 locs1 hP1 hD1 hS1 => ?_)
            rw [hset] at hP1 hD1
            exact kk H1 locs1 ls (hR.set hq (fun a h => by cases h) hP1 hD1) hS1 hL
        · cases h
      · cases h
    · rename_i x q st0
      split at h
      · rename_i ci fs hq
        split at h
        · rename_i hci
          obtain ⟨rfl, rfl, hbl⟩ := hci
          cases h
          have hlk2 : g_flk ow ix ci b 2 = true := by
            simp only [g_lk, Bool.or_eq_true, Bool.and_eq_true, decide_eq_true_eq] at hlk
            rcases hlk with h1 | h1
            · exact absurd h1.1 (by decide)
            · exact h1.2
          obtain ⟨t, ht, h1⟩ := List.any_eq_true.mp hlk2
          simp only [Bool.and_eq_true, beq_iff_eq] at h1
          obtain ⟨f1, f2, f3, f4, fi, fl⟩ := g_fl_of ht
          obtain ⟨tow, tix, tci, tk, tn, tkd, tpl⟩ := t
          dsimp only at h1 f1 f2 f3 f4 fi fl
          obtain ⟨rfl, rfl, rfl, rfl, hkd⟩ := h1
          obtain ⟨fin, fty⟩ := fl hkd
          have hpd := g_ty tci f1 tk f2
          rw [fty] at hpd
          have hset : ((r q, .inr (tci, (fs.map (g_re r)).set tk (.long x))) : Nat × va_E) = (r q, g_cE r kp q (.inr (tci, fs.set tk (.long x)))) := by
            simp only [g_cE, List.map_set]; rfl
          by_cases hn : tn = 0
          · subst hn
            refine va_put (D := D) (tys := []) (ref := g_cn tci) (v := .long x) hx hb hts (g_in tci f1) (g_tc tci) (g_ty tci f1) (g_nm tci f1) hown hR.1 hR.2.2.2.1 hR.2.2.2.2 hS q (g_cW_at hq) (g_cl_at tci f1) tk f2 (hts _ f4) (fun x h9 => by rw [f3] at h9; exact h9) fin hpd rfl rfl (by rw [List.length_map]; exact hbl) hd (fun H1 locs1 hP1 hD1 hS1 => ?_)
            rw [hset] at hP1 hD1
            exact kk H1 locs1 ls (hR.set hq (fun a h => by cases h) hP1 hD1) hS1 hL
          · rw [if_neg hn] at f4
            have f5 := va_Nw.use (A := args) (by simp only [g_fw, if_neg hn]; rfl) (hR.2.2.1 _ f4)
            simp only [g_fw, if_neg hn] at f5
            refine va_putN (D := D) (tys := []) (ref := g_cn tci) (v := .long x) hx hb hts (g_in tci f1) (g_tc tci) (g_ty tci f1) (g_nm tci f1) hown hR.1 hR.2.2.2.1 hR.2.2.2.2 hS q (g_cW_at hq) (g_cl_at tci f1) tk f2 f5 (fun x h9 => by rw [f3] at h9; exact h9) fin hpd rfl rfl (by rw [List.length_map]; exact hbl) hd (fun H1 locs1 hP1 hD1 hS1 => ?_)
            rw [hset] at hP1 hD1
            exact kk H1 locs1 ls (hR.set hq (fun a h => by cases h) hP1 hD1) hS1 hL
        · cases h
      · cases h
    · cases h
  case arraylength =>
    simp only [g_s] at h
    split at h
    · split at h
      · rename_i q st0 _ ty n f hq
        cases h
        have hn : (g_rA r (n, f)).1 = n := by
          rcases f with f | f | f | f | f <;> rfl
        exact va_alen (D := D) hx hb (hR.K1 hq) hR.2.2.2.1 q 0 (g_cW_at hq) rfl (by rw [hn]) hd (kk H locs ls hR hS hL)
      · cases h
    · cases h
  case iaload =>
    simp only [g_s] at h
    split at h
    · split at h
      · rename_i i q st0 _ n f hq
        cases h
        exact va_iald (D := D) hx hb (hR.K1 hq) hR.2.2.2.1 q 0 (g_cW_at hq) rfl hc hd (kk H locs ls hR hS hL)
      · cases h
    · cases h
  case baload =>
    simp only [g_s] at h
    split at h
    · split at h
      · rename_i i q st0 _ n f hq
        cases h
        exact va_zald (D := D) hx hb (hR.K1 hq) hR.2.2.2.1 q 0 (g_cW_at hq) rfl hc hd (kk H locs ls hR hS hL)
      · cases h
    · cases h
  case laload =>
    simp only [g_s] at h
    split at h
    · split at h
      · rename_i i q st0 _ n f hq
        cases h
        exact va_lald (D := D) hx hb (hR.K1 hq) hR.2.2.2.1 q 0 (g_cW_at hq) rfl hc hd (kk H locs ls hR hS hL)
      · cases h
    · cases h
  case aaload =>
    simp only [g_s] at h
    split at h
    · split at h
      · rename_i i q st0 _ ty n f hq
        split at h
        · rename_i hty
          cases h
          have hin : vp_in i n := hc
          have hlt : i.toNatClampNeg < n := Nat.not_le.mp fun z => hin (Or.inr z)
          have hk2 := kk H locs ls hR hS hL
          simp only [List.map_cons, g_rf] at hk2
          have hcell := hR.2.2.2.1 q _ (g_cW_at hq)
          exact W.aald (v := va_rf ((f i.toNatClampNeg).map r)) (ty := ty) hx hb (show H[r q]? = some (vp_cell (kp q) (n, .inr (.inr (.inr (.inr (fun j => (f j).map r)))))) from hcell) ((hR.2.1 q _ hq).1 n (fun j => va_rf ((f j).map r))) hty (fun z => by cases z) (by show ¬ (i < 0 ∨ (arrV _ _ _).slots.size ≤ _); rw [arrV_size]; exact hin) (by show (arrV _ _ _).slots[_]? = _; rw [arrV_read _ _ hlt]) rfl rfl hd hk2
        · cases h
      · cases h
    · cases h
  case iastore =>
    simp only [g_s] at h
    split at h
    · split at h
      · rename_i x i q st0 _ n f hq
        cases h
        exact va_iast (D := D) hx hb (hR.K1 hq) hR.2.2.2.1 hR.2.2.2.2 hS q 0 (g_cW_at hq) rfl hc hd (fun H1 locs1 hP1 hD1 hS1 => kk H1 locs1 ls (hR.set hq (fun a h => by cases h; exact ⟨_, rfl, rfl⟩) hP1 hD1) hS1 hL)
      · cases h
    · cases h
  case bastore =>
    simp only [g_s] at h
    split at h
    · split at h
      · rename_i x i q st0 _ n f hq
        cases h
        exact va_zast (D := D) hx hb (hR.K1 hq) hR.2.2.2.1 hR.2.2.2.2 hS q 0 (g_cW_at hq) rfl hc hd (fun H1 locs1 hP1 hD1 hS1 => kk H1 locs1 ls (hR.set hq (fun a h => by cases h; exact ⟨_, rfl, rfl⟩) hP1 hD1) hS1 hL)
      · cases h
    · cases h
  case lastore =>
    simp only [g_s] at h
    split at h
    · split at h
      · rename_i x i q st0 _ n f hq
        cases h
        exact va_last (D := D) hx hb (hR.K1 hq) hR.2.2.2.1 hR.2.2.2.2 hS q 0 (g_cW_at hq) rfl hc hd (fun H1 locs1 hP1 hD1 hS1 => kk H1 locs1 ls (hR.set hq (fun a h => by cases h; exact ⟨_, rfl, rfl⟩) hP1 hD1) hS1 hL)
      · cases h
    · cases h
  case aastore =>
    simp only [g_s] at h
    split at h
    · split at h
      · rename_i v i q st0 _ _ C n f ci fs hq hv
        split at h
        · rename_i hci
          obtain ⟨h8, rfl⟩ := hci
          cases h
          refine va_astq (D := D) (r := (g_cn ci, g_Tc ci, g_Nc ci)) hx hb (hR.K1 hq) hR.2.2.2.1 hR.2.2.2.2 hS q 0 v ci (g_cW_at hq) rfl (g_cW_at hv) (g_cl_at ci h8) hc hd (fun H1 locs1 hP1 hD1 hS1 => ?_)
          have he : (fun j => (va_up f i.toNatClampNeg (some v) j).map r) = va_up (fun j => (f j).map r) i.toNatClampNeg (some (r v)) := by
            funext j
            by_cases hj : j = i.toNatClampNeg
            · simp [va_up, hj]
            · simp [va_up, hj]
          rw [← he] at hP1 hD1
          exact kk H1 locs1 ls (hR.set hq (fun a h => by cases h; exact ⟨_, rfl, rfl⟩) hP1 hD1) hS1 hL
        · cases h
      · cases h
    · cases h
  case invokestatic ix =>
    obtain ⟨t, ht, h1⟩ := List.any_eq_true.mp (show g_ML.any (fun t => t.1 == ow && (t.2.1 == ix && t.2.2.1 == a)) = true from hlk)
    simp only [Bool.and_eq_true, beq_iff_eq] at h1
    have h2 := List.all_eq_true.mp g_ML_ok t ht
    simp only [Bool.and_eq_true, decide_eq_true_eq] at h2
    have hw := hts _ (g_w _ h2.1 h2.2)
    obtain ⟨tow, tix, tw, tp⟩ := t
    dsimp only at h1 hw
    obtain ⟨rfl, rfl, rfl⟩ := h1
    simp only [g_s] at h
    split at h
    · cases h
      have hc2 : 1 ≤ R.frames ∧ _ := hc
      exact va_mmin hx hb (hml.trans hL.1.symm) hown hw (hts _ g_m_min.1) (hts _ g_m_mini) (hts _ g_m_min.2) hc2.1 (by rw [g_cats]; exact hc2.2) hnc hns hd (kk H locs ls hR hS hL)
    · cases h
      have hc2 : 1 ≤ R.frames ∧ _ := hc
      exact va_mmax hx hb (hml.trans hL.1.symm) hown hw (hts _ g_m_max.1) (hts _ g_m_mini) (hts _ g_m_max.2) hc2.1 (by rw [g_cats]; exact hc2.2) hnc hns hd (kk H locs ls hR hS hL)
    · split at h
      · rename_i n dp q1 sp q0 st0 _ _ n0 f n1 g hq0 hq1
        cases h
        have hc2 : (1 ≤ R.frames ∧ _) ∧ (¬ sp < 0 ∧ ¬ dp < 0 ∧ ¬ n < 0 ∧ sp.toNatClampNeg + n.toNatClampNeg ≤ n0 ∧ dp.toNatClampNeg + n.toNatClampNeg ≤ n1) := hc
        obtain ⟨⟨c1, c2⟩, c3, c4, c5, c6, c7⟩ := hc2
        exact va_copyi (D := D) hx hb (hml.trans hL.1.symm) hown hw (hts _ g_m_copy.1) (hts _ g_m_copy.2) (hts _ g_m_sini) (hR.K2 hq0 hq1) hR.2.2.2.1 hR.2.2.2.2 hS q0 q1 0 1 (g_cW_at hq0) (g_cW_at hq1) rfl rfl rfl c3 c4 c5 c6 c7 (fun _ _ => rfl) c1 (by rw [g_cats]; exact c2) hd (fun H1 locs1 hP1 hD1 hS1 => kk H1 locs1 ls (hR.set hq1 (fun a h => by cases h; exact ⟨_, rfl, rfl⟩) hP1 hD1) hS1 hL)
      · cases h
    · cases h
