/-- new T[3][K] -/
theorem g_mna {X : g_X} {R : Room} {cc : ByteArray} {nL ow : Nat} {ret : Option FieldType} {pc : Nat} {L : List (Nat × Value)} {st : List Value} {hp : List g_E} (ix K : Nat) (ty : FieldType) (z : vp_A) (nk : Int32) (hd : decode cc pc = .ok (.multianewarray ix 2, 4)) (hl : Cond.classLink (g_cn ow) ix ("[" ++ (FieldType.array ty).toString) ∈ g_T) (hov : Cond.arrayOver (.array ty) ∈ g_N) (harr : Cond.arrayClass ty ∈ g_T) (hK : nk.toNatClampNeg = K) (hpos : ¬ nk < 0) (hb2 : K * componentBytes ty ≤ 536870912) (hb3 : K ≤ 536870912) (hdf : fits ty (defaultValue ty) = true) (hdd : (defaultValue ty).isDefault = true) (hz : ∀ c : ClassId, Jvm.Free.Multi.innerC c K (defaultValue ty) = vp_cell c z) (hra : ∀ r, g_rA r z = z)
    (hty2 : ∀ (U : State) (cA : ClassId), U.vm.findClass (FieldType.array ty).toString = some cA → va_RA U cA ty) (hcl : g_cld hp) (hn : hp.length + 4 < 1000) (hLc : L.all (fun q => g_vcl hp.length q.2) = true) (hsc : st.all (g_vcl hp.length) = true) (hcap : g_nc X + 4 ≤ R.cells ∧ g_ns X + (3 + 3 * K) ≤ R.slots)
    (k : ∀ r2 kp2, g_ag hp.length (g_r X) r2 → (∀ k, k < hp.length → g_kp X k = kp2 k) → g_cld (hp ++ [.inl (.array ty, 3, .inr (.inr (.inr (.inr (g_rl [hp.length + 1, hp.length + 2, hp.length + 3]))))), .inl (ty, z), .inl (ty, z), .inl (ty, z)]) → g_G (g_up X r2 kp2 4 (3 + 3 * K)) R cc nL ow ret (pc + 4) L (.ref hp.length :: st) (hp ++ [.inl (.array ty, 3, .inr (.inr (.inr (.inr (g_rl [hp.length + 1, hp.length + 2, hp.length + 3]))))), .inl (ty, z), .inl (ty, z), .inl (ty, z)])) : g_G X R cc nL ow ret pc L (.int nk :: .int 3 :: st) hp := by
  obtain ⟨l, p, e, s, m, args, below, meth, c, D, r, kp, A, Q, nc, ns⟩ := X
  intro hx hb hml hown hts hr hlocks hA hnc hns H locs ls hR hS hL
  subst hK
  intro T hT Xs
  have h3 : (3 : Int32).toNatClampNeg = 3 := rfl
  have hcap2 : nc + 4 ≤ R.cells ∧ ns + (3 + 3 * nk.toNatClampNeg) ≤ R.slots := hcap
  obtain ⟨vm₁, cA, comp, hW, fA, fC, hO, hI, X', step⟩ := Xs.multianewarray2F hx hown (hts _ hl) (g_ao_use (hR.2.2.1 _ hov)) (hts _ harr) (g := F0 m pc ls (.int nk :: .int 3 :: st.map (g_re r))) rfl (by rw [hb]; exact hd) rfl (by decide) hpos (by decide) hb2 hb3 hdf hdd (by rw [h3]; omega) (by rw [h3]; omega)
  rw [h3] at X' step
  generalize hF : Jvm.Free.Multi.fill (T.setVm vm₁) cA comp 3 nk.toNatClampNeg (defaultValue ty) 3 = F at X' step
  have hTh : (T.setVm vm₁).heap = H := hT
  obtain ⟨f1, f2, -, -⟩ := Jvm.Free.Multi.fill_facts (T.setVm vm₁) cA comp 3 nk.toNatClampNeg (defaultValue ty) 3
  rw [hF, hTh] at f1 f2
  have hold : ∀ x : Nat, x < H.size → F.heap[x]? = H[x]? := fun x hx9 => by
    have := Jvm.Free.Multi.fill_old (T.setVm vm₁) cA comp 3 nk.toNatClampNeg (defaultValue ty) (a := x) (by rw [hTh]; exact hx9) 3
    rw [hF, hTh] at this
    exact this
  have hrow : ∀ j : Nat, j < 3 → F.heap[H.size + 1 + j]? = some (vp_cell comp z) := fun j hj => by
    have := Jvm.Free.Multi.fill_inner (T.setVm vm₁) cA comp 3 nk.toNatClampNeg (defaultValue ty) 3 j hj
    rw [hF, hTh, hz] at this
    exact this
  have hout : Jvm.Free.Multi.outerC cA 3 H.size 3 = vp_cell cA (3, .inr (.inr (.inr (.inr (g_rl [H.size + 1, H.size + 2, H.size + 3]))))) := by
    rw [vp_cell_q]
    show ((({ cls := cA, slots := Array.replicate 3 .null, vm := .none } : Cell).setSlot 0 (.ref (H.size + 1 + 0))).setSlot 1 (.ref (H.size + 1 + 1))).setSlot 2 (.ref (H.size + 1 + 2)) = _
    rw [arrV_new, arrV_store, arrV_store, arrV_store]
    refine congrArg (arrV cA 3) (funext fun j => ?_)
    match j with
    | 0 => simp [updV, g_rl, va_rf]
    | 1 => simp [updV, g_rl, va_rf]
    | 2 => simp [updV, g_rl, va_rf]
    | j + 3 => simp [updV, g_rl, va_rf]
  rw [hout] at f2
  generalize hr2 : (fun k => if k < hp.length then r k else if k = 1000 then r 1000 else H.size + (k - hp.length)) = r2
  generalize hk2 : (fun k => if k < hp.length then kp k else if k = hp.length then cA else comp) = kp2
  have hr2a : ∀ k, k < hp.length → r2 k = r k := fun k hk => by rw [← hr2]; simp [hk]
  have hr2b : r2 1000 = r 1000 := by rw [← hr2]; simp [show ¬ 1000 < hp.length by omega]
  have hr2c : ∀ j, j < 4 → r2 (hp.length + j) = H.size + j := fun j hj => by
    rw [← hr2]
    simp [show ¬ hp.length + j < hp.length by omega, show hp.length + j ≠ 1000 by omega]
  have hk2a : ∀ k, k < hp.length → kp2 k = kp k := fun k hk => by rw [← hk2]; simp [hk]
  have hag : g_ag hp.length r r2 := ⟨fun k hk => (hr2a k hk).symm, hr2b.symm⟩
  have hrlt : ∀ {k : Nat} {e3 : g_E}, hp[k]? = some e3 → r k < H.size := fun h => (hR.2.2.2.1 _ _ (g_cW_at h)).lt
  generalize hnew : ([.inl (.array ty, 3, .inr (.inr (.inr (.inr (g_rl [hp.length + 1, hp.length + 2, hp.length + 3]))))), .inl (ty, z), .inl (ty, z), .inl (ty, z)] : List g_E) = new at k
  have hnl : new.length = 4 := by rw [← hnew]; rfl
  have hnat : ∀ j e3, new[j]? = some e3 → (j = 0 ∧ e3 = .inl (.array ty, 3, .inr (.inr (.inr (.inr (g_rl [hp.length + 1, hp.length + 2, hp.length + 3])))))) ∨ (1 ≤ j ∧ j < 4 ∧ e3 = .inl (ty, z)) := by
    intro j e3 hj
    have hj4 : j < 4 := by rw [← hnl]; exact (List.getElem?_eq_some_iff.mp hj).1
    rw [← hnew] at hj
    match j, hj4 with
    | 0, _ => cases hj; exact Or.inl ⟨rfl, rfl⟩
    | 1, _ => cases hj; exact Or.inr ⟨by omega, by omega, rfl⟩
    | 2, _ => cases hj; exact Or.inr ⟨by omega, by omega, rfl⟩
    | 3, _ => cases hj; exact Or.inr ⟨by omega, by omega, rfl⟩
  have hat : ∀ k e3, (hp ++ new)[k]? = some e3 → (k < hp.length ∧ hp[k]? = some e3) ∨ ∃ j, k = hp.length + j ∧ j < 4 ∧ new[j]? = some e3 := by
    intro k e3 hk
    by_cases hlt : k < hp.length
    · rw [List.getElem?_append_left hlt] at hk
      exact Or.inl ⟨hlt, hk⟩
    · rw [List.getElem?_append_right (by omega)] at hk
      exact Or.inr ⟨k - hp.length, by omega, by rw [← hnl]; exact (List.getElem?_eq_some_iff.mp hk).1, hk⟩
  have hcld : g_cld (hp ++ new) := by
    intro k e3 hk
    rw [List.length_append, hnl]
    rcases hat k e3 hk with ⟨-, h4⟩ | ⟨j, rfl, h4, h5⟩
    · exact (hcl k e3 h4).mono (by omega)
    · rcases hnat j e3 h5 with ⟨-, rfl⟩ | ⟨-, -, rfl⟩
      · refine g_ecl_q _ _ (fun i a hia => ?_)
        match i, hia with
        | 0, hia => cases hia; omega
        | 1, hia => cases hia; omega
        | 2, hia => cases hia; omega
        | i + 3, hia => simp [g_rl] at hia
      · exact fun r1 r3 _ => by simp only [g_rnE, hra]
  have hAr : ArrOfT s cA (.array ty) := fun N9 z9 => by
    obtain ⟨-, k9, hk9, cm9, hkk9⟩ := (hO 0 0 0).1
    exact ⟨(fun q hq => by cases hq), k9, hk9, cm9, hkk9⟩
  have hAi : ArrOfT s comp ty := fun N9 z9 => by
    obtain ⟨-, k9, hk9, cm9, hkk9⟩ := (hI 0 (defaultValue ty)).1
    exact ⟨(fun q hq => by cases hq), k9, hk9, cm9, hkk9⟩
  have hR3 : g_R D r2 kp2 A (hp ++ new) s F.heap := by
    refine ⟨hR.1, fun k a hk => ?_, hR.2.2.1, fun k x hx9 => ?_, ⟨fun i j x y hi hj hxy => ?_, fun k x hx9 => ?_⟩⟩
    · rcases hat k _ hk with ⟨hlt, h4⟩ | ⟨j, rfl, h4, h5⟩
      · rw [hk2a k hlt]; exact hR.2.1 k a h4
      · rcases hnat j _ h5 with ⟨rfl, h6⟩ | ⟨h7, -, h6⟩
        · cases h6
          rw [show kp2 (hp.length + 0) = cA by rw [← hk2]; simp]
          exact ⟨hAr, fA⟩
        · cases h6
          rw [show kp2 (hp.length + j) = comp by rw [← hk2]; simp [show ¬ hp.length + j < hp.length by omega, show j ≠ 0 by omega]]
          exact ⟨hAi, hty2 s comp fC⟩
    · obtain ⟨e3, h3', rfl⟩ := g_cW_of hx9
      rcases hat k e3 h3' with ⟨hlt, h4⟩ | ⟨j, rfl, h4, h5⟩
      · rw [g_cE_eq (kp2 := kp) (hcl k e3 h4 _ _ hag.symm) (hk2a k hlt), hr2a k hlt]
        exact (hR.2.2.2.1 k _ (g_cW_at h4)).kept (hold _ (hrlt h4))
      · rcases hnat j _ h5 with ⟨rfl, rfl⟩ | ⟨h7, h8, rfl⟩
        · show F.heap[r2 (hp.length + 0)]? = some (vp_cell (kp2 (hp.length + 0)) (g_rA r2 (3, .inr (.inr (.inr (.inr (g_rl [hp.length + 1, hp.length + 2, hp.length + 3])))))))
          rw [hr2c 0 (by omega), show kp2 (hp.length + 0) = cA by rw [← hk2]; simp]
          simp only [g_rA, g_rl_map]
          simp only [List.map_cons, List.map_nil]
          rw [hr2c 1 (by omega), hr2c 2 (by omega), hr2c 3 (by omega)]
          exact f2
        · show F.heap[r2 (hp.length + j)]? = some (vp_cell (kp2 (hp.length + j)) (g_rA r2 z))
          rw [hr2c j h8, show kp2 (hp.length + j) = comp by rw [← hk2]; simp [show ¬ hp.length + j < hp.length by omega, show j ≠ 0 by omega], hra]
          have h9 := hrow (j - 1) (by omega)
          rw [show H.size + 1 + (j - 1) = H.size + j by omega] at h9
          exact h9
    · have old : ∀ i x, (g_cW r2 kp2 (hp ++ new))[i]? = some x → (i < hp.length ∧ x.1 = r i ∧ ∃ e3, hp[i]? = some e3) ∨ ∃ j, i = hp.length + j ∧ j < 4 ∧ x.1 = H.size + j := by
        intro i x hi
        obtain ⟨e3, h3', rfl⟩ := g_cW_of hi
        rcases hat i e3 h3' with ⟨hlt, h4⟩ | ⟨j, rfl, h4, h5⟩
        · exact Or.inl ⟨hlt, hr2a i hlt, _, h4⟩
        · exact Or.inr ⟨j, rfl, h4, hr2c j h4⟩
      rcases old i x hi with ⟨a1, a2, e3, a3⟩ | ⟨j1, rfl, a3, a4⟩ <;> rcases old j y hj with ⟨b1, b2, e4, b3⟩ | ⟨j2, rfl, b3, b4⟩
      · exact hR.2.2.2.2.1 i j _ _ (g_cW_at a3) (g_cW_at b3) (by dsimp only; rw [← a2, ← b2]; exact hxy)
      · exfalso
        have h7 := hrlt a3
        rw [a2, b4] at hxy
        omega
      · exfalso
        have h7 := hrlt b3
        rw [a4, b2] at hxy
        omega
      · omega
    · obtain ⟨e3, h3', rfl⟩ := g_cW_of hx9
      rcases hat k e3 h3' with ⟨hlt, h4⟩ | ⟨j, rfl, h4, h5⟩
      · dsimp only
        rw [hr2a k hlt]
        exact hR.2.2.2.2.2 _ _ (g_cW_at h4)
      · dsimp only
        rw [hr2c j h4]
        exact hA _ (by have := hS.1; omega)
  have hS3 : va_S A s.heap F.heap locs := ⟨by rw [f1]; have := hS.1; omega, fun x h1 h2 => (hold x (Nat.lt_of_lt_of_le h1 hS.1)).trans (hS.2.1 x h1 h2), hS.2.2⟩
  have hk := k r2 kp2 hag (fun j hj => (hk2a j hj).symm) hcld hx hb hml hown hts hr hlocks hA hcap2.1 hcap2.2 F.heap locs ls hR3 hS3 (by rw [← g_lcl_all hLc hag]; exact hL)
  simp only [List.map_cons] at hk
  rw [← g_vcl_all hsc hag] at hk
  have hq0 : g_re r2 (.ref hp.length) = .ref H.size := by
    have h9 := hr2c 0 (by omega)
    simp only [Nat.add_zero] at h9
    simp only [g_re, h9]
  rw [hq0] at hk
  obtain ⟨t, a1, b1⟩ := hk F rfl (by
    have h9 : nc + 1 + 3 = nc + 4 := by omega
    have h10 : ns + 3 + 3 * nk.toNatClampNeg = ns + (3 + 3 * nk.toNatClampNeg) := by omega
    rw [h9, h10] at X'
    exact X')
  refine ⟨t, step t ?_, b1⟩
  have e9 : T.heap.size = H.size := by rw [hT]
  rw [e9]
  exact a1
