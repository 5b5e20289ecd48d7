/-- the cells, told otherwise -/
theorem g_hp {X : g_X} {R : Room} {cc : ByteArray} {nL ow : Nat} {ret : Option FieldType} {pc : Nat} {L : List (Nat × Value)} {st : List Value} {hp hp2 : List g_E} (h : hp = hp2) (k : g_G X R cc nL ow ret pc L st hp2) : g_G X R cc nL ow ret pc L st hp := by
  subst h
  exact k
theorem g_inb_lt {i : Int32} {n : Nat} (h : g_inb i n = true) : i.toNatClampNeg < n := by
  simp only [g_inb, Bool.and_eq_true, decide_eq_true_eq] at h
  exact h.2
theorem g_c2 {i : Int32} (h : g_inb i 2 = true) : i.toNatClampNeg = 0 ∨ i.toNatClampNeg = 1 := by
  have := g_inb_lt h
  omega
theorem g_c3 {i : Int32} (h : g_inb i 3 = true) : i.toNatClampNeg = 0 ∨ i.toNatClampNeg = 1 ∨ i.toNatClampNeg = 2 := by
  have := g_inb_lt h
  omega
theorem g_d6 {k : Nat} (h : decide (k < 6) = true) : k = 0 ∨ k = 1 ∨ k = 2 ∨ k = 3 ∨ k = 4 ∨ k = 5 := by
  have := of_decide_eq_true h
  omega
theorem g_e2 {i : Int32} (h : g_inb i 2 = true) : i = 0 ∨ i = 1 := by
  obtain ⟨j, h1, rfl⟩ := vp_in_of (g_inb_in h) (by decide)
  rcases (show j = 0 ∨ j = 1 by omega) with rfl | rfl
  · exact Or.inl rfl
  · exact Or.inr rfl
theorem g_e3 {i : Int32} (h : g_inb i 3 = true) : i = 0 ∨ i = 1 ∨ i = 2 := by
  obtain ⟨j, h1, rfl⟩ := vp_in_of (g_inb_in h) (by decide)
  rcases (show j = 0 ∨ j = 1 ∨ j = 2 by omega) with rfl | rfl | rfl
  · exact Or.inl rfl
  · exact Or.inr (Or.inl rfl)
  · exact Or.inr (Or.inr rfl)
theorem g_c6 {i : Int32} (h : g_inb i 6 = true) : i.toNatClampNeg = 0 ∨ i.toNatClampNeg = 1 ∨ i.toNatClampNeg = 2 ∨ i.toNatClampNeg = 3 ∨ i.toNatClampNeg = 4 ∨ i.toNatClampNeg = 5 := by
  have := g_inb_lt h
  omega
theorem g_e6 {i : Int32} (h : g_inb i 6 = true) : i = 0 ∨ i = 1 ∨ i = 2 ∨ i = 3 ∨ i = 4 ∨ i = 5 := by
  obtain ⟨j, h1, rfl⟩ := vp_in_of (g_inb_in h) (by decide)
  rcases (show j = 0 ∨ j = 1 ∨ j = 2 ∨ j = 3 ∨ j = 4 ∨ j = 5 by omega) with rfl | rfl | rfl | rfl | rfl | rfl
  · exact Or.inl rfl
  · exact Or.inr (Or.inl rfl)
  · exact Or.inr (Or.inr (Or.inl rfl))
  · exact Or.inr (Or.inr (Or.inr (Or.inl rfl)))
  · exact Or.inr (Or.inr (Or.inr (Or.inr (Or.inl rfl))))
  · exact Or.inr (Or.inr (Or.inr (Or.inr (Or.inr rfl))))

abbrev HF (f_sz : Int32) (f_lt : Int32) (f_le : Nat → Int32) : List g_E := [.inr (0, [.ref 1, .int f_sz, .int f_lt]), .inl (.int, 16, .inl f_le)]
theorem HF_rn (f : Nat → Nat) (f_sz : Int32) (f_lt : Int32) (f_le : Nat → Int32) : (HF f_sz f_lt f_le).map (g_rnE f) = [.inr (0, [.ref (f 1), .int f_sz, .int f_lt]), .inl (.int, 16, .inl f_le)] := rfl
abbrev rm_F_empty : Room := { frames := 0, cells := 0, slots := 0, locals := 0 }
def F_F_empty : Option (Int32 × Int32) := (some ((0 : Int32), (0 : Int32)))
set_option maxRecDepth 100000 in
theorem ct_F_empty (f_sz : Int32) (f_lt : Int32) (f_le : Nat → Int32) : g_F y_F_empty c_F_empty 1 none rm_F_empty [.ref 0] (HF f_sz f_lt f_le) (F_F_empty) (fun o => none) (fun o => (HF o.1 o.2 f_le)) := by
  intro l P hs
  refine g_ofG 0 (by decide +kernel) rfl (Nat.le_of_ble_eq_true rfl) (fun X hX => ?_)
  unfold F_F_empty at hs
  refine g_loc (L2 := [(0, .ref 0)]) [0] rfl ?_
  refine g_blk 10 [(.aload_n 0, 0, 0, 0, 0), (.iconst 0, 0, 0, 0, 0), (.putfield 15, 0, 1, 1, 0), (.aload_n 0, 0, 0, 0, 0), (.iconst 0, 0, 0, 0, 0), (.putfield 19, 0, 2, 1, 0)] [] [(0, .ref 0)] [] (HF (0 : Int32) (0 : Int32) f_le) (by decide +kernel) rfl g_nil ?_
  have hq := g_sat_s hs
  exact g_vret hX (by decide +kernel) rfl hq
abbrev rm_L_isLater : Room := { frames := 0, cells := 0, slots := 0, locals := 0 }
def F_L_isLater (a0 : Int32) : Int32 := (if a0 = (120 : Int32) then (1 : Int32) else (if a0 = (102 : Int32) then (1 : Int32) else (if a0 = (103 : Int32) then (1 : Int32) else (if a0 = (117 : Int32) then (1 : Int32) else (0 : Int32)))))
theorem bo_L_isLater (a0 : Int32) : F_L_isLater a0 = 0 ∨ F_L_isLater a0 = 1 := by
  unfold F_L_isLater
  repeat (first | exact Or.inl rfl | exact Or.inr rfl | split)
set_option maxRecDepth 100000 in
theorem ct_L_isLater (a0 : Int32) : g_F y_L_isLater c_L_isLater 1 (some .boolean) rm_L_isLater [.int a0] [] (some (F_L_isLater a0)) (fun o => some (.int o)) (fun _ => []) := by
  intro l P hs
  refine g_ofG 6 (by decide +kernel) rfl (Nat.le_of_ble_eq_true rfl) (fun X hX => ?_)
  unfold F_L_isLater at hs
  refine g_loc (L2 := [(0, .int a0)]) [0] rfl ?_
  refine g_blk 3 [(.iload_n 0, 0, 0, 0, 0), (.bipush 120, 0, 0, 120, 0)] [] [(0, .int a0)] [.int (120 : Int32), .int a0] [] (by decide +kernel) rfl g_nil ?_
  have hJ2 : ∀ (v2 : Int32) (ev2 : v2 = (if a0 = (120 : Int32) then (1 : Int32) else (if a0 = (102 : Int32) then (1 : Int32) else (if a0 = (103 : Int32) then (1 : Int32) else (if a0 = (117 : Int32) then (1 : Int32) else (0 : Int32)))))), g_G X rm_L_isLater c_L_isLater 1 6 (some .boolean) 29 [] [.int v2] [] := by
    intro v2 ev2
    subst ev2
    have hq := g_sat_s hs
    exact g_zret hX (by decide +kernel) rfl (by repeat (first | exact Or.inl rfl | exact Or.inr rfl | split)) hq
  refine g_br 24 (.if_icmp .eq 21) (a0 = (120 : Int32)) [] (by decide +kernel) rfl (fun c4 => ?_) (fun c4 => ?_)
  · refine g_blk 29 [(.iconst 1, 0, 0, 1, 0), (.goto 4, 0, 0, 0, 0)] [] [(0, .int a0)] [.int (1 : Int32)] [] (by decide +kernel) rfl g_nil ?_
    refine g_loc (L2 := []) [] rfl ?_
    exact hJ2 _ (by rw [if_pos c4])
  · refine g_blk 9 [(.iload_n 0, 0, 0, 0, 0), (.bipush 102, 0, 0, 102, 0)] [] [(0, .int a0)] [.int (102 : Int32), .int a0] [] (by decide +kernel) rfl g_nil ?_
    refine g_br 24 (.if_icmp .eq 15) (a0 = (102 : Int32)) [] (by decide +kernel) rfl (fun c5 => ?_) (fun c5 => ?_)
    · refine g_blk 29 [(.iconst 1, 0, 0, 1, 0), (.goto 4, 0, 0, 0, 0)] [] [(0, .int a0)] [.int (1 : Int32)] [] (by decide +kernel) rfl g_nil ?_
      refine g_loc (L2 := []) [] rfl ?_
      exact hJ2 _ (by rw [if_neg c4, if_pos c5])
    · refine g_blk 15 [(.iload_n 0, 0, 0, 0, 0), (.bipush 103, 0, 0, 103, 0)] [] [(0, .int a0)] [.int (103 : Int32), .int a0] [] (by decide +kernel) rfl g_nil ?_
      refine g_br 24 (.if_icmp .eq 9) (a0 = (103 : Int32)) [] (by decide +kernel) rfl (fun c6 => ?_) (fun c6 => ?_)
      · refine g_blk 29 [(.iconst 1, 0, 0, 1, 0), (.goto 4, 0, 0, 0, 0)] [] [(0, .int a0)] [.int (1 : Int32)] [] (by decide +kernel) rfl g_nil ?_
        refine g_loc (L2 := []) [] rfl ?_
        exact hJ2 _ (by rw [if_neg c4, if_neg c5, if_pos c6])
      · refine g_blk 21 [(.iload_n 0, 0, 0, 0, 0), (.bipush 117, 0, 0, 117, 0)] [] [(0, .int a0)] [.int (117 : Int32), .int a0] [] (by decide +kernel) rfl g_nil ?_
        refine g_brn 28 (.if_icmp .ne 7) (a0 = (117 : Int32)) [] (by decide +kernel) rfl (fun c7 => ?_) (fun c7 => ?_)
        · refine g_blk 29 [(.iconst 0, 0, 0, 0, 0)] [] [(0, .int a0)] [.int (0 : Int32)] [] (by decide +kernel) rfl g_nil ?_
          refine g_loc (L2 := []) [] rfl ?_
          exact hJ2 _ (by rw [if_neg c4, if_neg c5, if_neg c6, if_neg c7])
        · refine g_blk 29 [(.iconst 1, 0, 0, 1, 0), (.goto 4, 0, 0, 0, 0)] [] [(0, .int a0)] [.int (1 : Int32)] [] (by decide +kernel) rfl g_nil ?_
          refine g_loc (L2 := []) [] rfl ?_
          exact hJ2 _ (by rw [if_neg c4, if_neg c5, if_neg c6, if_pos c7])
abbrev rm_F_add : Room := { frames := 1, cells := 0, slots := 0, locals := 20 }
def F_F_add (f_sz : Int32) (f_lt : Int32) (f_le : Nat → Int32) (a1 : Int32) : Option (Int32 × Int32 × (Nat → Int32)) := (if f_sz < 0 then (some (f_sz, f_lt, f_le)) else (if f_sz < (16 : Int32) then (g_chk (g_inb f_sz 16) (some ((f_sz + (1 : Int32)), (if (F_L_isLater a1) = 0 then f_lt else (f_lt + (1 : Int32))), (upd f_le f_sz.toNatClampNeg a1)))) else (some (f_sz, f_lt, f_le))))
set_option maxRecDepth 100000 in
theorem ct_F_add (f_sz : Int32) (f_lt : Int32) (f_le : Nat → Int32) (a1 : Int32) : g_F y_F_add c_F_add 2 none rm_F_add [.ref 0, .int a1] (HF f_sz f_lt f_le) (F_F_add f_sz f_lt f_le a1) (fun o => none) (fun o => (HF o.1 o.2.1 o.2.2)) := by
  intro l P hs
  refine g_ofG 0 (by decide +kernel) rfl (Nat.le_of_ble_eq_true rfl) (fun X hX => ?_)
  unfold F_F_add at hs
  refine g_loc (L2 := [(0, .ref 0), (1, .int a1)]) [0, 1] rfl ?_
  refine g_blk 4 [(.aload_n 0, 0, 0, 0, 0), (.getfield 15, 0, 1, 0, 0)] [] [(0, .ref 0), (1, .int a1)] [.int f_sz] (HF f_sz f_lt f_le) (by decide +kernel) rfl g_nil ?_
  refine g_br 16 (.ifCond .lt 12) (f_sz < 0) [] (by decide +kernel) rfl (fun c1 => ?_) (fun c1 => ?_)
  · have hs := g_sat_t hs c1
    have hq := g_sat_s hs
    exact g_vret hX (by decide +kernel) rfl hq
  · have hs := g_sat_f hs c1
    refine g_blk 13 [(.aload_n 0, 0, 0, 0, 0), (.getfield 15, 0, 1, 0, 0), (.bipush 16, 0, 0, 16, 0)] [] [(0, .ref 0), (1, .int a1)] [.int (16 : Int32), .int f_sz] (HF f_sz f_lt f_le) (by decide +kernel) rfl g_nil ?_
    refine g_br 17 (.if_icmp .lt 4) (f_sz < (16 : Int32)) [] (by decide +kernel) rfl (fun c2 => ?_) (fun c2 => ?_)
    · have hs := g_sat_t hs c2
      obtain ⟨h3, hs⟩ := g_sat_c hs
      refine g_blk 38 [(.aload_n 0, 0, 0, 0, 0), (.getfield 9, 0, 0, 0, 0), (.aload_n 0, 0, 0, 0, 0), (.getfield 15, 0, 1, 0, 0), (.iload_n 1, 0, 0, 0, 0), (.iastore, 0, 0, 0, 0), (.aload_n 0, 0, 0, 0, 0), (.dup, 0, 0, 0, 0), (.getfield 15, 0, 1, 0, 0), (.iconst 1, 0, 0, 1, 0), (.iadd, 0, 0, 0, 0), (.putfield 15, 0, 1, 1, 0), (.iload_n 1, 0, 0, 0, 0)] [vp_in f_sz 16] [(0, .ref 0), (1, .int a1)] [.int a1] (HF (f_sz + (1 : Int32)) f_lt (upd f_le f_sz.toNatClampNeg a1)) (by decide +kernel) rfl (g_and (g_inb_in h3) g_nil) ?_
      refine g_pN (ct_L_isLater a1) 22 1 lk_0_22 (by decide +kernel) rfl ⟨rfl, rfl, by decide, by decide⟩ [] rfl (Nat.le_of_ble_eq_true rfl) ?_
      have hJ5 : ∀ (v5 : Int32) (ev5 : v5 = (if (F_L_isLater a1) = 0 then f_lt else (f_lt + (1 : Int32)))), g_G X rm_F_add c_F_add 2 0 none 54 [] [] (HF (f_sz + (1 : Int32)) v5 (upd f_le f_sz.toNatClampNeg a1)) := by
        intro v5 ev5
        subst ev5
        have hq := g_sat_s hs
        exact g_vret hX (by decide +kernel) rfl hq
      refine g_br 54 (.ifCond .eq 13) ((F_L_isLater a1) = 0) [] (by decide +kernel) rfl (fun c7 => ?_) (fun c7 => ?_)
      · refine g_loc (L2 := []) [] rfl ?_
        exact hJ5 _ (by rw [if_pos c7])
      · refine g_blk 54 [(.aload_n 0, 0, 0, 0, 0), (.dup, 0, 0, 0, 0), (.getfield 19, 0, 2, 0, 0), (.iconst 1, 0, 0, 1, 0), (.iadd, 0, 0, 0, 0), (.putfield 19, 0, 2, 1, 0)] [] [(0, .ref 0), (1, .int a1)] [] (HF (f_sz + (1 : Int32)) (f_lt + (1 : Int32)) (upd f_le f_sz.toNatClampNeg a1)) (by decide +kernel) rfl g_nil ?_
        refine g_loc (L2 := []) [] rfl ?_
        exact hJ5 _ (by rw [if_neg c7])
    · have hs := g_sat_f hs c2
      have hq := g_sat_s hs
      exact g_vret hX (by decide +kernel) rfl hq
abbrev HFF (f_sz : Int32) (f_lt : Int32) (f_le : Nat → Int32) (x_sz : Int32) (x_lt : Int32) (x_le : Nat → Int32) : List g_E := [.inr (0, [.ref 1, .int f_sz, .int f_lt]), .inl (.int, 16, .inl f_le), .inr (0, [.ref 3, .int x_sz, .int x_lt]), .inl (.int, 16, .inl x_le)]
theorem HFF_rn (f : Nat → Nat) (f_sz : Int32) (f_lt : Int32) (f_le : Nat → Int32) (x_sz : Int32) (x_lt : Int32) (x_le : Nat → Int32) : (HFF f_sz f_lt f_le x_sz x_lt x_le).map (g_rnE f) = [.inr (0, [.ref (f 1), .int f_sz, .int f_lt]), .inl (.int, 16, .inl f_le), .inr (0, [.ref (f 3), .int x_sz, .int x_lt]), .inl (.int, 16, .inl x_le)] := rfl
abbrev rm_F_copy : Room := { frames := 1, cells := 0, slots := 0, locals := 48 }
def F_F_copy (f_le : Nat → Int32) (x_sz : Int32) (x_lt : Int32) (x_le : Nat → Int32) : Option (Int32 × Int32 × (Nat → Int32)) := (some (x_sz, x_lt, (va_cpy x_le f_le 0 0 16)))
set_option maxRecDepth 100000 in
theorem ct_F_copy (f_sz : Int32) (f_lt : Int32) (f_le : Nat → Int32) (x_sz : Int32) (x_lt : Int32) (x_le : Nat → Int32) : g_F y_F_copy c_F_copy 2 none rm_F_copy [.ref 0, .ref 2] (HFF f_sz f_lt f_le x_sz x_lt x_le) (F_F_copy f_le x_sz x_lt x_le) (fun o => none) (fun o => (HFF o.1 o.2.1 o.2.2 x_sz x_lt x_le)) := by
  intro l P hs
  refine g_ofG 0 (by decide +kernel) rfl (Nat.le_of_ble_eq_true rfl) (fun X hX => ?_)
  unfold F_F_copy at hs
  refine g_loc (L2 := [(0, .ref 0), (1, .ref 2)]) [0, 1] rfl ?_
  refine g_blk 31 [(.aload_n 1, 0, 0, 0, 0), (.getfield 9, 0, 0, 0, 0), (.iconst 0, 0, 0, 0, 0), (.aload_n 0, 0, 0, 0, 0), (.getfield 9, 0, 0, 0, 0), (.iconst 0, 0, 0, 0, 0), (.bipush 16, 0, 0, 16, 0), (.invokestatic 26, 3, 0, 0, 0), (.aload_n 0, 0, 0, 0, 0), (.aload_n 1, 0, 0, 0, 0), (.getfield 15, 0, 1, 0, 0), (.putfield 15, 0, 1, 1, 0), (.aload_n 0, 0, 0, 0, 0), (.aload_n 1, 0, 0, 0, 0), (.getfield 19, 0, 2, 0, 0), (.putfield 19, 0, 2, 1, 0)] [1 ≤ rm_F_copy.frames ∧ (([] : List Value).map fun v => v.category).sum + (nativeFrameWords "java/lang/System" "arraycopy" 5 + 11) ≤ rm_F_copy.locals, ¬ (0 : Int32) < 0 ∧ ¬ (0 : Int32) < 0 ∧ ¬ (16 : Int32) < 0 ∧ (0 : Int32).toNatClampNeg + (16 : Int32).toNatClampNeg ≤ 16 ∧ (0 : Int32).toNatClampNeg + (16 : Int32).toNatClampNeg ≤ 16] [(0, .ref 0), (1, .ref 2)] [] (HFF x_sz x_lt (va_cpy x_le f_le 0 0 16) x_sz x_lt x_le) (by decide +kernel) rfl (g_and ⟨by decide, Nat.le_of_ble_eq_true (by decide +kernel)⟩ (g_and (by decide) g_nil)) ?_
  have hq := g_sat_s hs
  exact g_vret hX (by decide +kernel) rfl hq
abbrev rm_F_letterOf : Room := { frames := 0, cells := 0, slots := 0, locals := 0 }
def F_F_letterOf (f_sz : Int32) (f_le : Nat → Int32) (a1 : Int32) : Option Int32 := ((if a1 < 0 then (some (48 : Int32)) else (if f_sz ≤ a1 then (some (48 : Int32)) else (if (16 : Int32) ≤ a1 then (some (48 : Int32)) else (g_chk (g_inb a1 16) (some (f_le a1.toNatClampNeg)))))).bind fun o3 => (some o3))
set_option maxRecDepth 100000 in
theorem ct_F_letterOf (f_sz : Int32) (f_lt : Int32) (f_le : Nat → Int32) (a1 : Int32) : g_F y_F_letterOf c_F_letterOf 2 (some .int) rm_F_letterOf [.ref 0, .int a1] (HF f_sz f_lt f_le) (F_F_letterOf f_sz f_le a1) (fun o => some (.int o)) (fun _ => (HF f_sz f_lt f_le)) := by
  intro l P hs
  refine g_ofG 0 (by decide +kernel) rfl (Nat.le_of_ble_eq_true rfl) (fun X hX => ?_)
  unfold F_F_letterOf at hs
  refine g_loc (L2 := [(0, .ref 0), (1, .int a1)]) [0, 1] rfl ?_
  refine g_blk 1 [(.iload_n 1, 0, 0, 0, 0)] [] [(0, .ref 0), (1, .int a1)] [.int a1] (HF f_sz f_lt f_le) (by decide +kernel) rfl g_nil ?_
  refine g_join (fun (o3 : Int32) => g_G X rm_F_letterOf c_F_letterOf 2 0 (some .int) 29 [] [.int o3] (HF f_sz f_lt f_le)) hs (fun o3 hs => ?_) (fun hs => ?_)
  · have hq := g_sat_s hs
    exact g_iret hX (by decide +kernel) rfl hq
  · refine g_br 27 (.ifCond .lt 26) (a1 < 0) [] (by decide +kernel) rfl (fun c1 => ?_) (fun c1 => ?_)
    · have hs := g_sat_t hs c1
      refine g_blk 29 [(.bipush 48, 0, 0, 48, 0)] [] [(0, .ref 0), (1, .int a1)] [.int (48 : Int32)] (HF f_sz f_lt f_le) (by decide +kernel) rfl g_nil ?_
      refine g_loc (L2 := []) [] rfl ?_
      have hq := g_sat_s hs
      exact hq
    · have hs := g_sat_f hs c1
      refine g_blk 9 [(.iload_n 1, 0, 0, 0, 0), (.aload_n 0, 0, 0, 0, 0), (.getfield 15, 0, 1, 0, 0)] [] [(0, .ref 0), (1, .int a1)] [.int f_sz, .int a1] (HF f_sz f_lt f_le) (by decide +kernel) rfl g_nil ?_
      refine g_br 27 (.if_icmp .ge 18) (f_sz ≤ a1) [] (by decide +kernel) rfl (fun c4 => ?_) (fun c4 => ?_)
      · have hs := g_sat_t hs c4
        refine g_blk 29 [(.bipush 48, 0, 0, 48, 0)] [] [(0, .ref 0), (1, .int a1)] [.int (48 : Int32)] (HF f_sz f_lt f_le) (by decide +kernel) rfl g_nil ?_
        refine g_loc (L2 := []) [] rfl ?_
        have hq := g_sat_s hs
        exact hq
      · have hs := g_sat_f hs c4
        refine g_blk 15 [(.iload_n 1, 0, 0, 0, 0), (.bipush 16, 0, 0, 16, 0)] [] [(0, .ref 0), (1, .int a1)] [.int (16 : Int32), .int a1] (HF f_sz f_lt f_le) (by decide +kernel) rfl g_nil ?_
        refine g_br 27 (.if_icmp .ge 12) ((16 : Int32) ≤ a1) [] (by decide +kernel) rfl (fun c5 => ?_) (fun c5 => ?_)
        · have hs := g_sat_t hs c5
          refine g_blk 29 [(.bipush 48, 0, 0, 48, 0)] [] [(0, .ref 0), (1, .int a1)] [.int (48 : Int32)] (HF f_sz f_lt f_le) (by decide +kernel) rfl g_nil ?_
          refine g_loc (L2 := []) [] rfl ?_
          have hq := g_sat_s hs
          exact hq
        · have hs := g_sat_f hs c5
          obtain ⟨h6, hs⟩ := g_sat_c hs
          refine g_blk 29 [(.aload_n 0, 0, 0, 0, 0), (.getfield 9, 0, 0, 0, 0), (.iload_n 1, 0, 0, 0, 0), (.iaload, 0, 0, 0, 0), (.goto 5, 0, 0, 0, 0)] [vp_in a1 16] [(0, .ref 0), (1, .int a1)] [.int (f_le a1.toNatClampNeg)] (HF f_sz f_lt f_le) (by decide +kernel) rfl (g_and (g_inb_in h6) g_nil) ?_
          refine g_loc (L2 := []) [] rfl ?_
          have hq := g_sat_s hs
          exact hq
abbrev rm_L_innerCount : Room := { frames := 0, cells := 0, slots := 0, locals := 0 }
def F_L_innerCount (a0 : Int32) : Int32 := (if a0 = 48 then (0 : Int32) else (if a0 = 49 then (0 : Int32) else (if a0 = 97 then (0 : Int32) else (if a0 = 98 then (0 : Int32) else (if a0 = 99 then (0 : Int32) else (if a0 = 102 then (1 : Int32) else (if a0 = 103 then (1 : Int32) else (if a0 = 107 then (2 : Int32) else (if a0 = 110 then (1 : Int32) else (if a0 = 111 then (2 : Int32) else (if a0 = 117 then (2 : Int32) else (if a0 = 120 then (1 : Int32) else (-1 : Int32)))))))))))))
set_option maxRecDepth 100000 in
theorem ct_L_innerCount (a0 : Int32) : g_F y_L_innerCount c_L_innerCount 1 (some .int) rm_L_innerCount [.int a0] [] (some (F_L_innerCount a0)) (fun o => some (.int o)) (fun _ => []) := by
  intro l P hs
  refine g_ofG 6 (by decide +kernel) rfl (Nat.le_of_ble_eq_true rfl) (fun X hX => ?_)
  unfold F_L_innerCount at hs
  refine g_loc (L2 := [(0, .int a0)]) [0] rfl ?_
  refine g_blk 1 [(.iload_n 0, 0, 0, 0, 0)] [] [(0, .int a0)] [.int a0] [] (by decide +kernel) rfl g_nil ?_
  refine g_lsw 114 [(48, 108), (49, 108), (97, 108), (98, 108), (99, 108), (102, 110), (103, 110), (107, 112), (110, 110), (111, 112), (117, 112), (120, 110)] 113 #[(48, 107), (49, 107), (97, 107), (98, 107), (99, 107), (102, 109), (103, 109), (107, 111), (110, 109), (111, 111), (117, 111), (120, 109)] 107 (by decide +kernel) (fun t ht => ?_)
  by_cases c1 : a0 = 48
  · have hs := g_sat_pt hs c1
    simp only [g_sw, if_pos c1] at ht
    subst ht
    refine g_blk 109 [(.iconst 0, 0, 0, 0, 0)] [] [(0, .int a0)] [.int (0 : Int32)] [] (by decide +kernel) rfl g_nil ?_
    have hq := g_sat_s hs
    exact g_iret hX (by decide +kernel) rfl hq
  · have hs := g_sat_pf hs c1
    rw [g_sw, if_neg c1] at ht
    by_cases c2 : a0 = 49
    · have hs := g_sat_pt hs c2
      simp only [g_sw, if_pos c2] at ht
      subst ht
      refine g_blk 109 [(.iconst 0, 0, 0, 0, 0)] [] [(0, .int a0)] [.int (0 : Int32)] [] (by decide +kernel) rfl g_nil ?_
      have hq := g_sat_s hs
      exact g_iret hX (by decide +kernel) rfl hq
    · have hs := g_sat_pf hs c2
      rw [g_sw, if_neg c2] at ht
      by_cases c3 : a0 = 97
      · have hs := g_sat_pt hs c3
        simp only [g_sw, if_pos c3] at ht
        subst ht
        refine g_blk 109 [(.iconst 0, 0, 0, 0, 0)] [] [(0, .int a0)] [.int (0 : Int32)] [] (by decide +kernel) rfl g_nil ?_
        have hq := g_sat_s hs
        exact g_iret hX (by decide +kernel) rfl hq
      · have hs := g_sat_pf hs c3
        rw [g_sw, if_neg c3] at ht
        by_cases c4 : a0 = 98
        · have hs := g_sat_pt hs c4
          simp only [g_sw, if_pos c4] at ht
          subst ht
          refine g_blk 109 [(.iconst 0, 0, 0, 0, 0)] [] [(0, .int a0)] [.int (0 : Int32)] [] (by decide +kernel) rfl g_nil ?_
          have hq := g_sat_s hs
          exact g_iret hX (by decide +kernel) rfl hq
        · have hs := g_sat_pf hs c4
          rw [g_sw, if_neg c4] at ht
          by_cases c5 : a0 = 99
          · have hs := g_sat_pt hs c5
            simp only [g_sw, if_pos c5] at ht
            subst ht
            refine g_blk 109 [(.iconst 0, 0, 0, 0, 0)] [] [(0, .int a0)] [.int (0 : Int32)] [] (by decide +kernel) rfl g_nil ?_
            have hq := g_sat_s hs
            exact g_iret hX (by decide +kernel) rfl hq
          · have hs := g_sat_pf hs c5
            rw [g_sw, if_neg c5] at ht
            by_cases c6 : a0 = 102
            · have hs := g_sat_pt hs c6
              simp only [g_sw, if_pos c6] at ht
              subst ht
              refine g_blk 111 [(.iconst 1, 0, 0, 1, 0)] [] [(0, .int a0)] [.int (1 : Int32)] [] (by decide +kernel) rfl g_nil ?_
              have hq := g_sat_s hs
              exact g_iret hX (by decide +kernel) rfl hq
            · have hs := g_sat_pf hs c6
              rw [g_sw, if_neg c6] at ht
              by_cases c7 : a0 = 103
              · have hs := g_sat_pt hs c7
                simp only [g_sw, if_pos c7] at ht
                subst ht
                refine g_blk 111 [(.iconst 1, 0, 0, 1, 0)] [] [(0, .int a0)] [.int (1 : Int32)] [] (by decide +kernel) rfl g_nil ?_
                have hq := g_sat_s hs
                exact g_iret hX (by decide +kernel) rfl hq
              · have hs := g_sat_pf hs c7
                rw [g_sw, if_neg c7] at ht
                by_cases c8 : a0 = 107
                · have hs := g_sat_pt hs c8
                  simp only [g_sw, if_pos c8] at ht
                  subst ht
                  refine g_blk 113 [(.iconst 2, 0, 0, 2, 0)] [] [(0, .int a0)] [.int (2 : Int32)] [] (by decide +kernel) rfl g_nil ?_
                  have hq := g_sat_s hs
                  exact g_iret hX (by decide +kernel) rfl hq
                · have hs := g_sat_pf hs c8
                  rw [g_sw, if_neg c8] at ht
                  by_cases c9 : a0 = 110
                  · have hs := g_sat_pt hs c9
                    simp only [g_sw, if_pos c9] at ht
                    subst ht
                    refine g_blk 111 [(.iconst 1, 0, 0, 1, 0)] [] [(0, .int a0)] [.int (1 : Int32)] [] (by decide +kernel) rfl g_nil ?_
                    have hq := g_sat_s hs
                    exact g_iret hX (by decide +kernel) rfl hq
                  · have hs := g_sat_pf hs c9
                    rw [g_sw, if_neg c9] at ht
                    by_cases c10 : a0 = 111
                    · have hs := g_sat_pt hs c10
                      simp only [g_sw, if_pos c10] at ht
                      subst ht
                      refine g_blk 113 [(.iconst 2, 0, 0, 2, 0)] [] [(0, .int a0)] [.int (2 : Int32)] [] (by decide +kernel) rfl g_nil ?_
                      have hq := g_sat_s hs
                      exact g_iret hX (by decide +kernel) rfl hq
                    · have hs := g_sat_pf hs c10
                      rw [g_sw, if_neg c10] at ht
                      by_cases c11 : a0 = 117
                      · have hs := g_sat_pt hs c11
                        simp only [g_sw, if_pos c11] at ht
                        subst ht
                        refine g_blk 113 [(.iconst 2, 0, 0, 2, 0)] [] [(0, .int a0)] [.int (2 : Int32)] [] (by decide +kernel) rfl g_nil ?_
                        have hq := g_sat_s hs
                        exact g_iret hX (by decide +kernel) rfl hq
                      · have hs := g_sat_pf hs c11
                        rw [g_sw, if_neg c11] at ht
                        by_cases c12 : a0 = 120
                        · have hs := g_sat_pt hs c12
                          simp only [g_sw, if_pos c12] at ht
                          subst ht
                          refine g_blk 111 [(.iconst 1, 0, 0, 1, 0)] [] [(0, .int a0)] [.int (1 : Int32)] [] (by decide +kernel) rfl g_nil ?_
                          have hq := g_sat_s hs
                          exact g_iret hX (by decide +kernel) rfl hq
                        · have hs := g_sat_pf hs c12
                          rw [g_sw, if_neg c12] at ht
                          have ht : 114 = t := ht
                          subst ht
                          refine g_blk 115 [(.iconst (-1), 0, 0, (-1), 0)] [] [(0, .int a0)] [.int (-1 : Int32)] [] (by decide +kernel) rfl g_nil ?_
                          have hq := g_sat_s hs
                          exact g_iret hX (by decide +kernel) rfl hq
abbrev rm_F_spanOf : Room := { frames := 1, cells := 0, slots := 0, locals := 21 }
def F_spanOf_l1 (f_sz : Int32) (f_le : Nat → Int32) : Nat → Int32 → Int32 → Option Int32
  | 0, _, _ => none
  | n + 1, b2_1, b3_2 => (if b2_1 ≤ 0 then (some b3_2) else (if f_sz ≤ b3_2 then (some b3_2) else ((F_F_letterOf f_sz f_le b3_2).bind fun o6 => (F_spanOf_l1 f_sz f_le n (b2_1 + ((F_L_innerCount o6) - (1 : Int32))) (b3_2 + (1 : Int32))))))
theorem F_spanOf_l1_s (f_sz : Int32) (f_le : Nat → Int32) (n : Nat) (b2_1 : Int32) (b3_2 : Int32) : F_spanOf_l1 f_sz f_le (n + 1) b2_1 b3_2 = (if b2_1 ≤ 0 then (some b3_2) else (if f_sz ≤ b3_2 then (some b3_2) else ((F_F_letterOf f_sz f_le b3_2).bind fun o6 => (F_spanOf_l1 f_sz f_le n (b2_1 + ((F_L_innerCount o6) - (1 : Int32))) (b3_2 + (1 : Int32)))))) := rfl
def F_F_spanOf (N : Nat) (f_sz : Int32) (f_le : Nat → Int32) (a1 : Int32) : Option Int32 := ((F_spanOf_l1 f_sz f_le N (1 : Int32) a1).bind fun o3 => (some (o3 - a1)))
set_option maxRecDepth 100000 in
theorem ct_F_spanOf (N : Nat) (f_sz : Int32) (f_lt : Int32) (f_le : Nat → Int32) (a1 : Int32) : g_F y_F_spanOf c_F_spanOf 4 (some .int) rm_F_spanOf [.ref 0, .int a1] (HF f_sz f_lt f_le) (F_F_spanOf N f_sz f_le a1) (fun o => some (.int o)) (fun _ => (HF f_sz f_lt f_le)) := by
  intro l P hs
  refine g_ofG 0 (by decide +kernel) rfl (Nat.le_of_ble_eq_true rfl) (fun X hX => ?_)
  unfold F_F_spanOf at hs
  refine g_loc (L2 := [(0, .ref 0), (1, .int a1)]) [0, 1] rfl ?_
  refine g_blk 4 [(.iconst 1, 0, 0, 1, 0), (.istore_n 2, 0, 0, 0, 0), (.iload_n 1, 0, 0, 0, 0), (.istore_n 3, 0, 0, 0, 0)] [] [(3, .int a1), (2, .int (1 : Int32)), (0, .ref 0), (1, .int a1)] [] (HF f_sz f_lt f_le) (by decide +kernel) rfl g_nil ?_
  refine g_loc (L2 := [(0, .ref 0), (1, .int a1), (2, .int (1 : Int32)), (3, .int a1)]) [2, 3, 1, 0] rfl ?_
  refine g_join (fun (o3 : Int32) => g_G X rm_F_spanOf c_F_spanOf 4 0 (some .int) 35 [(1, .int a1), (3, .int o3)] [] (HF f_sz f_lt f_le)) hs (fun o3 hs => ?_) (fun hs => ?_)
  · refine g_blk 38 [(.iload_n 3, 0, 0, 0, 0), (.iload_n 1, 0, 0, 0, 0), (.isub, 0, 0, 0, 0)] [] [(1, .int a1), (3, .int o3)] [.int (o3 - a1)] (HF f_sz f_lt f_le) (by decide +kernel) rfl g_nil ?_
    have hq := g_sat_s hs
    exact g_iret hX (by decide +kernel) rfl hq
  · have hlF_spanOf_l1 : ∀ (n : Nat) (b2_1 : Int32) (b3_2 : Int32), g_sat (F_spanOf_l1 f_sz f_le n b2_1 b3_2) (fun (o3 : Int32) => g_G X rm_F_spanOf c_F_spanOf 4 0 (some .int) 35 [(1, .int a1), (3, .int o3)] [] (HF f_sz f_lt f_le)) → g_G X rm_F_spanOf c_F_spanOf 4 0 (some .int) 4 [(0, .ref 0), (1, .int a1), (2, .int b2_1), (3, .int b3_2)] [] (HF f_sz f_lt f_le) := by
      intro n
      induction n with
      | zero =>
        intro b2_1 b3_2 hs
        obtain ⟨_, h0, _⟩ := hs
        cases h0
      | succ n ih =>
        intro b2_1 b3_2 hs
        rw [F_spanOf_l1_s] at hs
        refine g_blk 5 [(.iload_n 2, 0, 0, 0, 0)] [] [(0, .ref 0), (1, .int a1), (2, .int b2_1), (3, .int b3_2)] [.int b2_1] (HF f_sz f_lt f_le) (by decide +kernel) rfl g_nil ?_
        refine g_br 35 (.ifCond .le 30) (b2_1 ≤ 0) [] (by decide +kernel) rfl (fun c4 => ?_) (fun c4 => ?_)
        · have hs := g_sat_t hs c4
          refine g_loc (L2 := [(1, .int a1), (3, .int b3_2)]) [1, 3] rfl ?_
          have hq := g_sat_s hs
          exact hq
        · have hs := g_sat_f hs c4
          refine g_blk 13 [(.iload_n 3, 0, 0, 0, 0), (.aload_n 0, 0, 0, 0, 0), (.getfield 15, 0, 1, 0, 0)] [] [(0, .ref 0), (1, .int a1), (2, .int b2_1), (3, .int b3_2)] [.int f_sz, .int b3_2] (HF f_sz f_lt f_le) (by decide +kernel) rfl g_nil ?_
          refine g_br 35 (.if_icmp .ge 22) (f_sz ≤ b3_2) [] (by decide +kernel) rfl (fun c5 => ?_) (fun c5 => ?_)
          · have hs := g_sat_t hs c5
            refine g_loc (L2 := [(1, .int a1), (3, .int b3_2)]) [1, 3] rfl ?_
            have hq := g_sat_s hs
            exact hq
          · have hs := g_sat_f hs c5
            refine g_blk 19 [(.iload_n 2, 0, 0, 0, 0), (.aload_n 0, 0, 0, 0, 0), (.iload_n 3, 0, 0, 0, 0)] [] [(0, .ref 0), (1, .int a1), (2, .int b2_1), (3, .int b3_2)] [.int b3_2, .ref 0, .int b2_1] (HF f_sz f_lt f_le) (by decide +kernel) rfl g_nil ?_
            refine g_fM (ct_F_letterOf f_sz f_lt f_le b3_2) 32 true 1 lk_0_32 (by decide +kernel) rfl ⟨rfl, rfl, by decide, by decide⟩ [.int b2_1] rfl (Nat.le_of_ble_eq_true rfl) (fun _ => ⟨0, 0, _, rfl, rfl, by decide, rfl⟩) hs (fun o6 hs => ?_)
            refine g_pN (ct_L_innerCount o6) 36 1 lk_0_36 (by decide +kernel) rfl ⟨rfl, rfl, by decide, by decide⟩ [.int b2_1] rfl (Nat.le_of_ble_eq_true rfl) ?_
            refine g_blk 4 [(.iconst 1, 0, 0, 1, 0), (.isub, 0, 0, 0, 0), (.iadd, 0, 0, 0, 0), (.istore_n 2, 0, 0, 0, 0), (.iinc 3 1, 0, 0, 1, 0), (.goto (-28), 0, 0, 0, 0)] [] [(3, .int (b3_2 + (1 : Int32))), (2, .int (b2_1 + ((F_L_innerCount o6) - (1 : Int32)))), (0, .ref 0), (1, .int a1)] [] (HF f_sz f_lt f_le) (by decide +kernel) rfl g_nil ?_
            refine g_loc (L2 := [(0, .ref 0), (1, .int a1), (2, .int (b2_1 + ((F_L_innerCount o6) - (1 : Int32)))), (3, .int (b3_2 + (1 : Int32)))]) [2, 3, 1, 0] rfl ?_
            exact ih _ _ hs
    exact hlF_spanOf_l1 N _ _ hs
abbrev rm_F_outerOf : Room := { frames := 2, cells := 0, slots := 0, locals := 44 }
def F_outerOf_l1 (N : Nat) (f_sz : Int32) (f_le : Nat → Int32) (a1 : Int32) : Nat → Int32 → Option (Int32 ⊕ Unit)
  | 0, _ => none
  | n + 1, b2_1 => (if b2_1 < 0 then (some (.inr ())) else ((F_F_spanOf N f_sz f_le b2_1).bind fun o4 => (if (b2_1 + o4) ≤ a1 then (F_outerOf_l1 N f_sz f_le a1 n (b2_1 + (-1 : Int32))) else (some (.inl b2_1)))))
theorem F_outerOf_l1_s (N : Nat) (f_sz : Int32) (f_le : Nat → Int32) (a1 : Int32) (n : Nat) (b2_1 : Int32) : F_outerOf_l1 N f_sz f_le a1 (n + 1) b2_1 = (if b2_1 < 0 then (some (.inr ())) else ((F_F_spanOf N f_sz f_le b2_1).bind fun o4 => (if (b2_1 + o4) ≤ a1 then (F_outerOf_l1 N f_sz f_le a1 n (b2_1 + (-1 : Int32))) else (some (.inl b2_1))))) := rfl
def F_F_outerOf (N : Nat) (f_sz : Int32) (f_le : Nat → Int32) (a1 : Int32) : Option Int32 := (g_el (fun a => a) (F_outerOf_l1 N f_sz f_le a1 N (a1 - (1 : Int32))) (fun o2 => (some (-9 : Int32))))
set_option maxRecDepth 100000 in
theorem ct_F_outerOf (N : Nat) (f_sz : Int32) (f_lt : Int32) (f_le : Nat → Int32) (a1 : Int32) : g_F y_F_outerOf c_F_outerOf 3 (some .int) rm_F_outerOf [.ref 0, .int a1] (HF f_sz f_lt f_le) (F_F_outerOf N f_sz f_le a1) (fun o => some (.int o)) (fun _ => (HF f_sz f_lt f_le)) := by
  intro l P hs
  refine g_ofG 0 (by decide +kernel) rfl (Nat.le_of_ble_eq_true rfl) (fun X hX => ?_)
  unfold F_F_outerOf at hs
  refine g_loc (L2 := [(0, .ref 0), (1, .int a1)]) [0, 1] rfl ?_
  refine g_blk 4 [(.iload_n 1, 0, 0, 0, 0), (.iconst 1, 0, 0, 1, 0), (.isub, 0, 0, 0, 0), (.istore_n 2, 0, 0, 0, 0)] [] [(2, .int (a1 - (1 : Int32))), (0, .ref 0), (1, .int a1)] [] (HF f_sz f_lt f_le) (by decide +kernel) rfl g_nil ?_
  refine g_loc (L2 := [(0, .ref 0), (1, .int a1), (2, .int (a1 - (1 : Int32)))]) [1, 2, 0] rfl ?_
  refine g_joinE (fun (o2 : Unit) => g_G X rm_F_outerOf c_F_outerOf 3 0 (some .int) 27 [] [] (HF f_sz f_lt f_le)) hs (fun o2 hs => ?_) (fun GPF_outerOf_l1 hretF_outerOf_l1 hexF_outerOf_l1 hs => ?_)
  · refine g_blk 29 [(.bipush (-9), 0, 0, (-9), 0)] [] [] [.int (-9 : Int32)] (HF f_sz f_lt f_le) (by decide +kernel) rfl g_nil ?_
    have hq := g_sat_s hs
    exact g_iret hX (by decide +kernel) rfl hq
  · have hlF_outerOf_l1 : ∀ (n : Nat) (b2_1 : Int32), g_sat (F_outerOf_l1 N f_sz f_le a1 n b2_1) GPF_outerOf_l1 → g_G X rm_F_outerOf c_F_outerOf 3 0 (some .int) 4 [(0, .ref 0), (1, .int a1), (2, .int b2_1)] [] (HF f_sz f_lt f_le) := by
      intro n
      induction n with
      | zero =>
        intro b2_1 hs
        obtain ⟨_, h0, _⟩ := hs
        cases h0
      | succ n ih =>
        intro b2_1 hs
        rw [F_outerOf_l1_s] at hs
        refine g_blk 5 [(.iload_n 2, 0, 0, 0, 0)] [] [(0, .ref 0), (1, .int a1), (2, .int b2_1)] [.int b2_1] (HF f_sz f_lt f_le) (by decide +kernel) rfl g_nil ?_
        refine g_br 27 (.ifCond .lt 22) (b2_1 < 0) [] (by decide +kernel) rfl (fun c3 => ?_) (fun c3 => ?_)
        · have hs := g_sat_t hs c3
          refine g_loc (L2 := []) [] rfl ?_
          have hq := hexF_outerOf_l1 _ (g_sat_s hs)
          exact hq
        · have hs := g_sat_f hs c3
          refine g_blk 11 [(.iload_n 2, 0, 0, 0, 0), (.aload_n 0, 0, 0, 0, 0), (.iload_n 2, 0, 0, 0, 0)] [] [(0, .ref 0), (1, .int a1), (2, .int b2_1)] [.int b2_1, .ref 0, .int b2_1] (HF f_sz f_lt f_le) (by decide +kernel) rfl g_nil ?_
          refine g_fM (ct_F_spanOf N f_sz f_lt f_le b2_1) 39 true 1 lk_0_39 (by decide +kernel) rfl ⟨rfl, rfl, by decide, by decide⟩ [.int b2_1] rfl (Nat.le_of_ble_eq_true rfl) (fun _ => ⟨0, 0, _, rfl, rfl, by decide, rfl⟩) hs (fun o4 hs => ?_)
          refine g_blk 16 [(.iadd, 0, 0, 0, 0), (.iload_n 1, 0, 0, 0, 0)] [] [(0, .ref 0), (1, .int a1), (2, .int b2_1)] [.int a1, .int (b2_1 + o4)] (HF f_sz f_lt f_le) (by decide +kernel) rfl g_nil ?_
          refine g_br 21 (.if_icmp .le 5) ((b2_1 + o4) ≤ a1) [] (by decide +kernel) rfl (fun c5 => ?_) (fun c5 => ?_)
          · have hs := g_sat_t hs c5
            refine g_blk 4 [(.iinc 2 (-1), 0, 0, (-1), 0), (.goto (-20), 0, 0, 0, 0)] [] [(2, .int (b2_1 + (-1 : Int32))), (0, .ref 0), (1, .int a1)] [] (HF f_sz f_lt f_le) (by decide +kernel) rfl g_nil ?_
            refine g_loc (L2 := [(0, .ref 0), (1, .int a1), (2, .int (b2_1 + (-1 : Int32)))]) [1, 2, 0] rfl ?_
            exact ih _ hs
          · have hs := g_sat_f hs c5
            refine g_blk 20 [(.iload_n 2, 0, 0, 0, 0)] [] [(0, .ref 0), (1, .int a1), (2, .int b2_1)] [.int b2_1] (HF f_sz f_lt f_le) (by decide +kernel) rfl g_nil ?_
            have hq := hretF_outerOf_l1 _ (g_sat_s hs)
            exact g_iret hX (by decide +kernel) rfl hq
    exact hlF_outerOf_l1 N _ hs
abbrev HW (w_states : Int32) (w_moveCount : Int32) (w_stateLabel : Nat → Int32) (w_moveActor : Nat → Int32) (w_moveFrom : Nat → Int32) (w_moveTo : Nat → Int32) (w_csz : Int32) (w_clt : Int32) (w_cle : Nat → Int32) (w_ssz : Nat → Int32) (w_slt : Nat → Int32) (w_sle : Nat → Nat → Int32) : List g_E := [.inr (5, [.int w_states, .int w_moveCount, .ref 1, .ref 2, .ref 3, .ref 4, .ref 5, .ref 7]), .inl (.int, 5, .inl w_stateLabel), .inl (.int, 10, .inl w_moveActor), .inl (.int, 10, .inl w_moveFrom), .inl (.int, 10, .inl w_moveTo), .inr (0, [.ref 6, .int w_csz, .int w_clt]), .inl (.int, 16, .inl w_cle), .inl (.object "LassoPaths$Formula", 3, .inr (.inr (.inr (.inr (g_rl [8, 10, 12]))))), .inr (0, [.ref 9, .int (w_ssz 0), .int (w_slt 0)]), .inl (.int, 16, .inl (w_sle 0)), .inr (0, [.ref 11, .int (w_ssz 1), .int (w_slt 1)]), .inl (.int, 16, .inl (w_sle 1)), .inr (0, [.ref 13, .int (w_ssz 2), .int (w_slt 2)]), .inl (.int, 16, .inl (w_sle 2))]
theorem HW_rn (f : Nat → Nat) (w_states : Int32) (w_moveCount : Int32) (w_stateLabel : Nat → Int32) (w_moveActor : Nat → Int32) (w_moveFrom : Nat → Int32) (w_moveTo : Nat → Int32) (w_csz : Int32) (w_clt : Int32) (w_cle : Nat → Int32) (w_ssz : Nat → Int32) (w_slt : Nat → Int32) (w_sle : Nat → Nat → Int32) : (HW w_states w_moveCount w_stateLabel w_moveActor w_moveFrom w_moveTo w_csz w_clt w_cle w_ssz w_slt w_sle).map (g_rnE f) = [.inr (5, [.int w_states, .int w_moveCount, .ref (f 1), .ref (f 2), .ref (f 3), .ref (f 4), .ref (f 5), .ref (f 7)]), .inl (.int, 5, .inl w_stateLabel), .inl (.int, 10, .inl w_moveActor), .inl (.int, 10, .inl w_moveFrom), .inl (.int, 10, .inl w_moveTo), .inr (0, [.ref (f 6), .int w_csz, .int w_clt]), .inl (.int, 16, .inl w_cle), .inl (.object "LassoPaths$Formula", 3, .inr (.inr (.inr (.inr (g_rl [f 8, f 10, f 12]))))), .inr (0, [.ref (f 9), .int (w_ssz 0), .int (w_slt 0)]), .inl (.int, 16, .inl (w_sle 0)), .inr (0, [.ref (f 11), .int (w_ssz 1), .int (w_slt 1)]), .inl (.int, 16, .inl (w_sle 1)), .inr (0, [.ref (f 13), .int (w_ssz 2), .int (w_slt 2)]), .inl (.int, 16, .inl (w_sle 2))] := by
  simp only [HW, List.map_cons, List.map_nil, g_rn_rl]
  rfl
abbrev rm_W_emptySystem : Room := { frames := 0, cells := 0, slots := 0, locals := 0 }
def F_W_emptySystem : Option (Int32 × Int32) := (some ((0 : Int32), (0 : Int32)))
set_option maxRecDepth 100000 in
theorem ct_W_emptySystem (w_states : Int32) (w_moveCount : Int32) (w_stateLabel : Nat → Int32) (w_moveActor : Nat → Int32) (w_moveFrom : Nat → Int32) (w_moveTo : Nat → Int32) (w_csz : Int32) (w_clt : Int32) (w_cle : Nat → Int32) (w_ssz : Nat → Int32) (w_slt : Nat → Int32) (w_sle : Nat → Nat → Int32) : g_F y_W_emptySystem c_W_emptySystem 1 none rm_W_emptySystem [.ref 0] (HW w_states w_moveCount w_stateLabel w_moveActor w_moveFrom w_moveTo w_csz w_clt w_cle w_ssz w_slt w_sle) (F_W_emptySystem) (fun o => none) (fun o => (HW o.1 o.2 w_stateLabel w_moveActor w_moveFrom w_moveTo w_csz w_clt w_cle w_ssz w_slt w_sle)) := by
  intro l P hs
  refine g_ofG 5 (by decide +kernel) rfl (Nat.le_of_ble_eq_true rfl) (fun X hX => ?_)
  unfold F_W_emptySystem at hs
  refine g_loc (L2 := [(0, .ref 0)]) [0] rfl ?_
  refine g_blk 10 [(.aload_n 0, 0, 0, 0, 0), (.iconst 0, 0, 0, 0, 0), (.putfield 43, 5, 0, 1, 0), (.aload_n 0, 0, 0, 0, 0), (.iconst 0, 0, 0, 0, 0), (.putfield 47, 5, 1, 1, 0)] [] [(0, .ref 0)] [] (HW (0 : Int32) (0 : Int32) w_stateLabel w_moveActor w_moveFrom w_moveTo w_csz w_clt w_cle w_ssz w_slt w_sle) (by decide +kernel) rfl g_nil ?_
  have hq := g_sat_s hs
  exact g_vret hX (by decide +kernel) rfl hq
abbrev rm_R_isFigure : Room := { frames := 0, cells := 0, slots := 0, locals := 0 }
def F_R_isFigure (a0 : Int32) : Int32 := (if a0 < (48 : Int32) then (0 : Int32) else (if (57 : Int32) < a0 then (0 : Int32) else (1 : Int32)))
theorem bo_R_isFigure (a0 : Int32) : F_R_isFigure a0 = 0 ∨ F_R_isFigure a0 = 1 := by
  unfold F_R_isFigure
  repeat (first | exact Or.inl rfl | exact Or.inr rfl | split)
set_option maxRecDepth 100000 in
theorem ct_R_isFigure (a0 : Int32) : g_F y_R_isFigure c_R_isFigure 1 (some .boolean) rm_R_isFigure [.int a0] [] (some (F_R_isFigure a0)) (fun o => some (.int o)) (fun _ => []) := by
  intro l P hs
  refine g_ofG 3 (by decide +kernel) rfl (Nat.le_of_ble_eq_true rfl) (fun X hX => ?_)
  unfold F_R_isFigure at hs
  refine g_loc (L2 := [(0, .int a0)]) [0] rfl ?_
  refine g_blk 3 [(.iload_n 0, 0, 0, 0, 0), (.bipush 48, 0, 0, 48, 0)] [] [(0, .int a0)] [.int (48 : Int32), .int a0] [] (by decide +kernel) rfl g_nil ?_
  have hJ2 : ∀ (v2 : Int32) (ev2 : v2 = (if a0 < (48 : Int32) then (0 : Int32) else (if (57 : Int32) < a0 then (0 : Int32) else (1 : Int32)))), g_G X rm_R_isFigure c_R_isFigure 1 3 (some .boolean) 17 [] [.int v2] [] := by
    intro v2 ev2
    subst ev2
    have hq := g_sat_s hs
    exact g_zret hX (by decide +kernel) rfl (by repeat (first | exact Or.inl rfl | exact Or.inr rfl | split)) hq
  refine g_br 16 (.if_icmp .lt 13) (a0 < (48 : Int32)) [] (by decide +kernel) rfl (fun c4 => ?_) (fun c4 => ?_)
  · refine g_blk 17 [(.iconst 0, 0, 0, 0, 0)] [] [(0, .int a0)] [.int (0 : Int32)] [] (by decide +kernel) rfl g_nil ?_
    refine g_loc (L2 := []) [] rfl ?_
    exact hJ2 _ (by rw [if_pos c4])
  · refine g_blk 9 [(.iload_n 0, 0, 0, 0, 0), (.bipush 57, 0, 0, 57, 0)] [] [(0, .int a0)] [.int (57 : Int32), .int a0] [] (by decide +kernel) rfl g_nil ?_
    refine g_br 16 (.if_icmp .gt 7) ((57 : Int32) < a0) [] (by decide +kernel) rfl (fun c5 => ?_) (fun c5 => ?_)
    · refine g_blk 17 [(.iconst 0, 0, 0, 0, 0)] [] [(0, .int a0)] [.int (0 : Int32)] [] (by decide +kernel) rfl g_nil ?_
      refine g_loc (L2 := []) [] rfl ?_
      exact hJ2 _ (by rw [if_neg c4, if_pos c5])
    · refine g_blk 17 [(.iconst 1, 0, 0, 1, 0), (.goto 4, 0, 0, 0, 0)] [] [(0, .int a0)] [.int (1 : Int32)] [] (by decide +kernel) rfl g_nil ?_
      refine g_loc (L2 := []) [] rfl ?_
      exact hJ2 _ (by rw [if_neg c4, if_neg c5])
abbrev HR (r_text : Nat → Int32) (r_length : Int32) (r_place : Int32) (r_start : Int32) (r_kind : Int32) (r_value : Int32) : List g_E := [.inr (3, [.ref 1, .int r_length, .int r_place, .int r_start, .int r_kind, .int r_value]), .inl (.int, 120, .inl r_text)]
theorem HR_rn (f : Nat → Nat) (r_text : Nat → Int32) (r_length : Int32) (r_place : Int32) (r_start : Int32) (r_kind : Int32) (r_value : Int32) : (HR r_text r_length r_place r_start r_kind r_value).map (g_rnE f) = [.inr (3, [.ref (f 1), .int r_length, .int r_place, .int r_start, .int r_kind, .int r_value]), .inl (.int, 120, .inl r_text)] := rfl
abbrev rm_R_advanceOverNumber : Room := { frames := 1, cells := 0, slots := 0, locals := 20 }
def R_advanceOverNumber_l1 (r_length : Int32) (r_text : Nat → Int32) : Nat → Int32 → Int32 → Option (Int32 × Int32)
  | 0, _, _ => none
  | n + 1, w_place_1, w_value_2 => (if r_length ≤ w_place_1 then (some (w_place_1, w_value_2)) else (g_chk (g_inb w_place_1 120) (if (F_R_isFigure (r_text w_place_1.toNatClampNeg)) = 0 then (some (w_place_1, w_value_2)) else ((if (99 : Int32) < w_value_2 then (some w_value_2) else (g_chk (g_inb w_place_1 120) (some (((w_value_2 * (10 : Int32)) + (r_text w_place_1.toNatClampNeg)) - (48 : Int32))))).bind fun o9 => (R_advanceOverNumber_l1 r_length r_text n (w_place_1 + (1 : Int32)) o9)))))
theorem R_advanceOverNumber_l1_s (r_length : Int32) (r_text : Nat → Int32) (n : Nat) (w_place_1 : Int32) (w_value_2 : Int32) : R_advanceOverNumber_l1 r_length r_text (n + 1) w_place_1 w_value_2 = (if r_length ≤ w_place_1 then (some (w_place_1, w_value_2)) else (g_chk (g_inb w_place_1 120) (if (F_R_isFigure (r_text w_place_1.toNatClampNeg)) = 0 then (some (w_place_1, w_value_2)) else ((if (99 : Int32) < w_value_2 then (some w_value_2) else (g_chk (g_inb w_place_1 120) (some (((w_value_2 * (10 : Int32)) + (r_text w_place_1.toNatClampNeg)) - (48 : Int32))))).bind fun o9 => (R_advanceOverNumber_l1 r_length r_text n (w_place_1 + (1 : Int32)) o9))))) := rfl
def F_R_advanceOverNumber (N : Nat) (r_text : Nat → Int32) (r_length : Int32) (r_place : Int32) (r_start : Int32) : Option (Int32 × Int32 × Int32) := ((R_advanceOverNumber_l1 r_length r_text N r_place (0 : Int32)).bind fun o3 => (g_chk (g_inb r_start 120) (some (o3.1, (if (if (r_text r_start.toNatClampNeg) = (48 : Int32) then (if (o3.1 - r_start) ≤ (1 : Int32) then (0 : Int32) else (1 : Int32)) else (0 : Int32)) = 0 then (if o3.2 ≤ (99 : Int32) then (-2 : Int32) else (-3 : Int32)) else (-3 : Int32)), o3.2))))
set_option maxRecDepth 100000 in
theorem ct_R_advanceOverNumber (N : Nat) (r_text : Nat → Int32) (r_length : Int32) (r_place : Int32) (r_start : Int32) (r_kind : Int32) (r_value : Int32) : g_F y_R_advanceOverNumber c_R_advanceOverNumber 2 none rm_R_advanceOverNumber [.ref 0] (HR r_text r_length r_place r_start r_kind r_value) (F_R_advanceOverNumber N r_text r_length r_place r_start) (fun o => none) (fun o => (HR r_text r_length o.1 r_start o.2.1 o.2.2)) := by
  intro l P hs
  refine g_ofG 3 (by decide +kernel) rfl (Nat.le_of_ble_eq_true rfl) (fun X hX => ?_)
  unfold F_R_advanceOverNumber at hs
  refine g_loc (L2 := [(0, .ref 0)]) [0] rfl ?_
  refine g_blk 5 [(.aload_n 0, 0, 0, 0, 0), (.iconst 0, 0, 0, 0, 0), (.putfield 71, 3, 5, 1, 0)] [] [(0, .ref 0)] [] (HR r_text r_length r_place r_start r_kind (0 : Int32)) (by decide +kernel) rfl g_nil ?_
  refine g_join (fun (o3 : Int32 × Int32) => g_G X rm_R_advanceOverNumber c_R_advanceOverNumber 2 3 none 77 [(0, .ref 0)] [] (HR r_text r_length o3.1 r_start r_kind o3.2)) hs (fun o3 hs => ?_) (fun hs => ?_)
  · obtain ⟨h11, hs⟩ := g_sat_c hs
    refine g_blk 88 [(.aload_n 0, 0, 0, 0, 0), (.getfield 9, 3, 0, 0, 0), (.aload_n 0, 0, 0, 0, 0), (.getfield 64, 3, 3, 0, 0), (.iaload, 0, 0, 0, 0), (.bipush 48, 0, 0, 48, 0)] [vp_in r_start 120] [(0, .ref 0)] [.int (48 : Int32), .int (r_text r_start.toNatClampNeg)] (HR r_text r_length o3.1 r_start r_kind o3.2) (by decide +kernel) rfl (g_and (g_inb_in h11) g_nil) ?_
    have hJ18 : ∀ (v13 : Int32) (ev13 : v13 = (if (r_text r_start.toNatClampNeg) = (48 : Int32) then (if (o3.1 - r_start) ≤ (1 : Int32) then (0 : Int32) else (1 : Int32)) else (0 : Int32))), g_G X rm_R_advanceOverNumber c_R_advanceOverNumber 2 3 none 109 [(0, .ref 0)] [.int v13] (HR r_text r_length o3.1 r_start r_kind o3.2) := by
      intro v13 ev13
      subst ev13
      refine g_blk 112 [(.istore_n 1, 0, 0, 0, 0), (.aload_n 0, 0, 0, 0, 0), (.iload_n 1, 0, 0, 0, 0)] [] [(1, .int (if (r_text r_start.toNatClampNeg) = (48 : Int32) then (if (o3.1 - r_start) ≤ (1 : Int32) then (0 : Int32) else (1 : Int32)) else (0 : Int32))), (0, .ref 0)] [.int (if (r_text r_start.toNatClampNeg) = (48 : Int32) then (if (o3.1 - r_start) ≤ (1 : Int32) then (0 : Int32) else (1 : Int32)) else (0 : Int32)), .ref 0] (HR r_text r_length o3.1 r_start r_kind o3.2) (by decide +kernel) rfl g_nil ?_
      have hJ15 : ∀ (v15 : Int32) (ev15 : v15 = (if (if (r_text r_start.toNatClampNeg) = (48 : Int32) then (if (o3.1 - r_start) ≤ (1 : Int32) then (0 : Int32) else (1 : Int32)) else (0 : Int32)) = 0 then (if o3.2 ≤ (99 : Int32) then (-2 : Int32) else (-3 : Int32)) else (-3 : Int32))), g_G X rm_R_advanceOverNumber c_R_advanceOverNumber 2 3 none 131 [] [.int v15, .ref 0] (HR r_text r_length o3.1 r_start r_kind o3.2) := by
        intro v15 ev15
        subst ev15
        refine g_blk 134 [(.putfield 45, 3, 4, 1, 0)] [] [] [] (HR r_text r_length o3.1 r_start (if (if (r_text r_start.toNatClampNeg) = (48 : Int32) then (if (o3.1 - r_start) ≤ (1 : Int32) then (0 : Int32) else (1 : Int32)) else (0 : Int32)) = 0 then (if o3.2 ≤ (99 : Int32) then (-2 : Int32) else (-3 : Int32)) else (-3 : Int32)) o3.2) (by decide +kernel) rfl g_nil ?_
        have hq := g_sat_s hs
        exact g_vret hX (by decide +kernel) rfl hq
      refine g_brn 124 (.ifCond .ne 12) ((if (r_text r_start.toNatClampNeg) = (48 : Int32) then (if (o3.1 - r_start) ≤ (1 : Int32) then (0 : Int32) else (1 : Int32)) else (0 : Int32)) = 0) [.ref 0] (by decide +kernel) rfl (fun c17 => ?_) (fun c17 => ?_)
      · refine g_blk 131 [(.bipush (-3), 0, 0, (-3), 0), (.goto 5, 0, 0, 0, 0)] [] [(1, .int (if (r_text r_start.toNatClampNeg) = (48 : Int32) then (if (o3.1 - r_start) ≤ (1 : Int32) then (0 : Int32) else (1 : Int32)) else (0 : Int32))), (0, .ref 0)] [.int (-3 : Int32), .ref 0] (HR r_text r_length o3.1 r_start r_kind o3.2) (by decide +kernel) rfl g_nil ?_
        refine g_loc (L2 := []) [] rfl ?_
        exact hJ15 _ (by rw [if_neg c17])
      · refine g_blk 121 [(.aload_n 0, 0, 0, 0, 0), (.getfield 71, 3, 5, 0, 0), (.bipush 99, 0, 0, 99, 0)] [] [(1, .int (if (r_text r_start.toNatClampNeg) = (48 : Int32) then (if (o3.1 - r_start) ≤ (1 : Int32) then (0 : Int32) else (1 : Int32)) else (0 : Int32))), (0, .ref 0)] [.int (99 : Int32), .int o3.2, .ref 0] (HR r_text r_length o3.1 r_start r_kind o3.2) (by decide +kernel) rfl g_nil ?_
        refine g_br 129 (.if_icmp .le 8) (o3.2 ≤ (99 : Int32)) [.ref 0] (by decide +kernel) rfl (fun c18 => ?_) (fun c18 => ?_)
        · refine g_blk 131 [(.bipush (-2), 0, 0, (-2), 0)] [] [(1, .int (if (r_text r_start.toNatClampNeg) = (48 : Int32) then (if (o3.1 - r_start) ≤ (1 : Int32) then (0 : Int32) else (1 : Int32)) else (0 : Int32))), (0, .ref 0)] [.int (-2 : Int32), .ref 0] (HR r_text r_length o3.1 r_start r_kind o3.2) (by decide +kernel) rfl g_nil ?_
          refine g_loc (L2 := []) [] rfl ?_
          exact hJ15 _ (by rw [if_pos c17, if_pos c18])
        · refine g_blk 131 [(.bipush (-3), 0, 0, (-3), 0), (.goto 5, 0, 0, 0, 0)] [] [(1, .int (if (r_text r_start.toNatClampNeg) = (48 : Int32) then (if (o3.1 - r_start) ≤ (1 : Int32) then (0 : Int32) else (1 : Int32)) else (0 : Int32))), (0, .ref 0)] [.int (-3 : Int32), .ref 0] (HR r_text r_length o3.1 r_start r_kind o3.2) (by decide +kernel) rfl g_nil ?_
          refine g_loc (L2 := []) [] rfl ?_
          exact hJ15 _ (by rw [if_pos c17, if_neg c18])
    refine g_brn 108 (.if_icmp .ne 20) ((r_text r_start.toNatClampNeg) = (48 : Int32)) [] (by decide +kernel) rfl (fun c20 => ?_) (fun c20 => ?_)
    · refine g_blk 109 [(.iconst 0, 0, 0, 0, 0)] [] [(0, .ref 0)] [.int (0 : Int32)] (HR r_text r_length o3.1 r_start r_kind o3.2) (by decide +kernel) rfl g_nil ?_
      exact hJ18 _ (by rw [if_neg c20])
    · refine g_blk 101 [(.aload_n 0, 0, 0, 0, 0), (.getfield 34, 3, 2, 0, 0), (.aload_n 0, 0, 0, 0, 0), (.getfield 64, 3, 3, 0, 0), (.isub, 0, 0, 0, 0), (.iconst 1, 0, 0, 1, 0)] [] [(0, .ref 0)] [.int (1 : Int32), .int (o3.1 - r_start)] (HR r_text r_length o3.1 r_start r_kind o3.2) (by decide +kernel) rfl g_nil ?_
      refine g_br 108 (.if_icmp .le 7) ((o3.1 - r_start) ≤ (1 : Int32)) [] (by decide +kernel) rfl (fun c21 => ?_) (fun c21 => ?_)
      · refine g_blk 109 [(.iconst 0, 0, 0, 0, 0)] [] [(0, .ref 0)] [.int (0 : Int32)] (HR r_text r_length o3.1 r_start r_kind o3.2) (by decide +kernel) rfl g_nil ?_
        exact hJ18 _ (by rw [if_pos c20, if_pos c21])
      · refine g_blk 109 [(.iconst 1, 0, 0, 1, 0), (.goto 4, 0, 0, 0, 0)] [] [(0, .ref 0)] [.int (1 : Int32)] (HR r_text r_length o3.1 r_start r_kind o3.2) (by decide +kernel) rfl g_nil ?_
        exact hJ18 _ (by rw [if_pos c20, if_neg c21])
  · have hlR_advanceOverNumber_l1 : ∀ (n : Nat) (w_place_1 : Int32) (w_value_2 : Int32), g_sat (R_advanceOverNumber_l1 r_length r_text n w_place_1 w_value_2) (fun (o3 : Int32 × Int32) => g_G X rm_R_advanceOverNumber c_R_advanceOverNumber 2 3 none 77 [(0, .ref 0)] [] (HR r_text r_length o3.1 r_start r_kind o3.2)) → g_G X rm_R_advanceOverNumber c_R_advanceOverNumber 2 3 none 5 [(0, .ref 0)] [] (HR r_text r_length w_place_1 r_start r_kind w_value_2) := by
      intro n
      induction n with
      | zero =>
        intro w_place_1 w_value_2 hs
        obtain ⟨_, h0, _⟩ := hs
        cases h0
      | succ n ih =>
        intro w_place_1 w_value_2 hs
        rw [R_advanceOverNumber_l1_s] at hs
        refine g_blk 13 [(.aload_n 0, 0, 0, 0, 0), (.getfield 34, 3, 2, 0, 0), (.aload_n 0, 0, 0, 0, 0), (.getfield 24, 3, 1, 0, 0)] [] [(0, .ref 0)] [.int r_length, .int w_place_1] (HR r_text r_length w_place_1 r_start r_kind w_value_2) (by decide +kernel) rfl g_nil ?_
        refine g_br 77 (.if_icmp .ge 64) (r_length ≤ w_place_1) [] (by decide +kernel) rfl (fun c4 => ?_) (fun c4 => ?_)
        · have hs := g_sat_t hs c4
          have hq := g_sat_s hs
          exact hq
        · have hs := g_sat_f hs c4
          obtain ⟨h5, hs⟩ := g_sat_c hs
          refine g_blk 25 [(.aload_n 0, 0, 0, 0, 0), (.getfield 9, 3, 0, 0, 0), (.aload_n 0, 0, 0, 0, 0), (.getfield 34, 3, 2, 0, 0), (.iaload, 0, 0, 0, 0)] [vp_in w_place_1 120] [(0, .ref 0)] [.int (r_text w_place_1.toNatClampNeg)] (HR r_text r_length w_place_1 r_start r_kind w_value_2) (by decide +kernel) rfl (g_and (g_inb_in h5) g_nil) ?_
          refine g_pN (ct_R_isFigure (r_text w_place_1.toNatClampNeg)) 86 1 lk_3_86 (by decide +kernel) rfl ⟨rfl, rfl, by decide, by decide⟩ [] rfl (Nat.le_of_ble_eq_true rfl) ?_
          refine g_br 77 (.ifCond .eq 49) ((F_R_isFigure (r_text w_place_1.toNatClampNeg)) = 0) [] (by decide +kernel) rfl (fun c6 => ?_) (fun c6 => ?_)
          · have hs := g_sat_t hs c6
            have hq := g_sat_s hs
            exact hq
          · have hs := g_sat_f hs c6
            refine g_blk 37 [(.aload_n 0, 0, 0, 0, 0), (.getfield 71, 3, 5, 0, 0), (.bipush 99, 0, 0, 99, 0)] [] [(0, .ref 0)] [.int (99 : Int32), .int w_value_2] (HR r_text r_length w_place_1 r_start r_kind w_value_2) (by decide +kernel) rfl g_nil ?_
            refine g_join (fun (o9 : Int32) => g_G X rm_R_advanceOverNumber c_R_advanceOverNumber 2 3 none 64 [(0, .ref 0)] [] (HR r_text r_length w_place_1 r_start r_kind o9)) hs (fun o9 hs => ?_) (fun hs => ?_)
            · refine g_blk 5 [(.aload_n 0, 0, 0, 0, 0), (.dup, 0, 0, 0, 0), (.getfield 34, 3, 2, 0, 0), (.iconst 1, 0, 0, 1, 0), (.iadd, 0, 0, 0, 0), (.putfield 34, 3, 2, 1, 0), (.goto (-69), 0, 0, 0, 0)] [] [(0, .ref 0)] [] (HR r_text r_length (w_place_1 + (1 : Int32)) r_start r_kind o9) (by decide +kernel) rfl g_nil ?_
              exact ih _ _ hs
            · refine g_br 64 (.if_icmp .gt 27) ((99 : Int32) < w_value_2) [] (by decide +kernel) rfl (fun c7 => ?_) (fun c7 => ?_)
              · have hs := g_sat_t hs c7
                have hq := g_sat_s hs
                exact hq
              · have hs := g_sat_f hs c7
                obtain ⟨h10, hs⟩ := g_sat_c hs
                refine g_blk 64 [(.aload_n 0, 0, 0, 0, 0), (.aload_n 0, 0, 0, 0, 0), (.getfield 71, 3, 5, 0, 0), (.bipush 10, 0, 0, 10, 0), (.imul, 0, 0, 0, 0), (.aload_n 0, 0, 0, 0, 0), (.getfield 9, 3, 0, 0, 0), (.aload_n 0, 0, 0, 0, 0), (.getfield 34, 3, 2, 0, 0), (.iaload, 0, 0, 0, 0), (.iadd, 0, 0, 0, 0), (.bipush 48, 0, 0, 48, 0), (.isub, 0, 0, 0, 0), (.putfield 71, 3, 5, 1, 0)] [vp_in w_place_1 120] [(0, .ref 0)] [] (HR r_text r_length w_place_1 r_start r_kind (((w_value_2 * (10 : Int32)) + (r_text w_place_1.toNatClampNeg)) - (48 : Int32))) (by decide +kernel) rfl (g_and (g_inb_in h10) g_nil) ?_
                have hq := g_sat_s hs
                exact hq
    exact hlR_advanceOverNumber_l1 N _ _ hs
abbrev rm_R_advance : Room := { frames := 2, cells := 0, slots := 0, locals := 41 }
def R_advance_l1 (r_length : Int32) (r_text : Nat → Int32) : Nat → Int32 → Option Int32
  | 0, _ => none
  | n + 1, w_place_1 => (if r_length ≤ w_place_1 then (some w_place_1) else (g_chk (g_inb w_place_1 120) (if (r_text w_place_1.toNatClampNeg) = (32 : Int32) then (R_advance_l1 r_length r_text n (w_place_1 + (1 : Int32))) else (some w_place_1))))
theorem R_advance_l1_s (r_length : Int32) (r_text : Nat → Int32) (n : Nat) (w_place_1 : Int32) : R_advance_l1 r_length r_text (n + 1) w_place_1 = (if r_length ≤ w_place_1 then (some w_place_1) else (g_chk (g_inb w_place_1 120) (if (r_text w_place_1.toNatClampNeg) = (32 : Int32) then (R_advance_l1 r_length r_text n (w_place_1 + (1 : Int32))) else (some w_place_1)))) := rfl
def F_R_advance (N : Nat) (r_text : Nat → Int32) (r_length : Int32) (r_place : Int32) (r_value : Int32) : Option (Int32 × Int32 × Int32 × Int32) := ((R_advance_l1 r_length r_text N r_place).bind fun o2 => (if o2 < r_length then (g_chk (g_inb o2 120) (if (F_R_isFigure (r_text o2.toNatClampNeg)) = 0 then (some ((o2 + (1 : Int32)), o2, (if (r_text o2.toNatClampNeg) = (115 : Int32) then (r_text o2.toNatClampNeg) else (if (r_text o2.toNatClampNeg) = (109 : Int32) then (r_text o2.toNatClampNeg) else (if (r_text o2.toNatClampNeg) = (59 : Int32) then (r_text o2.toNatClampNeg) else (-3 : Int32)))), r_value)) else ((F_R_advanceOverNumber N r_text r_length o2 o2).bind fun o15 => (some (o15.1, o2, o15.2.1, o15.2.2))))) else (some (o2, o2, (-1 : Int32), r_value))))
set_option maxRecDepth 100000 in
theorem ct_R_advance (N : Nat) (r_text : Nat → Int32) (r_length : Int32) (r_place : Int32) (r_start : Int32) (r_kind : Int32) (r_value : Int32) : g_F y_R_advance c_R_advance 2 none rm_R_advance [.ref 0] (HR r_text r_length r_place r_start r_kind r_value) (F_R_advance N r_text r_length r_place r_value) (fun o => none) (fun o => (HR r_text r_length o.1 o.2.1 o.2.2.1 o.2.2.2)) := by
  intro l P hs
  refine g_ofG 3 (by decide +kernel) rfl (Nat.le_of_ble_eq_true rfl) (fun X hX => ?_)
  unfold F_R_advance at hs
  refine g_loc (L2 := [(0, .ref 0)]) [0] rfl ?_
  refine g_join (fun (o2 : Int32) => g_G X rm_R_advance c_R_advance 2 3 none 38 [(0, .ref 0)] [] (HR r_text r_length o2 r_start r_kind r_value)) hs (fun o2 hs => ?_) (fun hs => ?_)
  · refine g_blk 54 [(.aload_n 0, 0, 0, 0, 0), (.aload_n 0, 0, 0, 0, 0), (.getfield 34, 3, 2, 0, 0), (.putfield 64, 3, 3, 1, 0), (.aload_n 0, 0, 0, 0, 0), (.getfield 34, 3, 2, 0, 0), (.aload_n 0, 0, 0, 0, 0), (.getfield 24, 3, 1, 0, 0)] [] [(0, .ref 0)] [.int r_length, .int o2] (HR r_text r_length o2 o2 r_kind r_value) (by decide +kernel) rfl g_nil ?_
    refine g_br 63 (.if_icmp .lt 9) (o2 < r_length) [] (by decide +kernel) rfl (fun c6 => ?_) (fun c6 => ?_)
    · have hs := g_sat_t hs c6
      obtain ⟨h7, hs⟩ := g_sat_c hs
      refine g_blk 74 [(.aload_n 0, 0, 0, 0, 0), (.getfield 9, 3, 0, 0, 0), (.aload_n 0, 0, 0, 0, 0), (.getfield 34, 3, 2, 0, 0), (.iaload, 0, 0, 0, 0), (.istore_n 1, 0, 0, 0, 0), (.iload_n 1, 0, 0, 0, 0)] [vp_in o2 120] [(1, .int (r_text o2.toNatClampNeg)), (0, .ref 0)] [.int (r_text o2.toNatClampNeg)] (HR r_text r_length o2 o2 r_kind r_value) (by decide +kernel) rfl (g_and (g_inb_in h7) g_nil) ?_
      refine g_pN (ct_R_isFigure (r_text o2.toNatClampNeg)) 86 1 lk_3_86 (by decide +kernel) rfl ⟨rfl, rfl, by decide, by decide⟩ [] rfl (Nat.le_of_ble_eq_true rfl) ?_
      refine g_br 85 (.ifCond .eq 8) ((F_R_isFigure (r_text o2.toNatClampNeg)) = 0) [] (by decide +kernel) rfl (fun c8 => ?_) (fun c8 => ?_)
      · have hs := g_sat_t hs c8
        refine g_blk 99 [(.aload_n 0, 0, 0, 0, 0), (.dup, 0, 0, 0, 0), (.getfield 34, 3, 2, 0, 0), (.iconst 1, 0, 0, 1, 0), (.iadd, 0, 0, 0, 0), (.putfield 34, 3, 2, 1, 0), (.aload_n 0, 0, 0, 0, 0), (.iload_n 1, 0, 0, 0, 0), (.bipush 115, 0, 0, 115, 0)] [] [(1, .int (r_text o2.toNatClampNeg)), (0, .ref 0)] [.int (115 : Int32), .int (r_text o2.toNatClampNeg), .ref 0] (HR r_text r_length (o2 + (1 : Int32)) o2 r_kind r_value) (by decide +kernel) rfl g_nil ?_
        have hJ10 : ∀ (v10 : Int32) (ev10 : v10 = (if (r_text o2.toNatClampNeg) = (115 : Int32) then (r_text o2.toNatClampNeg) else (if (r_text o2.toNatClampNeg) = (109 : Int32) then (r_text o2.toNatClampNeg) else (if (r_text o2.toNatClampNeg) = (59 : Int32) then (r_text o2.toNatClampNeg) else (-3 : Int32))))), g_G X rm_R_advance c_R_advance 2 3 none 120 [] [.int v10, .ref 0] (HR r_text r_length (o2 + (1 : Int32)) o2 r_kind r_value) := by
          intro v10 ev10
          subst ev10
          refine g_blk 123 [(.putfield 45, 3, 4, 1, 0)] [] [] [] (HR r_text r_length (o2 + (1 : Int32)) o2 (if (r_text o2.toNatClampNeg) = (115 : Int32) then (r_text o2.toNatClampNeg) else (if (r_text o2.toNatClampNeg) = (109 : Int32) then (r_text o2.toNatClampNeg) else (if (r_text o2.toNatClampNeg) = (59 : Int32) then (r_text o2.toNatClampNeg) else (-3 : Int32)))) r_value) (by decide +kernel) rfl g_nil ?_
          have hq := g_sat_s hs
          exact g_vret hX (by decide +kernel) rfl hq
        refine g_br 114 (.if_icmp .eq 15) ((r_text o2.toNatClampNeg) = (115 : Int32)) [.ref 0] (by decide +kernel) rfl (fun c12 => ?_) (fun c12 => ?_)
        · refine g_blk 120 [(.iload_n 1, 0, 0, 0, 0), (.goto 5, 0, 0, 0, 0)] [] [(1, .int (r_text o2.toNatClampNeg)), (0, .ref 0)] [.int (r_text o2.toNatClampNeg), .ref 0] (HR r_text r_length (o2 + (1 : Int32)) o2 r_kind r_value) (by decide +kernel) rfl g_nil ?_
          refine g_loc (L2 := []) [] rfl ?_
          exact hJ10 _ (by rw [if_pos c12])
        · refine g_blk 105 [(.iload_n 1, 0, 0, 0, 0), (.bipush 109, 0, 0, 109, 0)] [] [(1, .int (r_text o2.toNatClampNeg)), (0, .ref 0)] [.int (109 : Int32), .int (r_text o2.toNatClampNeg), .ref 0] (HR r_text r_length (o2 + (1 : Int32)) o2 r_kind r_value) (by decide +kernel) rfl g_nil ?_
          refine g_br 114 (.if_icmp .eq 9) ((r_text o2.toNatClampNeg) = (109 : Int32)) [.ref 0] (by decide +kernel) rfl (fun c13 => ?_) (fun c13 => ?_)
          · refine g_blk 120 [(.iload_n 1, 0, 0, 0, 0), (.goto 5, 0, 0, 0, 0)] [] [(1, .int (r_text o2.toNatClampNeg)), (0, .ref 0)] [.int (r_text o2.toNatClampNeg), .ref 0] (HR r_text r_length (o2 + (1 : Int32)) o2 r_kind r_value) (by decide +kernel) rfl g_nil ?_
            refine g_loc (L2 := []) [] rfl ?_
            exact hJ10 _ (by rw [if_neg c12, if_pos c13])
          · refine g_blk 111 [(.iload_n 1, 0, 0, 0, 0), (.bipush 59, 0, 0, 59, 0)] [] [(1, .int (r_text o2.toNatClampNeg)), (0, .ref 0)] [.int (59 : Int32), .int (r_text o2.toNatClampNeg), .ref 0] (HR r_text r_length (o2 + (1 : Int32)) o2 r_kind r_value) (by decide +kernel) rfl g_nil ?_
            refine g_brn 118 (.if_icmp .ne 7) ((r_text o2.toNatClampNeg) = (59 : Int32)) [.ref 0] (by decide +kernel) rfl (fun c14 => ?_) (fun c14 => ?_)
            · refine g_blk 120 [(.bipush (-3), 0, 0, (-3), 0)] [] [(1, .int (r_text o2.toNatClampNeg)), (0, .ref 0)] [.int (-3 : Int32), .ref 0] (HR r_text r_length (o2 + (1 : Int32)) o2 r_kind r_value) (by decide +kernel) rfl g_nil ?_
              refine g_loc (L2 := []) [] rfl ?_
              exact hJ10 _ (by rw [if_neg c12, if_neg c13, if_neg c14])
            · refine g_blk 120 [(.iload_n 1, 0, 0, 0, 0), (.goto 5, 0, 0, 0, 0)] [] [(1, .int (r_text o2.toNatClampNeg)), (0, .ref 0)] [.int (r_text o2.toNatClampNeg), .ref 0] (HR r_text r_length (o2 + (1 : Int32)) o2 r_kind r_value) (by decide +kernel) rfl g_nil ?_
              refine g_loc (L2 := []) [] rfl ?_
              exact hJ10 _ (by rw [if_neg c12, if_neg c13, if_pos c14])
      · have hs := g_sat_f hs c8
        refine g_blk 81 [(.aload_n 0, 0, 0, 0, 0)] [] [(1, .int (r_text o2.toNatClampNeg)), (0, .ref 0)] [.ref 0] (HR r_text r_length o2 o2 r_kind r_value) (by decide +kernel) rfl g_nil ?_
        refine g_fM (ct_R_advanceOverNumber N r_text r_length o2 o2 r_kind r_value) 89 true 0 lk_3_89 (by decide +kernel) rfl ⟨rfl, rfl, by decide, by decide⟩ [] rfl (Nat.le_of_ble_eq_true rfl) (fun _ => ⟨0, 3, _, rfl, rfl, by decide, rfl⟩) hs (fun o15 hs => ?_)
        have hq := g_sat_s hs
        exact g_vret hX (by decide +kernel) rfl hq
    · have hs := g_sat_f hs c6
      refine g_blk 62 [(.aload_n 0, 0, 0, 0, 0), (.iconst (-1), 0, 0, (-1), 0), (.putfield 45, 3, 4, 1, 0)] [] [(0, .ref 0)] [] (HR r_text r_length o2 o2 (-1 : Int32) r_value) (by decide +kernel) rfl g_nil ?_
      have hq := g_sat_s hs
      exact g_vret hX (by decide +kernel) rfl hq
  · have hlR_advance_l1 : ∀ (n : Nat) (w_place_1 : Int32), g_sat (R_advance_l1 r_length r_text n w_place_1) (fun (o2 : Int32) => g_G X rm_R_advance c_R_advance 2 3 none 38 [(0, .ref 0)] [] (HR r_text r_length o2 r_start r_kind r_value)) → g_G X rm_R_advance c_R_advance 2 3 none 0 [(0, .ref 0)] [] (HR r_text r_length w_place_1 r_start r_kind r_value) := by
      intro n
      induction n with
      | zero =>
        intro w_place_1 hs
        obtain ⟨_, h0, _⟩ := hs
        cases h0
      | succ n ih =>
        intro w_place_1 hs
        rw [R_advance_l1_s] at hs
        refine g_blk 8 [(.aload_n 0, 0, 0, 0, 0), (.getfield 34, 3, 2, 0, 0), (.aload_n 0, 0, 0, 0, 0), (.getfield 24, 3, 1, 0, 0)] [] [(0, .ref 0)] [.int r_length, .int w_place_1] (HR r_text r_length w_place_1 r_start r_kind r_value) (by decide +kernel) rfl g_nil ?_
        refine g_br 38 (.if_icmp .ge 30) (r_length ≤ w_place_1) [] (by decide +kernel) rfl (fun c3 => ?_) (fun c3 => ?_)
        · have hs := g_sat_t hs c3
          have hq := g_sat_s hs
          exact hq
        · have hs := g_sat_f hs c3
          obtain ⟨h4, hs⟩ := g_sat_c hs
          refine g_blk 22 [(.aload_n 0, 0, 0, 0, 0), (.getfield 9, 3, 0, 0, 0), (.aload_n 0, 0, 0, 0, 0), (.getfield 34, 3, 2, 0, 0), (.iaload, 0, 0, 0, 0), (.bipush 32, 0, 0, 32, 0)] [vp_in w_place_1 120] [(0, .ref 0)] [.int (32 : Int32), .int (r_text w_place_1.toNatClampNeg)] (HR r_text r_length w_place_1 r_start r_kind r_value) (by decide +kernel) rfl (g_and (g_inb_in h4) g_nil) ?_
          refine g_brn 38 (.if_icmp .ne 16) ((r_text w_place_1.toNatClampNeg) = (32 : Int32)) [] (by decide +kernel) rfl (fun c5 => ?_) (fun c5 => ?_)
          · have hs := g_sat_f hs c5
            have hq := g_sat_s hs
            exact hq
          · have hs := g_sat_t hs c5
            refine g_blk 0 [(.aload_n 0, 0, 0, 0, 0), (.dup, 0, 0, 0, 0), (.getfield 34, 3, 2, 0, 0), (.iconst 1, 0, 0, 1, 0), (.iadd, 0, 0, 0, 0), (.putfield 34, 3, 2, 1, 0), (.goto (-35), 0, 0, 0, 0)] [] [(0, .ref 0)] [] (HR r_text r_length (w_place_1 + (1 : Int32)) r_start r_kind r_value) (by decide +kernel) rfl g_nil ?_
            exact ih _ hs
    exact hlR_advance_l1 N _ hs
abbrev rm_R_advanceToNumber : Room := { frames := 3, cells := 0, slots := 0, locals := 62 }
def F_R_advanceToNumber (N : Nat) (r_text : Nat → Int32) (r_length : Int32) (r_place : Int32) (r_value : Int32) (a1 : Int32) : Option (Int32 × Int32 × Int32 × Int32 × Int32) := ((F_R_advance N r_text r_length r_place r_value).bind fun o1 => (some ((if o1.2.2.1 = (-2 : Int32) then (if a1 ≤ o1.2.2.2 then (0 : Int32) else (1 : Int32)) else (0 : Int32)), o1.1, o1.2.1, o1.2.2.1, o1.2.2.2)))
set_option maxRecDepth 100000 in
theorem ct_R_advanceToNumber (N : Nat) (r_text : Nat → Int32) (r_length : Int32) (r_place : Int32) (r_start : Int32) (r_kind : Int32) (r_value : Int32) (a1 : Int32) : g_F y_R_advanceToNumber c_R_advanceToNumber 2 (some .boolean) rm_R_advanceToNumber [.ref 0, .int a1] (HR r_text r_length r_place r_start r_kind r_value) (F_R_advanceToNumber N r_text r_length r_place r_value a1) (fun o => some (.int o.1)) (fun o => (HR r_text r_length o.2.1 o.2.2.1 o.2.2.2.1 o.2.2.2.2)) := by
  intro l P hs
  refine g_ofG 3 (by decide +kernel) rfl (Nat.le_of_ble_eq_true rfl) (fun X hX => ?_)
  unfold F_R_advanceToNumber at hs
  refine g_loc (L2 := [(0, .ref 0), (1, .int a1)]) [0, 1] rfl ?_
  refine g_blk 1 [(.aload_n 0, 0, 0, 0, 0)] [] [(0, .ref 0), (1, .int a1)] [.ref 0] (HR r_text r_length r_place r_start r_kind r_value) (by decide +kernel) rfl g_nil ?_
  refine g_fM (ct_R_advance N r_text r_length r_place r_start r_kind r_value) 42 true 0 lk_3_42 (by decide +kernel) rfl ⟨rfl, rfl, by decide, by decide⟩ [] rfl (Nat.le_of_ble_eq_true rfl) (fun _ => ⟨0, 3, _, rfl, rfl, by decide, rfl⟩) hs (fun o1 hs => ?_)
  refine g_blk 10 [(.aload_n 0, 0, 0, 0, 0), (.getfield 45, 3, 4, 0, 0), (.bipush (-2), 0, 0, (-2), 0)] [] [(0, .ref 0), (1, .int a1)] [.int (-2 : Int32), .int o1.2.2.1] (HR r_text r_length o1.1 o1.2.1 o1.2.2.1 o1.2.2.2) (by decide +kernel) rfl g_nil ?_
  have hJ3 : ∀ (v3 : Int32) (ev3 : v3 = (if o1.2.2.1 = (-2 : Int32) then (if a1 ≤ o1.2.2.2 then (0 : Int32) else (1 : Int32)) else (0 : Int32))), g_G X rm_R_advanceToNumber c_R_advanceToNumber 2 3 (some .boolean) 26 [] [.int v3] (HR r_text r_length o1.1 o1.2.1 o1.2.2.1 o1.2.2.2) := by
    intro v3 ev3
    subst ev3
    have hq := g_sat_s hs
    exact g_zret hX (by decide +kernel) rfl (by repeat (first | exact Or.inl rfl | exact Or.inr rfl | split)) hq
  refine g_brn 25 (.if_icmp .ne 15) (o1.2.2.1 = (-2 : Int32)) [] (by decide +kernel) rfl (fun c5 => ?_) (fun c5 => ?_)
  · refine g_blk 26 [(.iconst 0, 0, 0, 0, 0)] [] [(0, .ref 0), (1, .int a1)] [.int (0 : Int32)] (HR r_text r_length o1.1 o1.2.1 o1.2.2.1 o1.2.2.2) (by decide +kernel) rfl g_nil ?_
    refine g_loc (L2 := []) [] rfl ?_
    exact hJ3 _ (by rw [if_neg c5])
  · refine g_blk 18 [(.aload_n 0, 0, 0, 0, 0), (.getfield 71, 3, 5, 0, 0), (.iload_n 1, 0, 0, 0, 0)] [] [(0, .ref 0), (1, .int a1)] [.int a1, .int o1.2.2.2] (HR r_text r_length o1.1 o1.2.1 o1.2.2.1 o1.2.2.2) (by decide +kernel) rfl g_nil ?_
    refine g_br 25 (.if_icmp .ge 7) (a1 ≤ o1.2.2.2) [] (by decide +kernel) rfl (fun c6 => ?_) (fun c6 => ?_)
    · refine g_blk 26 [(.iconst 0, 0, 0, 0, 0)] [] [(0, .ref 0), (1, .int a1)] [.int (0 : Int32)] (HR r_text r_length o1.1 o1.2.1 o1.2.2.1 o1.2.2.2) (by decide +kernel) rfl g_nil ?_
      refine g_loc (L2 := []) [] rfl ?_
      exact hJ3 _ (by rw [if_pos c5, if_pos c6])
    · refine g_blk 26 [(.iconst 1, 0, 0, 1, 0), (.goto 4, 0, 0, 0, 0)] [] [(0, .ref 0), (1, .int a1)] [.int (1 : Int32)] (HR r_text r_length o1.1 o1.2.1 o1.2.2.1 o1.2.2.2) (by decide +kernel) rfl g_nil ?_
      refine g_loc (L2 := []) [] rfl ?_
      exact hJ3 _ (by rw [if_pos c5, if_neg c6])
abbrev rm_W_addState : Room := { frames := 0, cells := 0, slots := 0, locals := 0 }
def F_W_addState (w_states : Int32) (w_stateLabel : Nat → Int32) (a1 : Int32) : Option (Int32 × (Nat → Int32)) := (if w_states < 0 then (some (w_states, w_stateLabel)) else (if w_states < (5 : Int32) then (g_chk (g_inb w_states 5) (some ((w_states + (1 : Int32)), (upd w_stateLabel w_states.toNatClampNeg a1)))) else (some (w_states, w_stateLabel))))
set_option maxRecDepth 100000 in
theorem ct_W_addState (w_states : Int32) (w_moveCount : Int32) (w_stateLabel : Nat → Int32) (w_moveActor : Nat → Int32) (w_moveFrom : Nat → Int32) (w_moveTo : Nat → Int32) (w_csz : Int32) (w_clt : Int32) (w_cle : Nat → Int32) (w_ssz : Nat → Int32) (w_slt : Nat → Int32) (w_sle : Nat → Nat → Int32) (a1 : Int32) : g_F y_W_addState c_W_addState 2 none rm_W_addState [.ref 0, .int a1] (HW w_states w_moveCount w_stateLabel w_moveActor w_moveFrom w_moveTo w_csz w_clt w_cle w_ssz w_slt w_sle) (F_W_addState w_states w_stateLabel a1) (fun o => none) (fun o => (HW o.1 w_moveCount o.2 w_moveActor w_moveFrom w_moveTo w_csz w_clt w_cle w_ssz w_slt w_sle)) := by
  intro l P hs
  refine g_ofG 5 (by decide +kernel) rfl (Nat.le_of_ble_eq_true rfl) (fun X hX => ?_)
  unfold F_W_addState at hs
  refine g_loc (L2 := [(0, .ref 0), (1, .int a1)]) [0, 1] rfl ?_
  refine g_blk 4 [(.aload_n 0, 0, 0, 0, 0), (.getfield 43, 5, 0, 0, 0)] [] [(0, .ref 0), (1, .int a1)] [.int w_states] (HW w_states w_moveCount w_stateLabel w_moveActor w_moveFrom w_moveTo w_csz w_clt w_cle w_ssz w_slt w_sle) (by decide +kernel) rfl g_nil ?_
  refine g_br 15 (.ifCond .lt 11) (w_states < 0) [] (by decide +kernel) rfl (fun c1 => ?_) (fun c1 => ?_)
  · have hs := g_sat_t hs c1
    have hq := g_sat_s hs
    exact g_vret hX (by decide +kernel) rfl hq
  · have hs := g_sat_f hs c1
    refine g_blk 12 [(.aload_n 0, 0, 0, 0, 0), (.getfield 43, 5, 0, 0, 0), (.iconst 5, 0, 0, 5, 0)] [] [(0, .ref 0), (1, .int a1)] [.int (5 : Int32), .int w_states] (HW w_states w_moveCount w_stateLabel w_moveActor w_moveFrom w_moveTo w_csz w_clt w_cle w_ssz w_slt w_sle) (by decide +kernel) rfl g_nil ?_
    refine g_br 16 (.if_icmp .lt 4) (w_states < (5 : Int32)) [] (by decide +kernel) rfl (fun c2 => ?_) (fun c2 => ?_)
    · have hs := g_sat_t hs c2
      obtain ⟨h3, hs⟩ := g_sat_c hs
      refine g_blk 36 [(.aload_n 0, 0, 0, 0, 0), (.getfield 9, 5, 2, 0, 0), (.aload_n 0, 0, 0, 0, 0), (.getfield 43, 5, 0, 0, 0), (.iload_n 1, 0, 0, 0, 0), (.iastore, 0, 0, 0, 0), (.aload_n 0, 0, 0, 0, 0), (.dup, 0, 0, 0, 0), (.getfield 43, 5, 0, 0, 0), (.iconst 1, 0, 0, 1, 0), (.iadd, 0, 0, 0, 0), (.putfield 43, 5, 0, 1, 0)] [vp_in w_states 5] [(0, .ref 0), (1, .int a1)] [] (HW (w_states + (1 : Int32)) w_moveCount (upd w_stateLabel w_states.toNatClampNeg a1) w_moveActor w_moveFrom w_moveTo w_csz w_clt w_cle w_ssz w_slt w_sle) (by decide +kernel) rfl (g_and (g_inb_in h3) g_nil) ?_
      have hq := g_sat_s hs
      exact g_vret hX (by decide +kernel) rfl hq
    · have hs := g_sat_f hs c2
      have hq := g_sat_s hs
      exact g_vret hX (by decide +kernel) rfl hq
abbrev rm_R_readItemEnd : Room := { frames := 3, cells := 0, slots := 0, locals := 62 }
def F_R_readItemEnd (N : Nat) (r_text : Nat → Int32) (r_length : Int32) (r_place : Int32) (r_value : Int32) : Option (Int32 × Int32 × Int32 × Int32 × Int32) := ((F_R_advance N r_text r_length r_place r_value).bind fun o1 => (some ((if o1.2.2.1 = (59 : Int32) then (-1 : Int32) else o1.2.1), o1.1, o1.2.1, o1.2.2.1, o1.2.2.2)))
set_option maxRecDepth 100000 in
theorem ct_R_readItemEnd (N : Nat) (r_text : Nat → Int32) (r_length : Int32) (r_place : Int32) (r_start : Int32) (r_kind : Int32) (r_value : Int32) : g_F y_R_readItemEnd c_R_readItemEnd 1 (some .int) rm_R_readItemEnd [.ref 0] (HR r_text r_length r_place r_start r_kind r_value) (F_R_readItemEnd N r_text r_length r_place r_value) (fun o => some (.int o.1)) (fun o => (HR r_text r_length o.2.1 o.2.2.1 o.2.2.2.1 o.2.2.2.2)) := by
  intro l P hs
  refine g_ofG 3 (by decide +kernel) rfl (Nat.le_of_ble_eq_true rfl) (fun X hX => ?_)
  unfold F_R_readItemEnd at hs
  refine g_loc (L2 := [(0, .ref 0)]) [0] rfl ?_
  refine g_blk 1 [(.aload_n 0, 0, 0, 0, 0)] [] [(0, .ref 0)] [.ref 0] (HR r_text r_length r_place r_start r_kind r_value) (by decide +kernel) rfl g_nil ?_
  refine g_fM (ct_R_advance N r_text r_length r_place r_start r_kind r_value) 42 true 0 lk_3_42 (by decide +kernel) rfl ⟨rfl, rfl, by decide, by decide⟩ [] rfl (Nat.le_of_ble_eq_true rfl) (fun _ => ⟨0, 3, _, rfl, rfl, by decide, rfl⟩) hs (fun o1 hs => ?_)
  refine g_blk 10 [(.aload_n 0, 0, 0, 0, 0), (.getfield 45, 3, 4, 0, 0), (.bipush 59, 0, 0, 59, 0)] [] [(0, .ref 0)] [.int (59 : Int32), .int o1.2.2.1] (HR r_text r_length o1.1 o1.2.1 o1.2.2.1 o1.2.2.2) (by decide +kernel) rfl g_nil ?_
  have hJ3 : ∀ (v3 : Int32) (ev3 : v3 = (if o1.2.2.1 = (59 : Int32) then (-1 : Int32) else o1.2.1)), g_G X rm_R_readItemEnd c_R_readItemEnd 1 3 (some .int) 21 [] [.int v3] (HR r_text r_length o1.1 o1.2.1 o1.2.2.1 o1.2.2.2) := by
    intro v3 ev3
    subst ev3
    have hq := g_sat_s hs
    exact g_iret hX (by decide +kernel) rfl hq
  refine g_brn 17 (.if_icmp .ne 7) (o1.2.2.1 = (59 : Int32)) [] (by decide +kernel) rfl (fun c5 => ?_) (fun c5 => ?_)
  · refine g_blk 21 [(.aload_n 0, 0, 0, 0, 0), (.getfield 64, 3, 3, 0, 0)] [] [(0, .ref 0)] [.int o1.2.1] (HR r_text r_length o1.1 o1.2.1 o1.2.2.1 o1.2.2.2) (by decide +kernel) rfl g_nil ?_
    refine g_loc (L2 := []) [] rfl ?_
    exact hJ3 _ (by rw [if_neg c5])
  · refine g_blk 21 [(.iconst (-1), 0, 0, (-1), 0), (.goto 7, 0, 0, 0, 0)] [] [(0, .ref 0)] [.int (-1 : Int32)] (HR r_text r_length o1.1 o1.2.1 o1.2.2.1 o1.2.2.2) (by decide +kernel) rfl g_nil ?_
    refine g_loc (L2 := []) [] rfl ?_
    exact hJ3 _ (by rw [if_pos c5])
abbrev HRW (r_text : Nat → Int32) (r_length : Int32) (r_place : Int32) (r_start : Int32) (r_kind : Int32) (r_value : Int32) (w_states : Int32) (w_moveCount : Int32) (w_stateLabel : Nat → Int32) (w_moveActor : Nat → Int32) (w_moveFrom : Nat → Int32) (w_moveTo : Nat → Int32) (w_csz : Int32) (w_clt : Int32) (w_cle : Nat → Int32) (w_ssz : Nat → Int32) (w_slt : Nat → Int32) (w_sle : Nat → Nat → Int32) : List g_E := [.inr (3, [.ref 1, .int r_length, .int r_place, .int r_start, .int r_kind, .int r_value]), .inl (.int, 120, .inl r_text), .inr (5, [.int w_states, .int w_moveCount, .ref 3, .ref 4, .ref 5, .ref 6, .ref 7, .ref 9]), .inl (.int, 5, .inl w_stateLabel), .inl (.int, 10, .inl w_moveActor), .inl (.int, 10, .inl w_moveFrom), .inl (.int, 10, .inl w_moveTo), .inr (0, [.ref 8, .int w_csz, .int w_clt]), .inl (.int, 16, .inl w_cle), .inl (.object "LassoPaths$Formula", 3, .inr (.inr (.inr (.inr (g_rl [10, 12, 14]))))), .inr (0, [.ref 11, .int (w_ssz 0), .int (w_slt 0)]), .inl (.int, 16, .inl (w_sle 0)), .inr (0, [.ref 13, .int (w_ssz 1), .int (w_slt 1)]), .inl (.int, 16, .inl (w_sle 1)), .inr (0, [.ref 15, .int (w_ssz 2), .int (w_slt 2)]), .inl (.int, 16, .inl (w_sle 2))]
theorem HRW_rn (f : Nat → Nat) (r_text : Nat → Int32) (r_length : Int32) (r_place : Int32) (r_start : Int32) (r_kind : Int32) (r_value : Int32) (w_states : Int32) (w_moveCount : Int32) (w_stateLabel : Nat → Int32) (w_moveActor : Nat → Int32) (w_moveFrom : Nat → Int32) (w_moveTo : Nat → Int32) (w_csz : Int32) (w_clt : Int32) (w_cle : Nat → Int32) (w_ssz : Nat → Int32) (w_slt : Nat → Int32) (w_sle : Nat → Nat → Int32) : (HRW r_text r_length r_place r_start r_kind r_value w_states w_moveCount w_stateLabel w_moveActor w_moveFrom w_moveTo w_csz w_clt w_cle w_ssz w_slt w_sle).map (g_rnE f) = [.inr (3, [.ref (f 1), .int r_length, .int r_place, .int r_start, .int r_kind, .int r_value]), .inl (.int, 120, .inl r_text), .inr (5, [.int w_states, .int w_moveCount, .ref (f 3), .ref (f 4), .ref (f 5), .ref (f 6), .ref (f 7), .ref (f 9)]), .inl (.int, 5, .inl w_stateLabel), .inl (.int, 10, .inl w_moveActor), .inl (.int, 10, .inl w_moveFrom), .inl (.int, 10, .inl w_moveTo), .inr (0, [.ref (f 8), .int w_csz, .int w_clt]), .inl (.int, 16, .inl w_cle), .inl (.object "LassoPaths$Formula", 3, .inr (.inr (.inr (.inr (g_rl [f 10, f 12, f 14]))))), .inr (0, [.ref (f 11), .int (w_ssz 0), .int (w_slt 0)]), .inl (.int, 16, .inl (w_sle 0)), .inr (0, [.ref (f 13), .int (w_ssz 1), .int (w_slt 1)]), .inl (.int, 16, .inl (w_sle 1)), .inr (0, [.ref (f 15), .int (w_ssz 2), .int (w_slt 2)]), .inl (.int, 16, .inl (w_sle 2))] := by
  simp only [HRW, List.map_cons, List.map_nil, g_rn_rl]
  rfl
abbrev rm_R_readState : Room := { frames := 4, cells := 0, slots := 0, locals := 83 }
def F_R_readState (N : Nat) (r_text : Nat → Int32) (r_length : Int32) (r_place : Int32) (r_value : Int32) (w_states : Int32) (w_stateLabel : Nat → Int32) : Option (Int32 × Int32 × Int32 × Int32 × Int32 × Int32 × (Nat → Int32)) := ((F_R_advanceToNumber N r_text r_length r_place r_value (8 : Int32)).bind fun o1 => (if o1.1 = 0 then (some (o1.2.2.1, o1.2.1, o1.2.2.1, o1.2.2.2.1, o1.2.2.2.2, w_states, w_stateLabel)) else ((F_W_addState w_states w_stateLabel o1.2.2.2.2).bind fun o3 => ((F_R_readItemEnd N r_text r_length o1.2.1 o1.2.2.2.2).bind fun o4 => (some (o4.1, o4.2.1, o4.2.2.1, o4.2.2.2.1, o4.2.2.2.2, o3.1, o3.2))))))
set_option maxRecDepth 100000 in
theorem ct_R_readState (N : Nat) (r_text : Nat → Int32) (r_length : Int32) (r_place : Int32) (r_start : Int32) (r_kind : Int32) (r_value : Int32) (w_states : Int32) (w_moveCount : Int32) (w_stateLabel : Nat → Int32) (w_moveActor : Nat → Int32) (w_moveFrom : Nat → Int32) (w_moveTo : Nat → Int32) (w_csz : Int32) (w_clt : Int32) (w_cle : Nat → Int32) (w_ssz : Nat → Int32) (w_slt : Nat → Int32) (w_sle : Nat → Nat → Int32) : g_F y_R_readState c_R_readState 2 (some .int) rm_R_readState [.ref 0, .ref 2] (HRW r_text r_length r_place r_start r_kind r_value w_states w_moveCount w_stateLabel w_moveActor w_moveFrom w_moveTo w_csz w_clt w_cle w_ssz w_slt w_sle) (F_R_readState N r_text r_length r_place r_value w_states w_stateLabel) (fun o => some (.int o.1)) (fun o => (HRW r_text r_length o.2.1 o.2.2.1 o.2.2.2.1 o.2.2.2.2.1 o.2.2.2.2.2.1 w_moveCount o.2.2.2.2.2.2 w_moveActor w_moveFrom w_moveTo w_csz w_clt w_cle w_ssz w_slt w_sle)) := by
  intro l P hs
  refine g_ofG 3 (by decide +kernel) rfl (Nat.le_of_ble_eq_true rfl) (fun X hX => ?_)
  unfold F_R_readState at hs
  refine g_loc (L2 := [(0, .ref 0), (1, .ref 2)]) [0, 1] rfl ?_
  refine g_blk 3 [(.aload_n 0, 0, 0, 0, 0), (.bipush 8, 0, 0, 8, 0)] [] [(0, .ref 0), (1, .ref 2)] [.int (8 : Int32), .ref 0] (HRW r_text r_length r_place r_start r_kind r_value w_states w_moveCount w_stateLabel w_moveActor w_moveFrom w_moveTo w_csz w_clt w_cle w_ssz w_slt w_sle) (by decide +kernel) rfl g_nil ?_
  refine g_fP (ct_R_advanceToNumber N r_text r_length r_place r_start r_kind r_value (8 : Int32)) 67 true 1 lk_3_67 (by decide +kernel) rfl ⟨rfl, rfl, by decide, by decide⟩ [0, 1] [] rfl (Nat.le_of_ble_eq_true rfl) (by decide +kernel) (by rw [HR_rn]; rfl) (fun _ => ⟨0, 3, _, rfl, rfl, by decide, rfl⟩) hs (fun o1 hs => ?_)
  refine g_hp (hp2 := (HRW r_text r_length o1.2.1 o1.2.2.1 o1.2.2.2.1 o1.2.2.2.2 w_states w_moveCount w_stateLabel w_moveActor w_moveFrom w_moveTo w_csz w_clt w_cle w_ssz w_slt w_sle)) (by rw [HR_rn]; rfl) ?_
  refine g_brn 14 (.ifCond .ne 8) (o1.1 = 0) [] (by decide +kernel) rfl (fun c2 => ?_) (fun c2 => ?_)
  · have hs := g_sat_f hs c2
    refine g_blk 19 [(.aload_n 1, 0, 0, 0, 0), (.aload_n 0, 0, 0, 0, 0), (.getfield 71, 3, 5, 0, 0)] [] [(0, .ref 0), (1, .ref 2)] [.int o1.2.2.2.2, .ref 2] (HRW r_text r_length o1.2.1 o1.2.2.1 o1.2.2.2.1 o1.2.2.2.2 w_states w_moveCount w_stateLabel w_moveActor w_moveFrom w_moveTo w_csz w_clt w_cle w_ssz w_slt w_sle) (by decide +kernel) rfl g_nil ?_
    refine g_fP (ct_W_addState w_states w_moveCount w_stateLabel w_moveActor w_moveFrom w_moveTo w_csz w_clt w_cle w_ssz w_slt w_sle o1.2.2.2.2) 74 true 1 lk_3_74 (by decide +kernel) rfl ⟨rfl, rfl, by decide, by decide⟩ [2, 3, 4, 5, 6, 7, 8, 9, 10, 11, 12, 13, 14, 15] [] rfl (Nat.le_of_ble_eq_true rfl) (by decide +kernel) (by rw [HW_rn]; rfl) (fun _ => ⟨0, 5, _, rfl, rfl, by decide, rfl⟩) hs (fun o3 hs => ?_)
    refine g_hp (hp2 := (HRW r_text r_length o1.2.1 o1.2.2.1 o1.2.2.2.1 o1.2.2.2.2 o3.1 w_moveCount o3.2 w_moveActor w_moveFrom w_moveTo w_csz w_clt w_cle w_ssz w_slt w_sle)) (by rw [HW_rn]; rfl) ?_
    refine g_blk 23 [(.aload_n 0, 0, 0, 0, 0)] [] [(0, .ref 0), (1, .ref 2)] [.ref 0] (HRW r_text r_length o1.2.1 o1.2.2.1 o1.2.2.2.1 o1.2.2.2.2 o3.1 w_moveCount o3.2 w_moveActor w_moveFrom w_moveTo w_csz w_clt w_cle w_ssz w_slt w_sle) (by decide +kernel) rfl g_nil ?_
    refine g_fP (ct_R_readItemEnd N r_text r_length o1.2.1 o1.2.2.1 o1.2.2.2.1 o1.2.2.2.2) 78 true 0 lk_3_78 (by decide +kernel) rfl ⟨rfl, rfl, by decide, by decide⟩ [0, 1] [] rfl (Nat.le_of_ble_eq_true rfl) (by decide +kernel) (by rw [HR_rn]; rfl) (fun _ => ⟨0, 3, _, rfl, rfl, by decide, rfl⟩) hs (fun o4 hs => ?_)
    refine g_hp (hp2 := (HRW r_text r_length o4.2.1 o4.2.2.1 o4.2.2.2.1 o4.2.2.2.2 o3.1 w_moveCount o3.2 w_moveActor w_moveFrom w_moveTo w_csz w_clt w_cle w_ssz w_slt w_sle)) (by rw [HR_rn]; rfl) ?_
    have hq := g_sat_s hs
    exact g_iret hX (by decide +kernel) rfl hq
  · have hs := g_sat_t hs c2
    refine g_blk 13 [(.aload_n 0, 0, 0, 0, 0), (.getfield 64, 3, 3, 0, 0)] [] [(0, .ref 0), (1, .ref 2)] [.int o1.2.2.1] (HRW r_text r_length o1.2.1 o1.2.2.1 o1.2.2.2.1 o1.2.2.2.2 w_states w_moveCount w_stateLabel w_moveActor w_moveFrom w_moveTo w_csz w_clt w_cle w_ssz w_slt w_sle) (by decide +kernel) rfl g_nil ?_
    have hq := g_sat_s hs
    exact g_iret hX (by decide +kernel) rfl hq
abbrev rm_W_addMove : Room := { frames := 0, cells := 0, slots := 0, locals := 0 }
def F_W_addMove (w_moveCount : Int32) (w_moveActor : Nat → Int32) (w_moveFrom : Nat → Int32) (w_moveTo : Nat → Int32) (a1 : Int32) (a2 : Int32) (a3 : Int32) : Option (Int32 × (Nat → Int32) × (Nat → Int32) × (Nat → Int32)) := (if w_moveCount < 0 then (some (w_moveCount, w_moveActor, w_moveFrom, w_moveTo)) else (if w_moveCount < (10 : Int32) then (g_chk (g_inb w_moveCount 10) (g_chk (g_inb w_moveCount 10) (g_chk (g_inb w_moveCount 10) (some ((w_moveCount + (1 : Int32)), (upd w_moveActor w_moveCount.toNatClampNeg a1), (upd w_moveFrom w_moveCount.toNatClampNeg a2), (upd w_moveTo w_moveCount.toNatClampNeg a3)))))) else (some (w_moveCount, w_moveActor, w_moveFrom, w_moveTo))))
set_option maxRecDepth 100000 in
theorem ct_W_addMove (w_states : Int32) (w_moveCount : Int32) (w_stateLabel : Nat → Int32) (w_moveActor : Nat → Int32) (w_moveFrom : Nat → Int32) (w_moveTo : Nat → Int32) (w_csz : Int32) (w_clt : Int32) (w_cle : Nat → Int32) (w_ssz : Nat → Int32) (w_slt : Nat → Int32) (w_sle : Nat → Nat → Int32) (a1 : Int32) (a2 : Int32) (a3 : Int32) : g_F y_W_addMove c_W_addMove 4 none rm_W_addMove [.ref 0, .int a1, .int a2, .int a3] (HW w_states w_moveCount w_stateLabel w_moveActor w_moveFrom w_moveTo w_csz w_clt w_cle w_ssz w_slt w_sle) (F_W_addMove w_moveCount w_moveActor w_moveFrom w_moveTo a1 a2 a3) (fun o => none) (fun o => (HW w_states o.1 w_stateLabel o.2.1 o.2.2.1 o.2.2.2 w_csz w_clt w_cle w_ssz w_slt w_sle)) := by
  intro l P hs
  refine g_ofG 5 (by decide +kernel) rfl (Nat.le_of_ble_eq_true rfl) (fun X hX => ?_)
  unfold F_W_addMove at hs
  refine g_loc (L2 := [(0, .ref 0), (1, .int a1), (2, .int a2), (3, .int a3)]) [0, 1, 2, 3] rfl ?_
  refine g_blk 4 [(.aload_n 0, 0, 0, 0, 0), (.getfield 47, 5, 1, 0, 0)] [] [(0, .ref 0), (1, .int a1), (2, .int a2), (3, .int a3)] [.int w_moveCount] (HW w_states w_moveCount w_stateLabel w_moveActor w_moveFrom w_moveTo w_csz w_clt w_cle w_ssz w_slt w_sle) (by decide +kernel) rfl g_nil ?_
  refine g_br 16 (.ifCond .lt 12) (w_moveCount < 0) [] (by decide +kernel) rfl (fun c1 => ?_) (fun c1 => ?_)
  · have hs := g_sat_t hs c1
    have hq := g_sat_s hs
    exact g_vret hX (by decide +kernel) rfl hq
  · have hs := g_sat_f hs c1
    refine g_blk 13 [(.aload_n 0, 0, 0, 0, 0), (.getfield 47, 5, 1, 0, 0), (.bipush 10, 0, 0, 10, 0)] [] [(0, .ref 0), (1, .int a1), (2, .int a2), (3, .int a3)] [.int (10 : Int32), .int w_moveCount] (HW w_states w_moveCount w_stateLabel w_moveActor w_moveFrom w_moveTo w_csz w_clt w_cle w_ssz w_slt w_sle) (by decide +kernel) rfl g_nil ?_
    refine g_br 17 (.if_icmp .lt 4) (w_moveCount < (10 : Int32)) [] (by decide +kernel) rfl (fun c2 => ?_) (fun c2 => ?_)
    · have hs := g_sat_t hs c2
      obtain ⟨h3, hs⟩ := g_sat_c hs
      obtain ⟨h4, hs⟩ := g_sat_c hs
      obtain ⟨h5, hs⟩ := g_sat_c hs
      refine g_blk 57 [(.aload_n 0, 0, 0, 0, 0), (.getfield 15, 5, 3, 0, 0), (.aload_n 0, 0, 0, 0, 0), (.getfield 47, 5, 1, 0, 0), (.iload_n 1, 0, 0, 0, 0), (.iastore, 0, 0, 0, 0), (.aload_n 0, 0, 0, 0, 0), (.getfield 18, 5, 4, 0, 0), (.aload_n 0, 0, 0, 0, 0), (.getfield 47, 5, 1, 0, 0), (.iload_n 2, 0, 0, 0, 0), (.iastore, 0, 0, 0, 0), (.aload_n 0, 0, 0, 0, 0), (.getfield 21, 5, 5, 0, 0), (.aload_n 0, 0, 0, 0, 0), (.getfield 47, 5, 1, 0, 0), (.iload_n 3, 0, 0, 0, 0), (.iastore, 0, 0, 0, 0), (.aload_n 0, 0, 0, 0, 0), (.dup, 0, 0, 0, 0), (.getfield 47, 5, 1, 0, 0), (.iconst 1, 0, 0, 1, 0), (.iadd, 0, 0, 0, 0), (.putfield 47, 5, 1, 1, 0)] [vp_in w_moveCount 10, vp_in w_moveCount 10, vp_in w_moveCount 10] [(0, .ref 0), (1, .int a1), (2, .int a2), (3, .int a3)] [] (HW w_states (w_moveCount + (1 : Int32)) w_stateLabel (upd w_moveActor w_moveCount.toNatClampNeg a1) (upd w_moveFrom w_moveCount.toNatClampNeg a2) (upd w_moveTo w_moveCount.toNatClampNeg a3) w_csz w_clt w_cle w_ssz w_slt w_sle) (by decide +kernel) rfl (g_and (g_inb_in h3) (g_and (g_inb_in h4) (g_and (g_inb_in h5) g_nil))) ?_
      have hq := g_sat_s hs
      exact g_vret hX (by decide +kernel) rfl hq
    · have hs := g_sat_f hs c2
      have hq := g_sat_s hs
      exact g_vret hX (by decide +kernel) rfl hq
abbrev rm_R_readMove : Room := { frames := 4, cells := 0, slots := 0, locals := 83 }
def F_R_readMove (N : Nat) (r_text : Nat → Int32) (r_length : Int32) (r_place : Int32) (r_value : Int32) (w_states : Int32) (w_moveCount : Int32) (w_moveActor : Nat → Int32) (w_moveFrom : Nat → Int32) (w_moveTo : Nat → Int32) : Option (Int32 × Int32 × Int32 × Int32 × Int32 × Int32 × (Nat → Int32) × (Nat → Int32) × (Nat → Int32)) := ((F_R_advanceToNumber N r_text r_length r_place r_value (2 : Int32)).bind fun o1 => (if o1.1 = 0 then (some (o1.2.2.1, o1.2.1, o1.2.2.1, o1.2.2.2.1, o1.2.2.2.2, w_moveCount, w_moveActor, w_moveFrom, w_moveTo)) else ((F_R_advanceToNumber N r_text r_length o1.2.1 o1.2.2.2.2 w_states).bind fun o3 => (if o3.1 = 0 then (some (o3.2.2.1, o3.2.1, o3.2.2.1, o3.2.2.2.1, o3.2.2.2.2, w_moveCount, w_moveActor, w_moveFrom, w_moveTo)) else ((F_R_advanceToNumber N r_text r_length o3.2.1 o3.2.2.2.2 w_states).bind fun o5 => (if o5.1 = 0 then (some (o5.2.2.1, o5.2.1, o5.2.2.1, o5.2.2.2.1, o5.2.2.2.2, w_moveCount, w_moveActor, w_moveFrom, w_moveTo)) else ((F_W_addMove w_moveCount w_moveActor w_moveFrom w_moveTo o1.2.2.2.2 o3.2.2.2.2 o5.2.2.2.2).bind fun o7 => ((F_R_readItemEnd N r_text r_length o5.2.1 o5.2.2.2.2).bind fun o8 => (some (o8.1, o8.2.1, o8.2.2.1, o8.2.2.2.1, o8.2.2.2.2, o7.1, o7.2.1, o7.2.2.1, o7.2.2.2))))))))))
set_option maxRecDepth 100000 in
theorem ct_R_readMove (N : Nat) (r_text : Nat → Int32) (r_length : Int32) (r_place : Int32) (r_start : Int32) (r_kind : Int32) (r_value : Int32) (w_states : Int32) (w_moveCount : Int32) (w_stateLabel : Nat → Int32) (w_moveActor : Nat → Int32) (w_moveFrom : Nat → Int32) (w_moveTo : Nat → Int32) (w_csz : Int32) (w_clt : Int32) (w_cle : Nat → Int32) (w_ssz : Nat → Int32) (w_slt : Nat → Int32) (w_sle : Nat → Nat → Int32) : g_F y_R_readMove c_R_readMove 4 (some .int) rm_R_readMove [.ref 0, .ref 2] (HRW r_text r_length r_place r_start r_kind r_value w_states w_moveCount w_stateLabel w_moveActor w_moveFrom w_moveTo w_csz w_clt w_cle w_ssz w_slt w_sle) (F_R_readMove N r_text r_length r_place r_value w_states w_moveCount w_moveActor w_moveFrom w_moveTo) (fun o => some (.int o.1)) (fun o => (HRW r_text r_length o.2.1 o.2.2.1 o.2.2.2.1 o.2.2.2.2.1 w_states o.2.2.2.2.2.1 w_stateLabel o.2.2.2.2.2.2.1 o.2.2.2.2.2.2.2.1 o.2.2.2.2.2.2.2.2 w_csz w_clt w_cle w_ssz w_slt w_sle)) := by
  intro l P hs
  refine g_ofG 3 (by decide +kernel) rfl (Nat.le_of_ble_eq_true rfl) (fun X hX => ?_)
  unfold F_R_readMove at hs
  refine g_loc (L2 := [(0, .ref 0), (1, .ref 2)]) [0, 1] rfl ?_
  refine g_blk 2 [(.aload_n 0, 0, 0, 0, 0), (.iconst 2, 0, 0, 2, 0)] [] [(0, .ref 0), (1, .ref 2)] [.int (2 : Int32), .ref 0] (HRW r_text r_length r_place r_start r_kind r_value w_states w_moveCount w_stateLabel w_moveActor w_moveFrom w_moveTo w_csz w_clt w_cle w_ssz w_slt w_sle) (by decide +kernel) rfl g_nil ?_
  refine g_fP (ct_R_advanceToNumber N r_text r_length r_place r_start r_kind r_value (2 : Int32)) 67 true 1 lk_3_67 (by decide +kernel) rfl ⟨rfl, rfl, by decide, by decide⟩ [0, 1] [] rfl (Nat.le_of_ble_eq_true rfl) (by decide +kernel) (by rw [HR_rn]; rfl) (fun _ => ⟨0, 3, _, rfl, rfl, by decide, rfl⟩) hs (fun o1 hs => ?_)
  refine g_hp (hp2 := (HRW r_text r_length o1.2.1 o1.2.2.1 o1.2.2.2.1 o1.2.2.2.2 w_states w_moveCount w_stateLabel w_moveActor w_moveFrom w_moveTo w_csz w_clt w_cle w_ssz w_slt w_sle)) (by rw [HR_rn]; rfl) ?_
  refine g_brn 13 (.ifCond .ne 8) (o1.1 = 0) [] (by decide +kernel) rfl (fun c2 => ?_) (fun c2 => ?_)
  · have hs := g_sat_f hs c2
    refine g_blk 23 [(.aload_n 0, 0, 0, 0, 0), (.getfield 71, 3, 5, 0, 0), (.istore_n 2, 0, 0, 0, 0), (.aload_n 0, 0, 0, 0, 0), (.aload_n 1, 0, 0, 0, 0), (.getfield 52, 5, 0, 0, 0)] [] [(2, .int o1.2.2.2.2), (0, .ref 0), (1, .ref 2)] [.int w_states, .ref 0] (HRW r_text r_length o1.2.1 o1.2.2.1 o1.2.2.2.1 o1.2.2.2.2 w_states w_moveCount w_stateLabel w_moveActor w_moveFrom w_moveTo w_csz w_clt w_cle w_ssz w_slt w_sle) (by decide +kernel) rfl g_nil ?_
    refine g_fP (ct_R_advanceToNumber N r_text r_length o1.2.1 o1.2.2.1 o1.2.2.2.1 o1.2.2.2.2 w_states) 67 true 1 lk_3_67 (by decide +kernel) rfl ⟨rfl, rfl, by decide, by decide⟩ [0, 1] [] rfl (Nat.le_of_ble_eq_true rfl) (by decide +kernel) (by rw [HR_rn]; rfl) (fun _ => ⟨0, 3, _, rfl, rfl, by decide, rfl⟩) hs (fun o3 hs => ?_)
    refine g_hp (hp2 := (HRW r_text r_length o3.2.1 o3.2.2.1 o3.2.2.2.1 o3.2.2.2.2 w_states w_moveCount w_stateLabel w_moveActor w_moveFrom w_moveTo w_csz w_clt w_cle w_ssz w_slt w_sle)) (by rw [HR_rn]; rfl) ?_
    refine g_brn 34 (.ifCond .ne 8) (o3.1 = 0) [] (by decide +kernel) rfl (fun c4 => ?_) (fun c4 => ?_)
    · have hs := g_sat_f hs c4
      refine g_blk 44 [(.aload_n 0, 0, 0, 0, 0), (.getfield 71, 3, 5, 0, 0), (.istore_n 3, 0, 0, 0, 0), (.aload_n 0, 0, 0, 0, 0), (.aload_n 1, 0, 0, 0, 0), (.getfield 52, 5, 0, 0, 0)] [] [(3, .int o3.2.2.2.2), (2, .int o1.2.2.2.2), (0, .ref 0), (1, .ref 2)] [.int w_states, .ref 0] (HRW r_text r_length o3.2.1 o3.2.2.1 o3.2.2.2.1 o3.2.2.2.2 w_states w_moveCount w_stateLabel w_moveActor w_moveFrom w_moveTo w_csz w_clt w_cle w_ssz w_slt w_sle) (by decide +kernel) rfl g_nil ?_
      refine g_fP (ct_R_advanceToNumber N r_text r_length o3.2.1 o3.2.2.1 o3.2.2.2.1 o3.2.2.2.2 w_states) 67 true 1 lk_3_67 (by decide +kernel) rfl ⟨rfl, rfl, by decide, by decide⟩ [0, 1] [] rfl (Nat.le_of_ble_eq_true rfl) (by decide +kernel) (by rw [HR_rn]; rfl) (fun _ => ⟨0, 3, _, rfl, rfl, by decide, rfl⟩) hs (fun o5 hs => ?_)
      refine g_hp (hp2 := (HRW r_text r_length o5.2.1 o5.2.2.1 o5.2.2.2.1 o5.2.2.2.2 w_states w_moveCount w_stateLabel w_moveActor w_moveFrom w_moveTo w_csz w_clt w_cle w_ssz w_slt w_sle)) (by rw [HR_rn]; rfl) ?_
      refine g_brn 55 (.ifCond .ne 8) (o5.1 = 0) [] (by decide +kernel) rfl (fun c6 => ?_) (fun c6 => ?_)
      · have hs := g_sat_f hs c6
        refine g_blk 62 [(.aload_n 1, 0, 0, 0, 0), (.iload_n 2, 0, 0, 0, 0), (.iload_n 3, 0, 0, 0, 0), (.aload_n 0, 0, 0, 0, 0), (.getfield 71, 3, 5, 0, 0)] [] [(3, .int o3.2.2.2.2), (2, .int o1.2.2.2.2), (0, .ref 0), (1, .ref 2)] [.int o5.2.2.2.2, .int o3.2.2.2.2, .int o1.2.2.2.2, .ref 2] (HRW r_text r_length o5.2.1 o5.2.2.1 o5.2.2.2.1 o5.2.2.2.2 w_states w_moveCount w_stateLabel w_moveActor w_moveFrom w_moveTo w_csz w_clt w_cle w_ssz w_slt w_sle) (by decide +kernel) rfl g_nil ?_
        refine g_fP (ct_W_addMove w_states w_moveCount w_stateLabel w_moveActor w_moveFrom w_moveTo w_csz w_clt w_cle w_ssz w_slt w_sle o1.2.2.2.2 o3.2.2.2.2 o5.2.2.2.2) 82 true 3 lk_3_82 (by decide +kernel) rfl ⟨rfl, rfl, by decide, by decide⟩ [2, 3, 4, 5, 6, 7, 8, 9, 10, 11, 12, 13, 14, 15] [] rfl (Nat.le_of_ble_eq_true rfl) (by decide +kernel) (by rw [HW_rn]; rfl) (fun _ => ⟨0, 5, _, rfl, rfl, by decide, rfl⟩) hs (fun o7 hs => ?_)
        refine g_hp (hp2 := (HRW r_text r_length o5.2.1 o5.2.2.1 o5.2.2.2.1 o5.2.2.2.2 w_states o7.1 w_stateLabel o7.2.1 o7.2.2.1 o7.2.2.2 w_csz w_clt w_cle w_ssz w_slt w_sle)) (by rw [HW_rn]; rfl) ?_
        refine g_blk 66 [(.aload_n 0, 0, 0, 0, 0)] [] [(3, .int o3.2.2.2.2), (2, .int o1.2.2.2.2), (0, .ref 0), (1, .ref 2)] [.ref 0] (HRW r_text r_length o5.2.1 o5.2.2.1 o5.2.2.2.1 o5.2.2.2.2 w_states o7.1 w_stateLabel o7.2.1 o7.2.2.1 o7.2.2.2 w_csz w_clt w_cle w_ssz w_slt w_sle) (by decide +kernel) rfl g_nil ?_
        refine g_fP (ct_R_readItemEnd N r_text r_length o5.2.1 o5.2.2.1 o5.2.2.2.1 o5.2.2.2.2) 78 true 0 lk_3_78 (by decide +kernel) rfl ⟨rfl, rfl, by decide, by decide⟩ [0, 1] [] rfl (Nat.le_of_ble_eq_true rfl) (by decide +kernel) (by rw [HR_rn]; rfl) (fun _ => ⟨0, 3, _, rfl, rfl, by decide, rfl⟩) hs (fun o8 hs => ?_)
        refine g_hp (hp2 := (HRW r_text r_length o8.2.1 o8.2.2.1 o8.2.2.2.1 o8.2.2.2.2 w_states o7.1 w_stateLabel o7.2.1 o7.2.2.1 o7.2.2.2 w_csz w_clt w_cle w_ssz w_slt w_sle)) (by rw [HR_rn]; rfl) ?_
        have hq := g_sat_s hs
        exact g_iret hX (by decide +kernel) rfl hq
      · have hs := g_sat_t hs c6
        refine g_blk 54 [(.aload_n 0, 0, 0, 0, 0), (.getfield 64, 3, 3, 0, 0)] [] [(3, .int o3.2.2.2.2), (2, .int o1.2.2.2.2), (0, .ref 0), (1, .ref 2)] [.int o5.2.2.1] (HRW r_text r_length o5.2.1 o5.2.2.1 o5.2.2.2.1 o5.2.2.2.2 w_states w_moveCount w_stateLabel w_moveActor w_moveFrom w_moveTo w_csz w_clt w_cle w_ssz w_slt w_sle) (by decide +kernel) rfl g_nil ?_
        have hq := g_sat_s hs
        exact g_iret hX (by decide +kernel) rfl hq
    · have hs := g_sat_t hs c4
      refine g_blk 33 [(.aload_n 0, 0, 0, 0, 0), (.getfield 64, 3, 3, 0, 0)] [] [(2, .int o1.2.2.2.2), (0, .ref 0), (1, .ref 2)] [.int o3.2.2.1] (HRW r_text r_length o3.2.1 o3.2.2.1 o3.2.2.2.1 o3.2.2.2.2 w_states w_moveCount w_stateLabel w_moveActor w_moveFrom w_moveTo w_csz w_clt w_cle w_ssz w_slt w_sle) (by decide +kernel) rfl g_nil ?_
      have hq := g_sat_s hs
      exact g_iret hX (by decide +kernel) rfl hq
  · have hs := g_sat_t hs c2
    refine g_blk 12 [(.aload_n 0, 0, 0, 0, 0), (.getfield 64, 3, 3, 0, 0)] [] [(0, .ref 0), (1, .ref 2)] [.int o1.2.2.1] (HRW r_text r_length o1.2.1 o1.2.2.1 o1.2.2.2.1 o1.2.2.2.2 w_states w_moveCount w_stateLabel w_moveActor w_moveFrom w_moveTo w_csz w_clt w_cle w_ssz w_slt w_sle) (by decide +kernel) rfl g_nil ?_
    have hq := g_sat_s hs
    exact g_iret hX (by decide +kernel) rfl hq
abbrev rm_R_readItem : Room := { frames := 5, cells := 0, slots := 0, locals := 106 }
def F_R_readItem (N : Nat) (r_text : Nat → Int32) (r_length : Int32) (r_place : Int32) (r_start : Int32) (r_kind : Int32) (r_value : Int32) (w_states : Int32) (w_moveCount : Int32) (w_stateLabel : Nat → Int32) (w_moveActor : Nat → Int32) (w_moveFrom : Nat → Int32) (w_moveTo : Nat → Int32) : Option (Int32 × Int32 × Int32 × Int32 × Int32 × Int32 × Int32 × (Nat → Int32) × (Nat → Int32) × (Nat → Int32) × (Nat → Int32)) := (if r_kind = (115 : Int32) then (if (5 : Int32) ≤ w_states then (if r_kind = (109 : Int32) then (if (10 : Int32) ≤ w_moveCount then (some (r_start, r_place, r_start, r_kind, r_value, w_states, w_moveCount, w_stateLabel, w_moveActor, w_moveFrom, w_moveTo)) else ((F_R_readMove N r_text r_length r_place r_value w_states w_moveCount w_moveActor w_moveFrom w_moveTo).bind fun o8 => (some (o8.1, o8.2.1, o8.2.2.1, o8.2.2.2.1, o8.2.2.2.2.1, w_states, o8.2.2.2.2.2.1, w_stateLabel, o8.2.2.2.2.2.2.1, o8.2.2.2.2.2.2.2.1, o8.2.2.2.2.2.2.2.2)))) else (some (r_start, r_place, r_start, r_kind, r_value, w_states, w_moveCount, w_stateLabel, w_moveActor, w_moveFrom, w_moveTo))) else ((F_R_readState N r_text r_length r_place r_value w_states w_stateLabel).bind fun o9 => (some (o9.1, o9.2.1, o9.2.2.1, o9.2.2.2.1, o9.2.2.2.2.1, o9.2.2.2.2.2.1, w_moveCount, o9.2.2.2.2.2.2, w_moveActor, w_moveFrom, w_moveTo)))) else (if r_kind = (109 : Int32) then (if (10 : Int32) ≤ w_moveCount then (some (r_start, r_place, r_start, r_kind, r_value, w_states, w_moveCount, w_stateLabel, w_moveActor, w_moveFrom, w_moveTo)) else ((F_R_readMove N r_text r_length r_place r_value w_states w_moveCount w_moveActor w_moveFrom w_moveTo).bind fun o4 => (some (o4.1, o4.2.1, o4.2.2.1, o4.2.2.2.1, o4.2.2.2.2.1, w_states, o4.2.2.2.2.2.1, w_stateLabel, o4.2.2.2.2.2.2.1, o4.2.2.2.2.2.2.2.1, o4.2.2.2.2.2.2.2.2)))) else (some (r_start, r_place, r_start, r_kind, r_value, w_states, w_moveCount, w_stateLabel, w_moveActor, w_moveFrom, w_moveTo))))
set_option maxRecDepth 100000 in
theorem ct_R_readItem (N : Nat) (r_text : Nat → Int32) (r_length : Int32) (r_place : Int32) (r_start : Int32) (r_kind : Int32) (r_value : Int32) (w_states : Int32) (w_moveCount : Int32) (w_stateLabel : Nat → Int32) (w_moveActor : Nat → Int32) (w_moveFrom : Nat → Int32) (w_moveTo : Nat → Int32) (w_csz : Int32) (w_clt : Int32) (w_cle : Nat → Int32) (w_ssz : Nat → Int32) (w_slt : Nat → Int32) (w_sle : Nat → Nat → Int32) : g_F y_R_readItem c_R_readItem 2 (some .int) rm_R_readItem [.ref 0, .ref 2] (HRW r_text r_length r_place r_start r_kind r_value w_states w_moveCount w_stateLabel w_moveActor w_moveFrom w_moveTo w_csz w_clt w_cle w_ssz w_slt w_sle) (F_R_readItem N r_text r_length r_place r_start r_kind r_value w_states w_moveCount w_stateLabel w_moveActor w_moveFrom w_moveTo) (fun o => some (.int o.1)) (fun o => (HRW r_text r_length o.2.1 o.2.2.1 o.2.2.2.1 o.2.2.2.2.1 o.2.2.2.2.2.1 o.2.2.2.2.2.2.1 o.2.2.2.2.2.2.2.1 o.2.2.2.2.2.2.2.2.1 o.2.2.2.2.2.2.2.2.2.1 o.2.2.2.2.2.2.2.2.2.2 w_csz w_clt w_cle w_ssz w_slt w_sle)) := by
  intro l P hs
  refine g_ofG 3 (by decide +kernel) rfl (Nat.le_of_ble_eq_true rfl) (fun X hX => ?_)
  unfold F_R_readItem at hs
  refine g_loc (L2 := [(0, .ref 0), (1, .ref 2)]) [0, 1] rfl ?_
  refine g_blk 6 [(.aload_n 0, 0, 0, 0, 0), (.getfield 45, 3, 4, 0, 0), (.bipush 115, 0, 0, 115, 0)] [] [(0, .ref 0), (1, .ref 2)] [.int (115 : Int32), .int r_kind] (HRW r_text r_length r_place r_start r_kind r_value w_states w_moveCount w_stateLabel w_moveActor w_moveFrom w_moveTo w_csz w_clt w_cle w_ssz w_slt w_sle) (by decide +kernel) rfl g_nil ?_
  refine g_brn 23 (.if_icmp .ne 17) (r_kind = (115 : Int32)) [] (by decide +kernel) rfl (fun c1 => ?_) (fun c1 => ?_)
  · have hs := g_sat_f hs c1
    refine g_blk 29 [(.aload_n 0, 0, 0, 0, 0), (.getfield 45, 3, 4, 0, 0), (.bipush 109, 0, 0, 109, 0)] [] [(0, .ref 0), (1, .ref 2)] [.int (109 : Int32), .int r_kind] (HRW r_text r_length r_place r_start r_kind r_value w_states w_moveCount w_stateLabel w_moveActor w_moveFrom w_moveTo w_csz w_clt w_cle w_ssz w_slt w_sle) (by decide +kernel) rfl g_nil ?_
    refine g_brn 47 (.if_icmp .ne 18) (r_kind = (109 : Int32)) [] (by decide +kernel) rfl (fun c2 => ?_) (fun c2 => ?_)
    · have hs := g_sat_f hs c2
      refine g_blk 51 [(.aload_n 0, 0, 0, 0, 0), (.getfield 64, 3, 3, 0, 0)] [] [(0, .ref 0), (1, .ref 2)] [.int r_start] (HRW r_text r_length r_place r_start r_kind r_value w_states w_moveCount w_stateLabel w_moveActor w_moveFrom w_moveTo w_csz w_clt w_cle w_ssz w_slt w_sle) (by decide +kernel) rfl g_nil ?_
      have hq := g_sat_s hs
      exact g_iret hX (by decide +kernel) rfl hq
    · have hs := g_sat_t hs c2
      refine g_blk 38 [(.aload_n 1, 0, 0, 0, 0), (.getfield 58, 5, 1, 0, 0), (.bipush 10, 0, 0, 10, 0)] [] [(0, .ref 0), (1, .ref 2)] [.int (10 : Int32), .int w_moveCount] (HRW r_text r_length r_place r_start r_kind r_value w_states w_moveCount w_stateLabel w_moveActor w_moveFrom w_moveTo w_csz w_clt w_cle w_ssz w_slt w_sle) (by decide +kernel) rfl g_nil ?_
      refine g_br 47 (.if_icmp .ge 9) ((10 : Int32) ≤ w_moveCount) [] (by decide +kernel) rfl (fun c3 => ?_) (fun c3 => ?_)
      · have hs := g_sat_t hs c3
        refine g_blk 51 [(.aload_n 0, 0, 0, 0, 0), (.getfield 64, 3, 3, 0, 0)] [] [(0, .ref 0), (1, .ref 2)] [.int r_start] (HRW r_text r_length r_place r_start r_kind r_value w_states w_moveCount w_stateLabel w_moveActor w_moveFrom w_moveTo w_csz w_clt w_cle w_ssz w_slt w_sle) (by decide +kernel) rfl g_nil ?_
        have hq := g_sat_s hs
        exact g_iret hX (by decide +kernel) rfl hq
      · have hs := g_sat_f hs c3
        refine g_blk 43 [(.aload_n 0, 0, 0, 0, 0), (.aload_n 1, 0, 0, 0, 0)] [] [(0, .ref 0), (1, .ref 2)] [.ref 2, .ref 0] (HRW r_text r_length r_place r_start r_kind r_value w_states w_moveCount w_stateLabel w_moveActor w_moveFrom w_moveTo w_csz w_clt w_cle w_ssz w_slt w_sle) (by decide +kernel) rfl g_nil ?_
        refine g_fM (ct_R_readMove N r_text r_length r_place r_start r_kind r_value w_states w_moveCount w_stateLabel w_moveActor w_moveFrom w_moveTo w_csz w_clt w_cle w_ssz w_slt w_sle) 61 true 1 lk_3_61 (by decide +kernel) rfl ⟨rfl, rfl, by decide, by decide⟩ [] rfl (Nat.le_of_ble_eq_true rfl) (fun _ => ⟨0, 3, _, rfl, rfl, by decide, rfl⟩) hs (fun o4 hs => ?_)
        have hq := g_sat_s hs
        exact g_iret hX (by decide +kernel) rfl hq
  · have hs := g_sat_t hs c1
    refine g_blk 14 [(.aload_n 1, 0, 0, 0, 0), (.getfield 52, 5, 0, 0, 0), (.iconst 5, 0, 0, 5, 0)] [] [(0, .ref 0), (1, .ref 2)] [.int (5 : Int32), .int w_states] (HRW r_text r_length r_place r_start r_kind r_value w_states w_moveCount w_stateLabel w_moveActor w_moveFrom w_moveTo w_csz w_clt w_cle w_ssz w_slt w_sle) (by decide +kernel) rfl g_nil ?_
    refine g_br 23 (.if_icmp .ge 9) ((5 : Int32) ≤ w_states) [] (by decide +kernel) rfl (fun c5 => ?_) (fun c5 => ?_)
    · have hs := g_sat_t hs c5
      refine g_blk 29 [(.aload_n 0, 0, 0, 0, 0), (.getfield 45, 3, 4, 0, 0), (.bipush 109, 0, 0, 109, 0)] [] [(0, .ref 0), (1, .ref 2)] [.int (109 : Int32), .int r_kind] (HRW r_text r_length r_place r_start r_kind r_value w_states w_moveCount w_stateLabel w_moveActor w_moveFrom w_moveTo w_csz w_clt w_cle w_ssz w_slt w_sle) (by decide +kernel) rfl g_nil ?_
      refine g_brn 47 (.if_icmp .ne 18) (r_kind = (109 : Int32)) [] (by decide +kernel) rfl (fun c6 => ?_) (fun c6 => ?_)
      · have hs := g_sat_f hs c6
        refine g_blk 51 [(.aload_n 0, 0, 0, 0, 0), (.getfield 64, 3, 3, 0, 0)] [] [(0, .ref 0), (1, .ref 2)] [.int r_start] (HRW r_text r_length r_place r_start r_kind r_value w_states w_moveCount w_stateLabel w_moveActor w_moveFrom w_moveTo w_csz w_clt w_cle w_ssz w_slt w_sle) (by decide +kernel) rfl g_nil ?_
        have hq := g_sat_s hs
        exact g_iret hX (by decide +kernel) rfl hq
      · have hs := g_sat_t hs c6
        refine g_blk 38 [(.aload_n 1, 0, 0, 0, 0), (.getfield 58, 5, 1, 0, 0), (.bipush 10, 0, 0, 10, 0)] [] [(0, .ref 0), (1, .ref 2)] [.int (10 : Int32), .int w_moveCount] (HRW r_text r_length r_place r_start r_kind r_value w_states w_moveCount w_stateLabel w_moveActor w_moveFrom w_moveTo w_csz w_clt w_cle w_ssz w_slt w_sle) (by decide +kernel) rfl g_nil ?_
        refine g_br 47 (.if_icmp .ge 9) ((10 : Int32) ≤ w_moveCount) [] (by decide +kernel) rfl (fun c7 => ?_) (fun c7 => ?_)
        · have hs := g_sat_t hs c7
          refine g_blk 51 [(.aload_n 0, 0, 0, 0, 0), (.getfield 64, 3, 3, 0, 0)] [] [(0, .ref 0), (1, .ref 2)] [.int r_start] (HRW r_text r_length r_place r_start r_kind r_value w_states w_moveCount w_stateLabel w_moveActor w_moveFrom w_moveTo w_csz w_clt w_cle w_ssz w_slt w_sle) (by decide +kernel) rfl g_nil ?_
          have hq := g_sat_s hs
          exact g_iret hX (by decide +kernel) rfl hq
        · have hs := g_sat_f hs c7
          refine g_blk 43 [(.aload_n 0, 0, 0, 0, 0), (.aload_n 1, 0, 0, 0, 0)] [] [(0, .ref 0), (1, .ref 2)] [.ref 2, .ref 0] (HRW r_text r_length r_place r_start r_kind r_value w_states w_moveCount w_stateLabel w_moveActor w_moveFrom w_moveTo w_csz w_clt w_cle w_ssz w_slt w_sle) (by decide +kernel) rfl g_nil ?_
          refine g_fM (ct_R_readMove N r_text r_length r_place r_start r_kind r_value w_states w_moveCount w_stateLabel w_moveActor w_moveFrom w_moveTo w_csz w_clt w_cle w_ssz w_slt w_sle) 61 true 1 lk_3_61 (by decide +kernel) rfl ⟨rfl, rfl, by decide, by decide⟩ [] rfl (Nat.le_of_ble_eq_true rfl) (fun _ => ⟨0, 3, _, rfl, rfl, by decide, rfl⟩) hs (fun o8 hs => ?_)
          have hq := g_sat_s hs
          exact g_iret hX (by decide +kernel) rfl hq
    · have hs := g_sat_f hs c5
      refine g_blk 19 [(.aload_n 0, 0, 0, 0, 0), (.aload_n 1, 0, 0, 0, 0)] [] [(0, .ref 0), (1, .ref 2)] [.ref 2, .ref 0] (HRW r_text r_length r_place r_start r_kind r_value w_states w_moveCount w_stateLabel w_moveActor w_moveFrom w_moveTo w_csz w_clt w_cle w_ssz w_slt w_sle) (by decide +kernel) rfl g_nil ?_
      refine g_fM (ct_R_readState N r_text r_length r_place r_start r_kind r_value w_states w_moveCount w_stateLabel w_moveActor w_moveFrom w_moveTo w_csz w_clt w_cle w_ssz w_slt w_sle) 55 true 1 lk_3_55 (by decide +kernel) rfl ⟨rfl, rfl, by decide, by decide⟩ [] rfl (Nat.le_of_ble_eq_true rfl) (fun _ => ⟨0, 3, _, rfl, rfl, by decide, rfl⟩) hs (fun o9 hs => ?_)
      have hq := g_sat_s hs
      exact g_iret hX (by decide +kernel) rfl hq
abbrev HRaW (r_text : Nat → Int32) (r_length : Int32) (r_place : Int32) (r_start : Int32) (r_kind : Int32) (r_value : Int32) (a_row : Nat → Int32) (w_states : Int32) (w_moveCount : Int32) (w_stateLabel : Nat → Int32) (w_moveActor : Nat → Int32) (w_moveFrom : Nat → Int32) (w_moveTo : Nat → Int32) (w_csz : Int32) (w_clt : Int32) (w_cle : Nat → Int32) (w_ssz : Nat → Int32) (w_slt : Nat → Int32) (w_sle : Nat → Nat → Int32) : List g_E := [.inr (3, [.ref 1, .int r_length, .int r_place, .int r_start, .int r_kind, .int r_value]), .inl (.int, 120, .inl r_text), .inl (.int, 120, .inl a_row), .inr (5, [.int w_states, .int w_moveCount, .ref 4, .ref 5, .ref 6, .ref 7, .ref 8, .ref 10]), .inl (.int, 5, .inl w_stateLabel), .inl (.int, 10, .inl w_moveActor), .inl (.int, 10, .inl w_moveFrom), .inl (.int, 10, .inl w_moveTo), .inr (0, [.ref 9, .int w_csz, .int w_clt]), .inl (.int, 16, .inl w_cle), .inl (.object "LassoPaths$Formula", 3, .inr (.inr (.inr (.inr (g_rl [11, 13, 15]))))), .inr (0, [.ref 12, .int (w_ssz 0), .int (w_slt 0)]), .inl (.int, 16, .inl (w_sle 0)), .inr (0, [.ref 14, .int (w_ssz 1), .int (w_slt 1)]), .inl (.int, 16, .inl (w_sle 1)), .inr (0, [.ref 16, .int (w_ssz 2), .int (w_slt 2)]), .inl (.int, 16, .inl (w_sle 2))]
theorem HRaW_rn (f : Nat → Nat) (r_text : Nat → Int32) (r_length : Int32) (r_place : Int32) (r_start : Int32) (r_kind : Int32) (r_value : Int32) (a_row : Nat → Int32) (w_states : Int32) (w_moveCount : Int32) (w_stateLabel : Nat → Int32) (w_moveActor : Nat → Int32) (w_moveFrom : Nat → Int32) (w_moveTo : Nat → Int32) (w_csz : Int32) (w_clt : Int32) (w_cle : Nat → Int32) (w_ssz : Nat → Int32) (w_slt : Nat → Int32) (w_sle : Nat → Nat → Int32) : (HRaW r_text r_length r_place r_start r_kind r_value a_row w_states w_moveCount w_stateLabel w_moveActor w_moveFrom w_moveTo w_csz w_clt w_cle w_ssz w_slt w_sle).map (g_rnE f) = [.inr (3, [.ref (f 1), .int r_length, .int r_place, .int r_start, .int r_kind, .int r_value]), .inl (.int, 120, .inl r_text), .inl (.int, 120, .inl a_row), .inr (5, [.int w_states, .int w_moveCount, .ref (f 4), .ref (f 5), .ref (f 6), .ref (f 7), .ref (f 8), .ref (f 10)]), .inl (.int, 5, .inl w_stateLabel), .inl (.int, 10, .inl w_moveActor), .inl (.int, 10, .inl w_moveFrom), .inl (.int, 10, .inl w_moveTo), .inr (0, [.ref (f 9), .int w_csz, .int w_clt]), .inl (.int, 16, .inl w_cle), .inl (.object "LassoPaths$Formula", 3, .inr (.inr (.inr (.inr (g_rl [f 11, f 13, f 15]))))), .inr (0, [.ref (f 12), .int (w_ssz 0), .int (w_slt 0)]), .inl (.int, 16, .inl (w_sle 0)), .inr (0, [.ref (f 14), .int (w_ssz 1), .int (w_slt 1)]), .inl (.int, 16, .inl (w_sle 1)), .inr (0, [.ref (f 16), .int (w_ssz 2), .int (w_slt 2)]), .inl (.int, 16, .inl (w_sle 2))] := by
  simp only [HRaW, List.map_cons, List.map_nil, g_rn_rl]
  rfl
abbrev rm_R_read : Room := { frames := 6, cells := 0, slots := 0, locals := 127 }
def R_read_l1 (N : Nat) (a_row : Nat → Int32) (r_text : Nat → Int32) (a2 : Int32) : Nat → Int32 → Int32 → Int32 → Int32 → Int32 → Int32 → Int32 → Int32 → (Nat → Int32) → (Nat → Int32) → (Nat → Int32) → (Nat → Int32) → Option ((Int32 × (Nat → Int32) × Int32 × Int32 × Int32 × Int32 × Int32 × Int32 × Int32 × (Nat → Int32) × (Nat → Int32) × (Nat → Int32) × (Nat → Int32)) ⊕ (Int32 × Int32 × Int32 × Int32 × Int32 × Int32 × Int32 × (Nat → Int32) × (Nat → Int32) × (Nat → Int32) × (Nat → Int32)))
  | 0, _, _, _, _, _, _, _, _, _, _, _, _ => none
  | n + 1, b4_3, b5_4, w_place_5, w_start_6, w_kind_7, w_value_8, w_states_9, w_moveCount_10, w_stateLabel_11, w_moveActor_12, w_moveFrom_13, w_moveTo_14 => (if (120 : Int32) < b5_4 then (some (.inr (b4_3, w_place_5, w_start_6, w_kind_7, w_value_8, w_states_9, w_moveCount_10, w_stateLabel_11, w_moveActor_12, w_moveFrom_13, w_moveTo_14))) else (if b4_3 = (-1 : Int32) then ((F_R_advance N (va_cpy a_row r_text 0 0 ((g_imax (0 : Int32) (g_imin a2 (g_imin (120 : Int32) (120 : Int32))))).toNatClampNeg) (g_imax (0 : Int32) (g_imin a2 (g_imin (120 : Int32) (120 : Int32)))) w_place_5 w_value_8).bind fun o18 => (if o18.2.2.1 = (-1 : Int32) then (some (.inl ((-1 : Int32), (va_cpy a_row r_text 0 0 ((g_imax (0 : Int32) (g_imin a2 (g_imin (120 : Int32) (120 : Int32))))).toNatClampNeg), (g_imax (0 : Int32) (g_imin a2 (g_imin (120 : Int32) (120 : Int32)))), o18.1, o18.2.1, o18.2.2.1, o18.2.2.2, w_states_9, w_moveCount_10, w_stateLabel_11, w_moveActor_12, w_moveFrom_13, w_moveTo_14))) else ((F_R_readItem N (va_cpy a_row r_text 0 0 ((g_imax (0 : Int32) (g_imin a2 (g_imin (120 : Int32) (120 : Int32))))).toNatClampNeg) (g_imax (0 : Int32) (g_imin a2 (g_imin (120 : Int32) (120 : Int32)))) o18.1 o18.2.1 o18.2.2.1 o18.2.2.2 w_states_9 w_moveCount_10 w_stateLabel_11 w_moveActor_12 w_moveFrom_13 w_moveTo_14).bind fun o20 => (R_read_l1 N a_row r_text a2 n o20.1 (b5_4 + (1 : Int32)) o20.2.1 o20.2.2.1 o20.2.2.2.1 o20.2.2.2.2.1 o20.2.2.2.2.2.1 o20.2.2.2.2.2.2.1 o20.2.2.2.2.2.2.2.1 o20.2.2.2.2.2.2.2.2.1 o20.2.2.2.2.2.2.2.2.2.1 o20.2.2.2.2.2.2.2.2.2.2)))) else (some (.inr (b4_3, w_place_5, w_start_6, w_kind_7, w_value_8, w_states_9, w_moveCount_10, w_stateLabel_11, w_moveActor_12, w_moveFrom_13, w_moveTo_14)))))
theorem R_read_l1_s (N : Nat) (a_row : Nat → Int32) (r_text : Nat → Int32) (a2 : Int32) (n : Nat) (b4_3 : Int32) (b5_4 : Int32) (w_place_5 : Int32) (w_start_6 : Int32) (w_kind_7 : Int32) (w_value_8 : Int32) (w_states_9 : Int32) (w_moveCount_10 : Int32) (w_stateLabel_11 : Nat → Int32) (w_moveActor_12 : Nat → Int32) (w_moveFrom_13 : Nat → Int32) (w_moveTo_14 : Nat → Int32) : R_read_l1 N a_row r_text a2 (n + 1) b4_3 b5_4 w_place_5 w_start_6 w_kind_7 w_value_8 w_states_9 w_moveCount_10 w_stateLabel_11 w_moveActor_12 w_moveFrom_13 w_moveTo_14 = (if (120 : Int32) < b5_4 then (some (.inr (b4_3, w_place_5, w_start_6, w_kind_7, w_value_8, w_states_9, w_moveCount_10, w_stateLabel_11, w_moveActor_12, w_moveFrom_13, w_moveTo_14))) else (if b4_3 = (-1 : Int32) then ((F_R_advance N (va_cpy a_row r_text 0 0 ((g_imax (0 : Int32) (g_imin a2 (g_imin (120 : Int32) (120 : Int32))))).toNatClampNeg) (g_imax (0 : Int32) (g_imin a2 (g_imin (120 : Int32) (120 : Int32)))) w_place_5 w_value_8).bind fun o18 => (if o18.2.2.1 = (-1 : Int32) then (some (.inl ((-1 : Int32), (va_cpy a_row r_text 0 0 ((g_imax (0 : Int32) (g_imin a2 (g_imin (120 : Int32) (120 : Int32))))).toNatClampNeg), (g_imax (0 : Int32) (g_imin a2 (g_imin (120 : Int32) (120 : Int32)))), o18.1, o18.2.1, o18.2.2.1, o18.2.2.2, w_states_9, w_moveCount_10, w_stateLabel_11, w_moveActor_12, w_moveFrom_13, w_moveTo_14))) else ((F_R_readItem N (va_cpy a_row r_text 0 0 ((g_imax (0 : Int32) (g_imin a2 (g_imin (120 : Int32) (120 : Int32))))).toNatClampNeg) (g_imax (0 : Int32) (g_imin a2 (g_imin (120 : Int32) (120 : Int32)))) o18.1 o18.2.1 o18.2.2.1 o18.2.2.2 w_states_9 w_moveCount_10 w_stateLabel_11 w_moveActor_12 w_moveFrom_13 w_moveTo_14).bind fun o20 => (R_read_l1 N a_row r_text a2 n o20.1 (b5_4 + (1 : Int32)) o20.2.1 o20.2.2.1 o20.2.2.2.1 o20.2.2.2.2.1 o20.2.2.2.2.2.1 o20.2.2.2.2.2.2.1 o20.2.2.2.2.2.2.2.1 o20.2.2.2.2.2.2.2.2.1 o20.2.2.2.2.2.2.2.2.2.1 o20.2.2.2.2.2.2.2.2.2.2)))) else (some (.inr (b4_3, w_place_5, w_start_6, w_kind_7, w_value_8, w_states_9, w_moveCount_10, w_stateLabel_11, w_moveActor_12, w_moveFrom_13, w_moveTo_14))))) := rfl
def F_R_read (N : Nat) (r_text : Nat → Int32) (r_start : Int32) (r_kind : Int32) (r_value : Int32) (a_row : Nat → Int32) (w_stateLabel : Nat → Int32) (w_moveActor : Nat → Int32) (w_moveFrom : Nat → Int32) (w_moveTo : Nat → Int32) (a2 : Int32) : Option (Int32 × (Nat → Int32) × Int32 × Int32 × Int32 × Int32 × Int32 × Int32 × Int32 × (Nat → Int32) × (Nat → Int32) × (Nat → Int32) × (Nat → Int32)) := (g_chk (decide (¬ (0 : Int32) < 0 ∧ ¬ (0 : Int32) < 0 ∧ ¬ (g_imax (0 : Int32) (g_imin a2 (g_imin (120 : Int32) (120 : Int32)))) < 0 ∧ (0 : Int32).toNatClampNeg + (g_imax (0 : Int32) (g_imin a2 (g_imin (120 : Int32) (120 : Int32)))).toNatClampNeg ≤ 120 ∧ (0 : Int32).toNatClampNeg + (g_imax (0 : Int32) (g_imin a2 (g_imin (120 : Int32) (120 : Int32)))).toNatClampNeg ≤ 120)) (F_W_emptySystem.bind fun o2 => (g_el (fun a => a) (R_read_l1 N a_row r_text a2 N (-1 : Int32) (0 : Int32) (0 : Int32) r_start r_kind r_value o2.1 o2.2 w_stateLabel w_moveActor w_moveFrom w_moveTo) (fun o15 => (some (o15.1, (va_cpy a_row r_text 0 0 ((g_imax (0 : Int32) (g_imin a2 (g_imin (120 : Int32) (120 : Int32))))).toNatClampNeg), (g_imax (0 : Int32) (g_imin a2 (g_imin (120 : Int32) (120 : Int32)))), o15.2.1, o15.2.2.1, o15.2.2.2.1, o15.2.2.2.2.1, o15.2.2.2.2.2.1, o15.2.2.2.2.2.2.1, o15.2.2.2.2.2.2.2.1, o15.2.2.2.2.2.2.2.2.1, o15.2.2.2.2.2.2.2.2.2.1, o15.2.2.2.2.2.2.2.2.2.2))))))
set_option maxRecDepth 100000 in
theorem ct_R_read (N : Nat) (r_text : Nat → Int32) (r_length : Int32) (r_place : Int32) (r_start : Int32) (r_kind : Int32) (r_value : Int32) (a_row : Nat → Int32) (w_states : Int32) (w_moveCount : Int32) (w_stateLabel : Nat → Int32) (w_moveActor : Nat → Int32) (w_moveFrom : Nat → Int32) (w_moveTo : Nat → Int32) (w_csz : Int32) (w_clt : Int32) (w_cle : Nat → Int32) (w_ssz : Nat → Int32) (w_slt : Nat → Int32) (w_sle : Nat → Nat → Int32) (a2 : Int32) : g_F y_R_read c_R_read 6 (some .int) rm_R_read [.ref 0, .ref 2, .int a2, .ref 3] (HRaW r_text r_length r_place r_start r_kind r_value a_row w_states w_moveCount w_stateLabel w_moveActor w_moveFrom w_moveTo w_csz w_clt w_cle w_ssz w_slt w_sle) (F_R_read N r_text r_start r_kind r_value a_row w_stateLabel w_moveActor w_moveFrom w_moveTo a2) (fun o => some (.int o.1)) (fun o => (HRaW o.2.1 o.2.2.1 o.2.2.2.1 o.2.2.2.2.1 o.2.2.2.2.2.1 o.2.2.2.2.2.2.1 a_row o.2.2.2.2.2.2.2.1 o.2.2.2.2.2.2.2.2.1 o.2.2.2.2.2.2.2.2.2.1 o.2.2.2.2.2.2.2.2.2.2.1 o.2.2.2.2.2.2.2.2.2.2.2.1 o.2.2.2.2.2.2.2.2.2.2.2.2 w_csz w_clt w_cle w_ssz w_slt w_sle)) := by
  intro l P hs
  refine g_ofG 3 (by decide +kernel) rfl (Nat.le_of_ble_eq_true rfl) (fun X hX => ?_)
  unfold F_R_read at hs
  refine g_loc (L2 := [(0, .ref 0), (1, .ref 2), (2, .int a2), (3, .ref 3)]) [0, 1, 2, 3] rfl ?_
  obtain ⟨h1, hs⟩ := g_sat_c hs
  refine g_blk 39 [(.aload_n 0, 0, 0, 0, 0), (.iconst 0, 0, 0, 0, 0), (.iload_n 2, 0, 0, 0, 0), (.aload_n 1, 0, 0, 0, 0), (.arraylength, 0, 0, 0, 0), (.bipush 120, 0, 0, 120, 0), (.invokestatic 15, 1, 0, 0, 0), (.invokestatic 15, 1, 0, 0, 0), (.invokestatic 21, 2, 0, 0, 0), (.putfield 24, 3, 1, 1, 0), (.aload_n 1, 0, 0, 0, 0), (.iconst 0, 0, 0, 0, 0), (.aload_n 0, 0, 0, 0, 0), (.getfield 9, 3, 0, 0, 0), (.iconst 0, 0, 0, 0, 0), (.aload_n 0, 0, 0, 0, 0), (.getfield 24, 3, 1, 0, 0), (.invokestatic 28, 3, 0, 0, 0), (.aload_n 0, 0, 0, 0, 0), (.iconst 0, 0, 0, 0, 0), (.putfield 34, 3, 2, 1, 0), (.aload_n 3, 0, 0, 0, 0)] [1 ≤ rm_R_read.frames ∧ (([.int a2, .int (0 : Int32), .ref 0] : List Value).map fun v => v.category).sum + 13 ≤ rm_R_read.locals, 1 ≤ rm_R_read.frames ∧ (([.int (0 : Int32), .ref 0] : List Value).map fun v => v.category).sum + 13 ≤ rm_R_read.locals, 1 ≤ rm_R_read.frames ∧ (([.ref 0] : List Value).map fun v => v.category).sum + 13 ≤ rm_R_read.locals, 1 ≤ rm_R_read.frames ∧ (([] : List Value).map fun v => v.category).sum + (nativeFrameWords "java/lang/System" "arraycopy" 5 + 11) ≤ rm_R_read.locals, ¬ (0 : Int32) < 0 ∧ ¬ (0 : Int32) < 0 ∧ ¬ (g_imax (0 : Int32) (g_imin a2 (g_imin (120 : Int32) (120 : Int32)))) < 0 ∧ (0 : Int32).toNatClampNeg + (g_imax (0 : Int32) (g_imin a2 (g_imin (120 : Int32) (120 : Int32)))).toNatClampNeg ≤ 120 ∧ (0 : Int32).toNatClampNeg + (g_imax (0 : Int32) (g_imin a2 (g_imin (120 : Int32) (120 : Int32)))).toNatClampNeg ≤ 120] [(0, .ref 0), (1, .ref 2), (2, .int a2), (3, .ref 3)] [.ref 3] (HRaW (va_cpy a_row r_text 0 0 ((g_imax (0 : Int32) (g_imin a2 (g_imin (120 : Int32) (120 : Int32))))).toNatClampNeg) (g_imax (0 : Int32) (g_imin a2 (g_imin (120 : Int32) (120 : Int32)))) (0 : Int32) r_start r_kind r_value a_row w_states w_moveCount w_stateLabel w_moveActor w_moveFrom w_moveTo w_csz w_clt w_cle w_ssz w_slt w_sle) (by decide +kernel) rfl (g_and ⟨by decide, Nat.le_of_ble_eq_true rfl⟩ (g_and ⟨by decide, Nat.le_of_ble_eq_true rfl⟩ (g_and ⟨by decide, Nat.le_of_ble_eq_true rfl⟩ (g_and ⟨by decide, Nat.le_of_ble_eq_true (by decide +kernel)⟩ (g_and (of_decide_eq_true h1) g_nil))))) ?_
  refine g_fP (ct_W_emptySystem w_states w_moveCount w_stateLabel w_moveActor w_moveFrom w_moveTo w_csz w_clt w_cle w_ssz w_slt w_sle) 37 true 0 lk_3_37 (by decide +kernel) rfl ⟨rfl, rfl, by decide, by decide⟩ [3, 4, 5, 6, 7, 8, 9, 10, 11, 12, 13, 14, 15, 16] [] rfl (Nat.le_of_ble_eq_true rfl) (by decide +kernel) (by rw [HW_rn]; rfl) (fun _ => ⟨0, 5, _, rfl, rfl, by decide, rfl⟩) hs (fun o2 hs => ?_)
  refine g_hp (hp2 := (HRaW (va_cpy a_row r_text 0 0 ((g_imax (0 : Int32) (g_imin a2 (g_imin (120 : Int32) (120 : Int32))))).toNatClampNeg) (g_imax (0 : Int32) (g_imin a2 (g_imin (120 : Int32) (120 : Int32)))) (0 : Int32) r_start r_kind r_value a_row o2.1 o2.2 w_stateLabel w_moveActor w_moveFrom w_moveTo w_csz w_clt w_cle w_ssz w_slt w_sle)) (by rw [HW_rn]; rfl) ?_
  refine g_blk 48 [(.iconst (-1), 0, 0, (-1), 0), (.istore 4, 0, 0, 0, 0), (.iconst 0, 0, 0, 0, 0), (.istore 5, 0, 0, 0, 0)] [] [(5, .int (0 : Int32)), (4, .int (-1 : Int32)), (0, .ref 0), (1, .ref 2), (2, .int a2), (3, .ref 3)] [] (HRaW (va_cpy a_row r_text 0 0 ((g_imax (0 : Int32) (g_imin a2 (g_imin (120 : Int32) (120 : Int32))))).toNatClampNeg) (g_imax (0 : Int32) (g_imin a2 (g_imin (120 : Int32) (120 : Int32)))) (0 : Int32) r_start r_kind r_value a_row o2.1 o2.2 w_stateLabel w_moveActor w_moveFrom w_moveTo w_csz w_clt w_cle w_ssz w_slt w_sle) (by decide +kernel) rfl g_nil ?_
  refine g_loc (L2 := [(0, .ref 0), (3, .ref 3), (4, .int (-1 : Int32)), (5, .int (0 : Int32))]) [2, 5, 1, 0] rfl ?_
  refine g_joinE (fun (o15 : Int32 × Int32 × Int32 × Int32 × Int32 × Int32 × Int32 × (Nat → Int32) × (Nat → Int32) × (Nat → Int32) × (Nat → Int32)) => g_G X rm_R_read c_R_read 6 3 (some .int) 88 [(4, .int o15.1)] [] (HRaW (va_cpy a_row r_text 0 0 ((g_imax (0 : Int32) (g_imin a2 (g_imin (120 : Int32) (120 : Int32))))).toNatClampNeg) (g_imax (0 : Int32) (g_imin a2 (g_imin (120 : Int32) (120 : Int32)))) o15.2.1 o15.2.2.1 o15.2.2.2.1 o15.2.2.2.2.1 a_row o15.2.2.2.2.2.1 o15.2.2.2.2.2.2.1 o15.2.2.2.2.2.2.2.1 o15.2.2.2.2.2.2.2.2.1 o15.2.2.2.2.2.2.2.2.2.1 o15.2.2.2.2.2.2.2.2.2.2 w_csz w_clt w_cle w_ssz w_slt w_sle)) hs (fun o15 hs => ?_) (fun GPR_read_l1 hretR_read_l1 hexR_read_l1 hs => ?_)
  · refine g_blk 90 [(.iload 4, 0, 0, 0, 0)] [] [(4, .int o15.1)] [.int o15.1] (HRaW (va_cpy a_row r_text 0 0 ((g_imax (0 : Int32) (g_imin a2 (g_imin (120 : Int32) (120 : Int32))))).toNatClampNeg) (g_imax (0 : Int32) (g_imin a2 (g_imin (120 : Int32) (120 : Int32)))) o15.2.1 o15.2.2.1 o15.2.2.2.1 o15.2.2.2.2.1 a_row o15.2.2.2.2.2.1 o15.2.2.2.2.2.2.1 o15.2.2.2.2.2.2.2.1 o15.2.2.2.2.2.2.2.2.1 o15.2.2.2.2.2.2.2.2.2.1 o15.2.2.2.2.2.2.2.2.2.2 w_csz w_clt w_cle w_ssz w_slt w_sle) (by decide +kernel) rfl g_nil ?_
    have hq := g_sat_s hs
    exact g_iret hX (by decide +kernel) rfl hq
  · have hlR_read_l1 : ∀ (n : Nat) (b4_3 : Int32) (b5_4 : Int32) (w_place_5 : Int32) (w_start_6 : Int32) (w_kind_7 : Int32) (w_value_8 : Int32) (w_states_9 : Int32) (w_moveCount_10 : Int32) (w_stateLabel_11 : Nat → Int32) (w_moveActor_12 : Nat → Int32) (w_moveFrom_13 : Nat → Int32) (w_moveTo_14 : Nat → Int32), g_sat (R_read_l1 N a_row r_text a2 n b4_3 b5_4 w_place_5 w_start_6 w_kind_7 w_value_8 w_states_9 w_moveCount_10 w_stateLabel_11 w_moveActor_12 w_moveFrom_13 w_moveTo_14) GPR_read_l1 → g_G X rm_R_read c_R_read 6 3 (some .int) 48 [(0, .ref 0), (3, .ref 3), (4, .int b4_3), (5, .int b5_4)] [] (HRaW (va_cpy a_row r_text 0 0 ((g_imax (0 : Int32) (g_imin a2 (g_imin (120 : Int32) (120 : Int32))))).toNatClampNeg) (g_imax (0 : Int32) (g_imin a2 (g_imin (120 : Int32) (120 : Int32)))) w_place_5 w_start_6 w_kind_7 w_value_8 a_row w_states_9 w_moveCount_10 w_stateLabel_11 w_moveActor_12 w_moveFrom_13 w_moveTo_14 w_csz w_clt w_cle w_ssz w_slt w_sle) := by
      intro n
      induction n with
      | zero =>
        intro b4_3 b5_4 w_place_5 w_start_6 w_kind_7 w_value_8 w_states_9 w_moveCount_10 w_stateLabel_11 w_moveActor_12 w_moveFrom_13 w_moveTo_14 hs
        obtain ⟨_, h0, _⟩ := hs
        cases h0
      | succ n ih =>
        intro b4_3 b5_4 w_place_5 w_start_6 w_kind_7 w_value_8 w_states_9 w_moveCount_10 w_stateLabel_11 w_moveActor_12 w_moveFrom_13 w_moveTo_14 hs
        rw [R_read_l1_s] at hs
        refine g_blk 52 [(.iload 5, 0, 0, 0, 0), (.bipush 120, 0, 0, 120, 0)] [] [(0, .ref 0), (3, .ref 3), (4, .int b4_3), (5, .int b5_4)] [.int (120 : Int32), .int b5_4] (HRaW (va_cpy a_row r_text 0 0 ((g_imax (0 : Int32) (g_imin a2 (g_imin (120 : Int32) (120 : Int32))))).toNatClampNeg) (g_imax (0 : Int32) (g_imin a2 (g_imin (120 : Int32) (120 : Int32)))) w_place_5 w_start_6 w_kind_7 w_value_8 a_row w_states_9 w_moveCount_10 w_stateLabel_11 w_moveActor_12 w_moveFrom_13 w_moveTo_14 w_csz w_clt w_cle w_ssz w_slt w_sle) (by decide +kernel) rfl g_nil ?_
        refine g_br 88 (.if_icmp .gt 36) ((120 : Int32) < b5_4) [] (by decide +kernel) rfl (fun c16 => ?_) (fun c16 => ?_)
        · have hs := g_sat_t hs c16
          refine g_loc (L2 := [(4, .int b4_3)]) [2] rfl ?_
          have hq := hexR_read_l1 _ (g_sat_s hs)
          exact hq
        · have hs := g_sat_f hs c16
          refine g_blk 58 [(.iload 4, 0, 0, 0, 0), (.iconst (-1), 0, 0, (-1), 0)] [] [(0, .ref 0), (3, .ref 3), (4, .int b4_3), (5, .int b5_4)] [.int (-1 : Int32), .int b4_3] (HRaW (va_cpy a_row r_text 0 0 ((g_imax (0 : Int32) (g_imin a2 (g_imin (120 : Int32) (120 : Int32))))).toNatClampNeg) (g_imax (0 : Int32) (g_imin a2 (g_imin (120 : Int32) (120 : Int32)))) w_place_5 w_start_6 w_kind_7 w_value_8 a_row w_states_9 w_moveCount_10 w_stateLabel_11 w_moveActor_12 w_moveFrom_13 w_moveTo_14 w_csz w_clt w_cle w_ssz w_slt w_sle) (by decide +kernel) rfl g_nil ?_
          refine g_brn 88 (.if_icmp .ne 30) (b4_3 = (-1 : Int32)) [] (by decide +kernel) rfl (fun c17 => ?_) (fun c17 => ?_)
          · have hs := g_sat_f hs c17
            refine g_loc (L2 := [(4, .int b4_3)]) [2] rfl ?_
            have hq := hexR_read_l1 _ (g_sat_s hs)
            exact hq
          · have hs := g_sat_t hs c17
            refine g_blk 62 [(.aload_n 0, 0, 0, 0, 0)] [] [(0, .ref 0), (3, .ref 3), (4, .int b4_3), (5, .int b5_4)] [.ref 0] (HRaW (va_cpy a_row r_text 0 0 ((g_imax (0 : Int32) (g_imin a2 (g_imin (120 : Int32) (120 : Int32))))).toNatClampNeg) (g_imax (0 : Int32) (g_imin a2 (g_imin (120 : Int32) (120 : Int32)))) w_place_5 w_start_6 w_kind_7 w_value_8 a_row w_states_9 w_moveCount_10 w_stateLabel_11 w_moveActor_12 w_moveFrom_13 w_moveTo_14 w_csz w_clt w_cle w_ssz w_slt w_sle) (by decide +kernel) rfl g_nil ?_
            refine g_fP (ct_R_advance N (va_cpy a_row r_text 0 0 ((g_imax (0 : Int32) (g_imin a2 (g_imin (120 : Int32) (120 : Int32))))).toNatClampNeg) (g_imax (0 : Int32) (g_imin a2 (g_imin (120 : Int32) (120 : Int32)))) w_place_5 w_start_6 w_kind_7 w_value_8) 42 true 0 lk_3_42 (by decide +kernel) rfl ⟨rfl, rfl, by decide, by decide⟩ [0, 1] [] rfl (Nat.le_of_ble_eq_true rfl) (by decide +kernel) (by rw [HR_rn]; rfl) (fun _ => ⟨0, 3, _, rfl, rfl, by decide, rfl⟩) hs (fun o18 hs => ?_)
            refine g_hp (hp2 := (HRaW (va_cpy a_row r_text 0 0 ((g_imax (0 : Int32) (g_imin a2 (g_imin (120 : Int32) (120 : Int32))))).toNatClampNeg) (g_imax (0 : Int32) (g_imin a2 (g_imin (120 : Int32) (120 : Int32)))) o18.1 o18.2.1 o18.2.2.1 o18.2.2.2 a_row w_states_9 w_moveCount_10 w_stateLabel_11 w_moveActor_12 w_moveFrom_13 w_moveTo_14 w_csz w_clt w_cle w_ssz w_slt w_sle)) (by rw [HR_rn]; rfl) ?_
            refine g_blk 70 [(.aload_n 0, 0, 0, 0, 0), (.getfield 45, 3, 4, 0, 0), (.iconst (-1), 0, 0, (-1), 0)] [] [(0, .ref 0), (3, .ref 3), (4, .int b4_3), (5, .int b5_4)] [.int (-1 : Int32), .int o18.2.2.1] (HRaW (va_cpy a_row r_text 0 0 ((g_imax (0 : Int32) (g_imin a2 (g_imin (120 : Int32) (120 : Int32))))).toNatClampNeg) (g_imax (0 : Int32) (g_imin a2 (g_imin (120 : Int32) (120 : Int32)))) o18.1 o18.2.1 o18.2.2.1 o18.2.2.2 a_row w_states_9 w_moveCount_10 w_stateLabel_11 w_moveActor_12 w_moveFrom_13 w_moveTo_14 w_csz w_clt w_cle w_ssz w_slt w_sle) (by decide +kernel) rfl g_nil ?_
            refine g_brn 75 (.if_icmp .ne 5) (o18.2.2.1 = (-1 : Int32)) [] (by decide +kernel) rfl (fun c19 => ?_) (fun c19 => ?_)
            · have hs := g_sat_f hs c19
              refine g_blk 77 [(.aload_n 0, 0, 0, 0, 0), (.aload_n 3, 0, 0, 0, 0)] [] [(0, .ref 0), (3, .ref 3), (4, .int b4_3), (5, .int b5_4)] [.ref 3, .ref 0] (HRaW (va_cpy a_row r_text 0 0 ((g_imax (0 : Int32) (g_imin a2 (g_imin (120 : Int32) (120 : Int32))))).toNatClampNeg) (g_imax (0 : Int32) (g_imin a2 (g_imin (120 : Int32) (120 : Int32)))) o18.1 o18.2.1 o18.2.2.1 o18.2.2.2 a_row w_states_9 w_moveCount_10 w_stateLabel_11 w_moveActor_12 w_moveFrom_13 w_moveTo_14 w_csz w_clt w_cle w_ssz w_slt w_sle) (by decide +kernel) rfl g_nil ?_
              refine g_fP (ct_R_readItem N (va_cpy a_row r_text 0 0 ((g_imax (0 : Int32) (g_imin a2 (g_imin (120 : Int32) (120 : Int32))))).toNatClampNeg) (g_imax (0 : Int32) (g_imin a2 (g_imin (120 : Int32) (120 : Int32)))) o18.1 o18.2.1 o18.2.2.1 o18.2.2.2 w_states_9 w_moveCount_10 w_stateLabel_11 w_moveActor_12 w_moveFrom_13 w_moveTo_14 w_csz w_clt w_cle w_ssz w_slt w_sle) 48 true 1 lk_3_48 (by decide +kernel) rfl ⟨rfl, rfl, by decide, by decide⟩ [0, 1, 3, 4, 5, 6, 7, 8, 9, 10, 11, 12, 13, 14, 15, 16] [] rfl (Nat.le_of_ble_eq_true rfl) (by decide +kernel) (by rw [HRW_rn]; rfl) (fun _ => ⟨0, 3, _, rfl, rfl, by decide, rfl⟩) hs (fun o20 hs => ?_)
              refine g_hp (hp2 := (HRaW (va_cpy a_row r_text 0 0 ((g_imax (0 : Int32) (g_imin a2 (g_imin (120 : Int32) (120 : Int32))))).toNatClampNeg) (g_imax (0 : Int32) (g_imin a2 (g_imin (120 : Int32) (120 : Int32)))) o20.2.1 o20.2.2.1 o20.2.2.2.1 o20.2.2.2.2.1 a_row o20.2.2.2.2.2.1 o20.2.2.2.2.2.2.1 o20.2.2.2.2.2.2.2.1 o20.2.2.2.2.2.2.2.2.1 o20.2.2.2.2.2.2.2.2.2.1 o20.2.2.2.2.2.2.2.2.2.2 w_csz w_clt w_cle w_ssz w_slt w_sle)) (by rw [HRW_rn]; rfl) ?_
              refine g_blk 48 [(.istore 4, 0, 0, 0, 0), (.iinc 5 1, 0, 0, 1, 0), (.goto (-37), 0, 0, 0, 0)] [] [(5, .int (b5_4 + (1 : Int32))), (4, .int o20.1), (0, .ref 0), (3, .ref 3)] [] (HRaW (va_cpy a_row r_text 0 0 ((g_imax (0 : Int32) (g_imin a2 (g_imin (120 : Int32) (120 : Int32))))).toNatClampNeg) (g_imax (0 : Int32) (g_imin a2 (g_imin (120 : Int32) (120 : Int32)))) o20.2.1 o20.2.2.1 o20.2.2.2.1 o20.2.2.2.2.1 a_row o20.2.2.2.2.2.1 o20.2.2.2.2.2.2.1 o20.2.2.2.2.2.2.2.1 o20.2.2.2.2.2.2.2.2.1 o20.2.2.2.2.2.2.2.2.2.1 o20.2.2.2.2.2.2.2.2.2.2 w_csz w_clt w_cle w_ssz w_slt w_sle) (by decide +kernel) rfl g_nil ?_
              refine g_loc (L2 := [(0, .ref 0), (3, .ref 3), (4, .int o20.1), (5, .int (b5_4 + (1 : Int32)))]) [2, 3, 1, 0] rfl ?_
              exact ih _ _ _ _ _ _ _ _ _ _ _ _ hs
            · have hs := g_sat_t hs c19
              refine g_blk 74 [(.iconst (-1), 0, 0, (-1), 0)] [] [(0, .ref 0), (3, .ref 3), (4, .int b4_3), (5, .int b5_4)] [.int (-1 : Int32)] (HRaW (va_cpy a_row r_text 0 0 ((g_imax (0 : Int32) (g_imin a2 (g_imin (120 : Int32) (120 : Int32))))).toNatClampNeg) (g_imax (0 : Int32) (g_imin a2 (g_imin (120 : Int32) (120 : Int32)))) o18.1 o18.2.1 o18.2.2.1 o18.2.2.2 a_row w_states_9 w_moveCount_10 w_stateLabel_11 w_moveActor_12 w_moveFrom_13 w_moveTo_14 w_csz w_clt w_cle w_ssz w_slt w_sle) (by decide +kernel) rfl g_nil ?_
              have hq := hretR_read_l1 _ (g_sat_s hs)
              exact g_iret hX (by decide +kernel) rfl hq
    exact hlR_read_l1 N _ _ _ _ _ _ _ _ _ _ _ _ hs
abbrev HWW (w_states : Int32) (w_moveCount : Int32) (w_stateLabel : Nat → Int32) (w_moveActor : Nat → Int32) (w_moveFrom : Nat → Int32) (w_moveTo : Nat → Int32) (w_csz : Int32) (w_clt : Int32) (w_cle : Nat → Int32) (w_ssz : Nat → Int32) (w_slt : Nat → Int32) (w_sle : Nat → Nat → Int32) (x_states : Int32) (x_moveCount : Int32) (x_stateLabel : Nat → Int32) (x_moveActor : Nat → Int32) (x_moveFrom : Nat → Int32) (x_moveTo : Nat → Int32) (x_csz : Int32) (x_clt : Int32) (x_cle : Nat → Int32) (x_ssz : Nat → Int32) (x_slt : Nat → Int32) (x_sle : Nat → Nat → Int32) : List g_E := [.inr (5, [.int w_states, .int w_moveCount, .ref 1, .ref 2, .ref 3, .ref 4, .ref 5, .ref 7]), .inl (.int, 5, .inl w_stateLabel), .inl (.int, 10, .inl w_moveActor), .inl (.int, 10, .inl w_moveFrom), .inl (.int, 10, .inl w_moveTo), .inr (0, [.ref 6, .int w_csz, .int w_clt]), .inl (.int, 16, .inl w_cle), .inl (.object "LassoPaths$Formula", 3, .inr (.inr (.inr (.inr (g_rl [8, 10, 12]))))), .inr (0, [.ref 9, .int (w_ssz 0), .int (w_slt 0)]), .inl (.int, 16, .inl (w_sle 0)), .inr (0, [.ref 11, .int (w_ssz 1), .int (w_slt 1)]), .inl (.int, 16, .inl (w_sle 1)), .inr (0, [.ref 13, .int (w_ssz 2), .int (w_slt 2)]), .inl (.int, 16, .inl (w_sle 2)), .inr (5, [.int x_states, .int x_moveCount, .ref 15, .ref 16, .ref 17, .ref 18, .ref 19, .ref 21]), .inl (.int, 5, .inl x_stateLabel), .inl (.int, 10, .inl x_moveActor), .inl (.int, 10, .inl x_moveFrom), .inl (.int, 10, .inl x_moveTo), .inr (0, [.ref 20, .int x_csz, .int x_clt]), .inl (.int, 16, .inl x_cle), .inl (.object "LassoPaths$Formula", 3, .inr (.inr (.inr (.inr (g_rl [22, 24, 26]))))), .inr (0, [.ref 23, .int (x_ssz 0), .int (x_slt 0)]), .inl (.int, 16, .inl (x_sle 0)), .inr (0, [.ref 25, .int (x_ssz 1), .int (x_slt 1)]), .inl (.int, 16, .inl (x_sle 1)), .inr (0, [.ref 27, .int (x_ssz 2), .int (x_slt 2)]), .inl (.int, 16, .inl (x_sle 2))]
theorem HWW_rn (f : Nat → Nat) (w_states : Int32) (w_moveCount : Int32) (w_stateLabel : Nat → Int32) (w_moveActor : Nat → Int32) (w_moveFrom : Nat → Int32) (w_moveTo : Nat → Int32) (w_csz : Int32) (w_clt : Int32) (w_cle : Nat → Int32) (w_ssz : Nat → Int32) (w_slt : Nat → Int32) (w_sle : Nat → Nat → Int32) (x_states : Int32) (x_moveCount : Int32) (x_stateLabel : Nat → Int32) (x_moveActor : Nat → Int32) (x_moveFrom : Nat → Int32) (x_moveTo : Nat → Int32) (x_csz : Int32) (x_clt : Int32) (x_cle : Nat → Int32) (x_ssz : Nat → Int32) (x_slt : Nat → Int32) (x_sle : Nat → Nat → Int32) : (HWW w_states w_moveCount w_stateLabel w_moveActor w_moveFrom w_moveTo w_csz w_clt w_cle w_ssz w_slt w_sle x_states x_moveCount x_stateLabel x_moveActor x_moveFrom x_moveTo x_csz x_clt x_cle x_ssz x_slt x_sle).map (g_rnE f) = [.inr (5, [.int w_states, .int w_moveCount, .ref (f 1), .ref (f 2), .ref (f 3), .ref (f 4), .ref (f 5), .ref (f 7)]), .inl (.int, 5, .inl w_stateLabel), .inl (.int, 10, .inl w_moveActor), .inl (.int, 10, .inl w_moveFrom), .inl (.int, 10, .inl w_moveTo), .inr (0, [.ref (f 6), .int w_csz, .int w_clt]), .inl (.int, 16, .inl w_cle), .inl (.object "LassoPaths$Formula", 3, .inr (.inr (.inr (.inr (g_rl [f 8, f 10, f 12]))))), .inr (0, [.ref (f 9), .int (w_ssz 0), .int (w_slt 0)]), .inl (.int, 16, .inl (w_sle 0)), .inr (0, [.ref (f 11), .int (w_ssz 1), .int (w_slt 1)]), .inl (.int, 16, .inl (w_sle 1)), .inr (0, [.ref (f 13), .int (w_ssz 2), .int (w_slt 2)]), .inl (.int, 16, .inl (w_sle 2)), .inr (5, [.int x_states, .int x_moveCount, .ref (f 15), .ref (f 16), .ref (f 17), .ref (f 18), .ref (f 19), .ref (f 21)]), .inl (.int, 5, .inl x_stateLabel), .inl (.int, 10, .inl x_moveActor), .inl (.int, 10, .inl x_moveFrom), .inl (.int, 10, .inl x_moveTo), .inr (0, [.ref (f 20), .int x_csz, .int x_clt]), .inl (.int, 16, .inl x_cle), .inl (.object "LassoPaths$Formula", 3, .inr (.inr (.inr (.inr (g_rl [f 22, f 24, f 26]))))), .inr (0, [.ref (f 23), .int (x_ssz 0), .int (x_slt 0)]), .inl (.int, 16, .inl (x_sle 0)), .inr (0, [.ref (f 25), .int (x_ssz 1), .int (x_slt 1)]), .inl (.int, 16, .inl (x_sle 1)), .inr (0, [.ref (f 27), .int (x_ssz 2), .int (x_slt 2)]), .inl (.int, 16, .inl (x_sle 2))] := by
  simp only [HWW, List.map_cons, List.map_nil, g_rn_rl]
  rfl
abbrev rm_W_copySystem : Room := { frames := 1, cells := 0, slots := 0, locals := 48 }
def F_W_copySystem (w_stateLabel : Nat → Int32) (w_moveActor : Nat → Int32) (w_moveFrom : Nat → Int32) (w_moveTo : Nat → Int32) (x_states : Int32) (x_moveCount : Int32) (x_stateLabel : Nat → Int32) (x_moveActor : Nat → Int32) (x_moveFrom : Nat → Int32) (x_moveTo : Nat → Int32) : Option (Int32 × Int32 × (Nat → Int32) × (Nat → Int32) × (Nat → Int32) × (Nat → Int32)) := (some (x_states, x_moveCount, (va_cpy x_stateLabel w_stateLabel 0 0 5), (va_cpy x_moveActor w_moveActor 0 0 10), (va_cpy x_moveFrom w_moveFrom 0 0 10), (va_cpy x_moveTo w_moveTo 0 0 10)))
set_option maxRecDepth 100000 in
theorem ct_W_copySystem (w_states : Int32) (w_moveCount : Int32) (w_stateLabel : Nat → Int32) (w_moveActor : Nat → Int32) (w_moveFrom : Nat → Int32) (w_moveTo : Nat → Int32) (w_csz : Int32) (w_clt : Int32) (w_cle : Nat → Int32) (w_ssz : Nat → Int32) (w_slt : Nat → Int32) (w_sle : Nat → Nat → Int32) (x_states : Int32) (x_moveCount : Int32) (x_stateLabel : Nat → Int32) (x_moveActor : Nat → Int32) (x_moveFrom : Nat → Int32) (x_moveTo : Nat → Int32) (x_csz : Int32) (x_clt : Int32) (x_cle : Nat → Int32) (x_ssz : Nat → Int32) (x_slt : Nat → Int32) (x_sle : Nat → Nat → Int32) : g_F y_W_copySystem c_W_copySystem 2 none rm_W_copySystem [.ref 0, .ref 14] (HWW w_states w_moveCount w_stateLabel w_moveActor w_moveFrom w_moveTo w_csz w_clt w_cle w_ssz w_slt w_sle x_states x_moveCount x_stateLabel x_moveActor x_moveFrom x_moveTo x_csz x_clt x_cle x_ssz x_slt x_sle) (F_W_copySystem w_stateLabel w_moveActor w_moveFrom w_moveTo x_states x_moveCount x_stateLabel x_moveActor x_moveFrom x_moveTo) (fun o => none) (fun o => (HWW o.1 o.2.1 o.2.2.1 o.2.2.2.1 o.2.2.2.2.1 o.2.2.2.2.2 w_csz w_clt w_cle w_ssz w_slt w_sle x_states x_moveCount x_stateLabel x_moveActor x_moveFrom x_moveTo x_csz x_clt x_cle x_ssz x_slt x_sle)) := by
  intro l P hs
  refine g_ofG 5 (by decide +kernel) rfl (Nat.le_of_ble_eq_true rfl) (fun X hX => ?_)
  unfold F_W_copySystem at hs
  refine g_loc (L2 := [(0, .ref 0), (1, .ref 14)]) [0, 1] rfl ?_
  refine g_blk 75 [(.aload_n 0, 0, 0, 0, 0), (.aload_n 1, 0, 0, 0, 0), (.getfield 43, 5, 0, 0, 0), (.putfield 43, 5, 0, 1, 0), (.aload_n 0, 0, 0, 0, 0), (.aload_n 1, 0, 0, 0, 0), (.getfield 47, 5, 1, 0, 0), (.putfield 47, 5, 1, 1, 0), (.aload_n 1, 0, 0, 0, 0), (.getfield 9, 5, 2, 0, 0), (.iconst 0, 0, 0, 0, 0), (.aload_n 0, 0, 0, 0, 0), (.getfield 9, 5, 2, 0, 0), (.iconst 0, 0, 0, 0, 0), (.iconst 5, 0, 0, 5, 0), (.invokestatic 50, 3, 0, 0, 0), (.aload_n 1, 0, 0, 0, 0), (.getfield 15, 5, 3, 0, 0), (.iconst 0, 0, 0, 0, 0), (.aload_n 0, 0, 0, 0, 0), (.getfield 15, 5, 3, 0, 0), (.iconst 0, 0, 0, 0, 0), (.bipush 10, 0, 0, 10, 0), (.invokestatic 50, 3, 0, 0, 0), (.aload_n 1, 0, 0, 0, 0), (.getfield 18, 5, 4, 0, 0), (.iconst 0, 0, 0, 0, 0), (.aload_n 0, 0, 0, 0, 0), (.getfield 18, 5, 4, 0, 0), (.iconst 0, 0, 0, 0, 0), (.bipush 10, 0, 0, 10, 0), (.invokestatic 50, 3, 0, 0, 0), (.aload_n 1, 0, 0, 0, 0), (.getfield 21, 5, 5, 0, 0), (.iconst 0, 0, 0, 0, 0), (.aload_n 0, 0, 0, 0, 0), (.getfield 21, 5, 5, 0, 0), (.iconst 0, 0, 0, 0, 0), (.bipush 10, 0, 0, 10, 0), (.invokestatic 50, 3, 0, 0, 0)] [1 ≤ rm_W_copySystem.frames ∧ (([] : List Value).map fun v => v.category).sum + (nativeFrameWords "java/lang/System" "arraycopy" 5 + 11) ≤ rm_W_copySystem.locals, ¬ (0 : Int32) < 0 ∧ ¬ (0 : Int32) < 0 ∧ ¬ (5 : Int32) < 0 ∧ (0 : Int32).toNatClampNeg + (5 : Int32).toNatClampNeg ≤ 5 ∧ (0 : Int32).toNatClampNeg + (5 : Int32).toNatClampNeg ≤ 5, 1 ≤ rm_W_copySystem.frames ∧ (([] : List Value).map fun v => v.category).sum + (nativeFrameWords "java/lang/System" "arraycopy" 5 + 11) ≤ rm_W_copySystem.locals, ¬ (0 : Int32) < 0 ∧ ¬ (0 : Int32) < 0 ∧ ¬ (10 : Int32) < 0 ∧ (0 : Int32).toNatClampNeg + (10 : Int32).toNatClampNeg ≤ 10 ∧ (0 : Int32).toNatClampNeg + (10 : Int32).toNatClampNeg ≤ 10, 1 ≤ rm_W_copySystem.frames ∧ (([] : List Value).map fun v => v.category).sum + (nativeFrameWords "java/lang/System" "arraycopy" 5 + 11) ≤ rm_W_copySystem.locals, ¬ (0 : Int32) < 0 ∧ ¬ (0 : Int32) < 0 ∧ ¬ (10 : Int32) < 0 ∧ (0 : Int32).toNatClampNeg + (10 : Int32).toNatClampNeg ≤ 10 ∧ (0 : Int32).toNatClampNeg + (10 : Int32).toNatClampNeg ≤ 10, 1 ≤ rm_W_copySystem.frames ∧ (([] : List Value).map fun v => v.category).sum + (nativeFrameWords "java/lang/System" "arraycopy" 5 + 11) ≤ rm_W_copySystem.locals, ¬ (0 : Int32) < 0 ∧ ¬ (0 : Int32) < 0 ∧ ¬ (10 : Int32) < 0 ∧ (0 : Int32).toNatClampNeg + (10 : Int32).toNatClampNeg ≤ 10 ∧ (0 : Int32).toNatClampNeg + (10 : Int32).toNatClampNeg ≤ 10] [(0, .ref 0), (1, .ref 14)] [] (HWW x_states x_moveCount (va_cpy x_stateLabel w_stateLabel 0 0 5) (va_cpy x_moveActor w_moveActor 0 0 10) (va_cpy x_moveFrom w_moveFrom 0 0 10) (va_cpy x_moveTo w_moveTo 0 0 10) w_csz w_clt w_cle w_ssz w_slt w_sle x_states x_moveCount x_stateLabel x_moveActor x_moveFrom x_moveTo x_csz x_clt x_cle x_ssz x_slt x_sle) (by decide +kernel) rfl (g_and ⟨by decide, Nat.le_of_ble_eq_true (by decide +kernel)⟩ (g_and (by decide) (g_and ⟨by decide, Nat.le_of_ble_eq_true (by decide +kernel)⟩ (g_and (by decide) (g_and ⟨by decide, Nat.le_of_ble_eq_true (by decide +kernel)⟩ (g_and (by decide) (g_and ⟨by decide, Nat.le_of_ble_eq_true (by decide +kernel)⟩ (g_and (by decide) g_nil)))))))) ?_
  have hq := g_sat_s hs
  exact g_vret hX (by decide +kernel) rfl hq
abbrev rm_W_copy : Room := { frames := 2, cells := 0, slots := 0, locals := 69 }
def W_copy_l1 (x_ssz : Nat → Int32) (x_slt : Nat → Int32) (x_sle : Nat → Nat → Int32) : Nat → Int32 → (Nat → Int32) → (Nat → Int32) → (Nat → Nat → Int32) → Option ((Nat → Int32) × (Nat → Int32) × (Nat → Nat → Int32))
  | 0, _, _, _, _ => none
  | n + 1, b2_3, w_ssz_4, w_slt_5, w_sle_6 => (if (3 : Int32) ≤ b2_3 then (some (w_ssz_4, w_slt_5, w_sle_6)) else (g_chk (g_inb b2_3 3) (g_chk (g_inb b2_3 3) ((F_F_copy (w_sle_6 b2_3.toNatClampNeg) (x_ssz b2_3.toNatClampNeg) (x_slt b2_3.toNatClampNeg) (x_sle b2_3.toNatClampNeg)).bind fun o11 => (W_copy_l1 x_ssz x_slt x_sle n (b2_3 + (1 : Int32)) (va_up w_ssz_4 b2_3.toNatClampNeg o11.1) (va_up w_slt_5 b2_3.toNatClampNeg o11.2.1) (va_up w_sle_6 b2_3.toNatClampNeg o11.2.2))))))
theorem W_copy_l1_s (x_ssz : Nat → Int32) (x_slt : Nat → Int32) (x_sle : Nat → Nat → Int32) (n : Nat) (b2_3 : Int32) (w_ssz_4 : Nat → Int32) (w_slt_5 : Nat → Int32) (w_sle_6 : Nat → Nat → Int32) : W_copy_l1 x_ssz x_slt x_sle (n + 1) b2_3 w_ssz_4 w_slt_5 w_sle_6 = (if (3 : Int32) ≤ b2_3 then (some (w_ssz_4, w_slt_5, w_sle_6)) else (g_chk (g_inb b2_3 3) (g_chk (g_inb b2_3 3) ((F_F_copy (w_sle_6 b2_3.toNatClampNeg) (x_ssz b2_3.toNatClampNeg) (x_slt b2_3.toNatClampNeg) (x_sle b2_3.toNatClampNeg)).bind fun o11 => (W_copy_l1 x_ssz x_slt x_sle n (b2_3 + (1 : Int32)) (va_up w_ssz_4 b2_3.toNatClampNeg o11.1) (va_up w_slt_5 b2_3.toNatClampNeg o11.2.1) (va_up w_sle_6 b2_3.toNatClampNeg o11.2.2)))))) := rfl
def F_W_copy (N : Nat) (w_stateLabel : Nat → Int32) (w_moveActor : Nat → Int32) (w_moveFrom : Nat → Int32) (w_moveTo : Nat → Int32) (w_cle : Nat → Int32) (w_ssz : Nat → Int32) (w_slt : Nat → Int32) (w_sle : Nat → Nat → Int32) (x_states : Int32) (x_moveCount : Int32) (x_stateLabel : Nat → Int32) (x_moveActor : Nat → Int32) (x_moveFrom : Nat → Int32) (x_moveTo : Nat → Int32) (x_csz : Int32) (x_clt : Int32) (x_cle : Nat → Int32) (x_ssz : Nat → Int32) (x_slt : Nat → Int32) (x_sle : Nat → Nat → Int32) : Option (Int32 × Int32 × (Nat → Int32) × (Nat → Int32) × (Nat → Int32) × (Nat → Int32) × Int32 × Int32 × (Nat → Int32) × (Nat → Int32) × (Nat → Int32) × (Nat → Nat → Int32)) := ((F_W_copySystem w_stateLabel w_moveActor w_moveFrom w_moveTo x_states x_moveCount x_stateLabel x_moveActor x_moveFrom x_moveTo).bind fun o1 => ((F_F_copy w_cle x_csz x_clt x_cle).bind fun o2 => ((W_copy_l1 x_ssz x_slt x_sle N (0 : Int32) w_ssz w_slt w_sle).bind fun o7 => (some (o1.1, o1.2.1, o1.2.2.1, o1.2.2.2.1, o1.2.2.2.2.1, o1.2.2.2.2.2, o2.1, o2.2.1, o2.2.2, o7.1, o7.2.1, o7.2.2)))))
set_option maxRecDepth 100000 in
theorem ct_W_copy (N : Nat) (w_states : Int32) (w_moveCount : Int32) (w_stateLabel : Nat → Int32) (w_moveActor : Nat → Int32) (w_moveFrom : Nat → Int32) (w_moveTo : Nat → Int32) (w_csz : Int32) (w_clt : Int32) (w_cle : Nat → Int32) (w_ssz : Nat → Int32) (w_slt : Nat → Int32) (w_sle : Nat → Nat → Int32) (x_states : Int32) (x_moveCount : Int32) (x_stateLabel : Nat → Int32) (x_moveActor : Nat → Int32) (x_moveFrom : Nat → Int32) (x_moveTo : Nat → Int32) (x_csz : Int32) (x_clt : Int32) (x_cle : Nat → Int32) (x_ssz : Nat → Int32) (x_slt : Nat → Int32) (x_sle : Nat → Nat → Int32) : g_F y_W_copy c_W_copy 3 none rm_W_copy [.ref 0, .ref 14] (HWW w_states w_moveCount w_stateLabel w_moveActor w_moveFrom w_moveTo w_csz w_clt w_cle w_ssz w_slt w_sle x_states x_moveCount x_stateLabel x_moveActor x_moveFrom x_moveTo x_csz x_clt x_cle x_ssz x_slt x_sle) (F_W_copy N w_stateLabel w_moveActor w_moveFrom w_moveTo w_cle w_ssz w_slt w_sle x_states x_moveCount x_stateLabel x_moveActor x_moveFrom x_moveTo x_csz x_clt x_cle x_ssz x_slt x_sle) (fun o => none) (fun o => (HWW o.1 o.2.1 o.2.2.1 o.2.2.2.1 o.2.2.2.2.1 o.2.2.2.2.2.1 o.2.2.2.2.2.2.1 o.2.2.2.2.2.2.2.1 o.2.2.2.2.2.2.2.2.1 o.2.2.2.2.2.2.2.2.2.1 o.2.2.2.2.2.2.2.2.2.2.1 o.2.2.2.2.2.2.2.2.2.2.2 x_states x_moveCount x_stateLabel x_moveActor x_moveFrom x_moveTo x_csz x_clt x_cle x_ssz x_slt x_sle)) := by
  intro l P hs
  refine g_ofG 5 (by decide +kernel) rfl (Nat.le_of_ble_eq_true rfl) (fun X hX => ?_)
  unfold F_W_copy at hs
  refine g_loc (L2 := [(0, .ref 0), (1, .ref 14)]) [0, 1] rfl ?_
  refine g_blk 2 [(.aload_n 0, 0, 0, 0, 0), (.aload_n 1, 0, 0, 0, 0)] [] [(0, .ref 0), (1, .ref 14)] [.ref 14, .ref 0] (HWW w_states w_moveCount w_stateLabel w_moveActor w_moveFrom w_moveTo w_csz w_clt w_cle w_ssz w_slt w_sle x_states x_moveCount x_stateLabel x_moveActor x_moveFrom x_moveTo x_csz x_clt x_cle x_ssz x_slt x_sle) (by decide +kernel) rfl g_nil ?_
  refine g_fM (ct_W_copySystem w_states w_moveCount w_stateLabel w_moveActor w_moveFrom w_moveTo w_csz w_clt w_cle w_ssz w_slt w_sle x_states x_moveCount x_stateLabel x_moveActor x_moveFrom x_moveTo x_csz x_clt x_cle x_ssz x_slt x_sle) 35 true 1 lk_5_35 (by decide +kernel) rfl ⟨rfl, rfl, by decide, by decide⟩ [] rfl (Nat.le_of_ble_eq_true rfl) (fun _ => ⟨0, 5, _, rfl, rfl, by decide, rfl⟩) hs (fun o1 hs => ?_)
  refine g_blk 13 [(.aload_n 0, 0, 0, 0, 0), (.getfield 27, 5, 6, 0, 0), (.aload_n 1, 0, 0, 0, 0), (.getfield 27, 5, 6, 0, 0)] [] [(0, .ref 0), (1, .ref 14)] [.ref 19, .ref 5] (HWW o1.1 o1.2.1 o1.2.2.1 o1.2.2.2.1 o1.2.2.2.2.1 o1.2.2.2.2.2 w_csz w_clt w_cle w_ssz w_slt w_sle x_states x_moveCount x_stateLabel x_moveActor x_moveFrom x_moveTo x_csz x_clt x_cle x_ssz x_slt x_sle) (by decide +kernel) rfl g_nil ?_
  refine g_fP (ct_F_copy w_csz w_clt w_cle x_csz x_clt x_cle) 39 true 1 lk_5_39 (by decide +kernel) rfl ⟨rfl, rfl, by decide, by decide⟩ [5, 6, 19, 20] [] rfl (Nat.le_of_ble_eq_true rfl) (by decide +kernel) (by rw [HFF_rn]; rfl) (fun _ => ⟨0, 0, _, rfl, rfl, by decide, rfl⟩) hs (fun o2 hs => ?_)
  refine g_hp (hp2 := (HWW o1.1 o1.2.1 o1.2.2.1 o1.2.2.2.1 o1.2.2.2.2.1 o1.2.2.2.2.2 o2.1 o2.2.1 o2.2.2 w_ssz w_slt w_sle x_states x_moveCount x_stateLabel x_moveActor x_moveFrom x_moveTo x_csz x_clt x_cle x_ssz x_slt x_sle)) (by rw [HFF_rn]; rfl) ?_
  refine g_blk 18 [(.iconst 0, 0, 0, 0, 0), (.istore_n 2, 0, 0, 0, 0)] [] [(2, .int (0 : Int32)), (0, .ref 0), (1, .ref 14)] [] (HWW o1.1 o1.2.1 o1.2.2.1 o1.2.2.2.1 o1.2.2.2.2.1 o1.2.2.2.2.2 o2.1 o2.2.1 o2.2.2 w_ssz w_slt w_sle x_states x_moveCount x_stateLabel x_moveActor x_moveFrom x_moveTo x_csz x_clt x_cle x_ssz x_slt x_sle) (by decide +kernel) rfl g_nil ?_
  refine g_loc (L2 := [(0, .ref 0), (1, .ref 14), (2, .int (0 : Int32))]) [1, 2, 0] rfl ?_
  refine g_join (fun (o7 : (Nat → Int32) × (Nat → Int32) × (Nat → Nat → Int32)) => g_G X rm_W_copy c_W_copy 3 5 none 44 [] [] (HWW o1.1 o1.2.1 o1.2.2.1 o1.2.2.2.1 o1.2.2.2.2.1 o1.2.2.2.2.2 o2.1 o2.2.1 o2.2.2 o7.1 o7.2.1 o7.2.2 x_states x_moveCount x_stateLabel x_moveActor x_moveFrom x_moveTo x_csz x_clt x_cle x_ssz x_slt x_sle)) hs (fun o7 hs => ?_) (fun hs => ?_)
  · have hq := g_sat_s hs
    exact g_vret hX (by decide +kernel) rfl hq
  · have hlW_copy_l1 : ∀ (n : Nat) (b2_3 : Int32) (w_ssz_4 : Nat → Int32) (w_slt_5 : Nat → Int32) (w_sle_6 : Nat → Nat → Int32), g_sat (W_copy_l1 x_ssz x_slt x_sle n b2_3 w_ssz_4 w_slt_5 w_sle_6) (fun (o7 : (Nat → Int32) × (Nat → Int32) × (Nat → Nat → Int32)) => g_G X rm_W_copy c_W_copy 3 5 none 44 [] [] (HWW o1.1 o1.2.1 o1.2.2.1 o1.2.2.2.1 o1.2.2.2.2.1 o1.2.2.2.2.2 o2.1 o2.2.1 o2.2.2 o7.1 o7.2.1 o7.2.2 x_states x_moveCount x_stateLabel x_moveActor x_moveFrom x_moveTo x_csz x_clt x_cle x_ssz x_slt x_sle)) → g_G X rm_W_copy c_W_copy 3 5 none 18 [(0, .ref 0), (1, .ref 14), (2, .int b2_3)] [] (HWW o1.1 o1.2.1 o1.2.2.1 o1.2.2.2.1 o1.2.2.2.2.1 o1.2.2.2.2.2 o2.1 o2.2.1 o2.2.2 w_ssz_4 w_slt_5 w_sle_6 x_states x_moveCount x_stateLabel x_moveActor x_moveFrom x_moveTo x_csz x_clt x_cle x_ssz x_slt x_sle) := by
      intro n
      induction n with
      | zero =>
        intro b2_3 w_ssz_4 w_slt_5 w_sle_6 hs
        obtain ⟨_, h0, _⟩ := hs
        cases h0
      | succ n ih =>
        intro b2_3 w_ssz_4 w_slt_5 w_sle_6 hs
        rw [W_copy_l1_s] at hs
        refine g_blk 20 [(.iload_n 2, 0, 0, 0, 0), (.iconst 3, 0, 0, 3, 0)] [] [(0, .ref 0), (1, .ref 14), (2, .int b2_3)] [.int (3 : Int32), .int b2_3] (HWW o1.1 o1.2.1 o1.2.2.1 o1.2.2.2.1 o1.2.2.2.2.1 o1.2.2.2.2.2 o2.1 o2.2.1 o2.2.2 w_ssz_4 w_slt_5 w_sle_6 x_states x_moveCount x_stateLabel x_moveActor x_moveFrom x_moveTo x_csz x_clt x_cle x_ssz x_slt x_sle) (by decide +kernel) rfl g_nil ?_
        refine g_br 44 (.if_icmp .ge 24) ((3 : Int32) ≤ b2_3) [] (by decide +kernel) rfl (fun c8 => ?_) (fun c8 => ?_)
        · have hs := g_sat_t hs c8
          refine g_loc (L2 := []) [] rfl ?_
          have hq := g_sat_s hs
          exact hq
        · have hs := g_sat_f hs c8
          refine g_blk 28 [(.aload_n 0, 0, 0, 0, 0), (.getfield 31, 5, 7, 0, 0), (.iload_n 2, 0, 0, 0, 0)] [] [(0, .ref 0), (1, .ref 14), (2, .int b2_3)] [.int b2_3, .ref 7] (HWW o1.1 o1.2.1 o1.2.2.1 o1.2.2.2.1 o1.2.2.2.2.1 o1.2.2.2.2.2 o2.1 o2.2.1 o2.2.2 w_ssz_4 w_slt_5 w_sle_6 x_states x_moveCount x_stateLabel x_moveActor x_moveFrom x_moveTo x_csz x_clt x_cle x_ssz x_slt x_sle) (by decide +kernel) rfl g_nil ?_
          obtain ⟨h9, hs⟩ := g_sat_c hs
          refine g_blk 29 [(.aaload, 0, 0, 0, 0)] [vp_in b2_3 3] [(0, .ref 0), (1, .ref 14), (2, .int b2_3)] [.ref (8 + 2 * b2_3.toNatClampNeg)] (HWW o1.1 o1.2.1 o1.2.2.1 o1.2.2.2.1 o1.2.2.2.2.1 o1.2.2.2.2.2 o2.1 o2.2.1 o2.2.2 w_ssz_4 w_slt_5 w_sle_6 x_states x_moveCount x_stateLabel x_moveActor x_moveFrom x_moveTo x_csz x_clt x_cle x_ssz x_slt x_sle) (by decide +kernel) (by rcases (g_e3 h9) with z1 | z1 | z1 <;> (rw [z1]; rfl)) (g_and (g_inb_in h9) g_nil) ?_
          refine g_blk 34 [(.aload_n 1, 0, 0, 0, 0), (.getfield 31, 5, 7, 0, 0), (.iload_n 2, 0, 0, 0, 0)] [] [(0, .ref 0), (1, .ref 14), (2, .int b2_3)] [.int b2_3, .ref 21, .ref (8 + 2 * b2_3.toNatClampNeg)] (HWW o1.1 o1.2.1 o1.2.2.1 o1.2.2.2.1 o1.2.2.2.2.1 o1.2.2.2.2.2 o2.1 o2.2.1 o2.2.2 w_ssz_4 w_slt_5 w_sle_6 x_states x_moveCount x_stateLabel x_moveActor x_moveFrom x_moveTo x_csz x_clt x_cle x_ssz x_slt x_sle) (by decide +kernel) rfl g_nil ?_
          obtain ⟨h10, hs⟩ := g_sat_c hs
          refine g_blk 35 [(.aaload, 0, 0, 0, 0)] [vp_in b2_3 3] [(0, .ref 0), (1, .ref 14), (2, .int b2_3)] [.ref (22 + 2 * b2_3.toNatClampNeg), .ref (8 + 2 * b2_3.toNatClampNeg)] (HWW o1.1 o1.2.1 o1.2.2.1 o1.2.2.2.1 o1.2.2.2.2.1 o1.2.2.2.2.2 o2.1 o2.2.1 o2.2.2 w_ssz_4 w_slt_5 w_sle_6 x_states x_moveCount x_stateLabel x_moveActor x_moveFrom x_moveTo x_csz x_clt x_cle x_ssz x_slt x_sle) (by decide +kernel) (by rcases (g_e3 h10) with z1 | z1 | z1 <;> (rw [z1]; rfl)) (g_and (g_inb_in h10) g_nil) ?_
          refine g_fP (ct_F_copy (w_ssz_4 b2_3.toNatClampNeg) (w_slt_5 b2_3.toNatClampNeg) (w_sle_6 b2_3.toNatClampNeg) (x_ssz b2_3.toNatClampNeg) (x_slt b2_3.toNatClampNeg) (x_sle b2_3.toNatClampNeg)) 39 true 1 lk_5_39 (by decide +kernel) rfl ⟨rfl, rfl, by decide, by decide⟩ [(8 + 2 * b2_3.toNatClampNeg), (9 + 2 * b2_3.toNatClampNeg), (22 + 2 * b2_3.toNatClampNeg), (23 + 2 * b2_3.toNatClampNeg)] [] rfl (Nat.le_of_ble_eq_true rfl) (by rcases (g_c3 h10) with z1 | z1 | z1 <;> (rw [z1]; rfl)) (by rcases (g_c3 h10) with z1 | z1 | z1 <;> (rw [HFF_rn, z1]; rfl)) (fun _ => ⟨0, 0, _, rfl, rfl, by decide, rfl⟩) hs (fun o11 hs => ?_)
          refine g_hp (hp2 := (HWW o1.1 o1.2.1 o1.2.2.1 o1.2.2.2.1 o1.2.2.2.2.1 o1.2.2.2.2.2 o2.1 o2.2.1 o2.2.2 (va_up w_ssz_4 b2_3.toNatClampNeg o11.1) (va_up w_slt_5 b2_3.toNatClampNeg o11.2.1) (va_up w_sle_6 b2_3.toNatClampNeg o11.2.2) x_states x_moveCount x_stateLabel x_moveActor x_moveFrom x_moveTo x_csz x_clt x_cle x_ssz x_slt x_sle)) (by rcases (g_c3 h10) with z1 | z1 | z1 <;> (rw [HFF_rn, z1]; rfl)) ?_
          refine g_blk 18 [(.iinc 2 1, 0, 0, 1, 0), (.goto (-23), 0, 0, 0, 0)] [] [(2, .int (b2_3 + (1 : Int32))), (0, .ref 0), (1, .ref 14)] [] (HWW o1.1 o1.2.1 o1.2.2.1 o1.2.2.2.1 o1.2.2.2.2.1 o1.2.2.2.2.2 o2.1 o2.2.1 o2.2.2 (va_up w_ssz_4 b2_3.toNatClampNeg o11.1) (va_up w_slt_5 b2_3.toNatClampNeg o11.2.1) (va_up w_sle_6 b2_3.toNatClampNeg o11.2.2) x_states x_moveCount x_stateLabel x_moveActor x_moveFrom x_moveTo x_csz x_clt x_cle x_ssz x_slt x_sle) (by decide +kernel) rfl g_nil ?_
          refine g_loc (L2 := [(0, .ref 0), (1, .ref 14), (2, .int (b2_3 + (1 : Int32)))]) [1, 2, 0] rfl ?_
          exact ih _ _ _ _ hs
    exact hlW_copy_l1 N _ _ _ _ hs
abbrev rm_W_hasState : Room := { frames := 0, cells := 0, slots := 0, locals := 0 }
def F_W_hasState (w_states : Int32) (a1 : Int32) : Int32 := (if a1 < 0 then (0 : Int32) else (if w_states ≤ a1 then (0 : Int32) else (if (5 : Int32) ≤ a1 then (0 : Int32) else (1 : Int32))))
theorem bo_W_hasState (w_states : Int32) (a1 : Int32) : F_W_hasState w_states a1 = 0 ∨ F_W_hasState w_states a1 = 1 := by
  unfold F_W_hasState
  repeat (first | exact Or.inl rfl | exact Or.inr rfl | split)
set_option maxRecDepth 100000 in
theorem ct_W_hasState (w_states : Int32) (w_moveCount : Int32) (w_stateLabel : Nat → Int32) (w_moveActor : Nat → Int32) (w_moveFrom : Nat → Int32) (w_moveTo : Nat → Int32) (w_csz : Int32) (w_clt : Int32) (w_cle : Nat → Int32) (w_ssz : Nat → Int32) (w_slt : Nat → Int32) (w_sle : Nat → Nat → Int32) (a1 : Int32) : g_F y_W_hasState c_W_hasState 2 (some .boolean) rm_W_hasState [.ref 0, .int a1] (HW w_states w_moveCount w_stateLabel w_moveActor w_moveFrom w_moveTo w_csz w_clt w_cle w_ssz w_slt w_sle) (some (F_W_hasState w_states a1)) (fun o => some (.int o)) (fun _ => (HW w_states w_moveCount w_stateLabel w_moveActor w_moveFrom w_moveTo w_csz w_clt w_cle w_ssz w_slt w_sle)) := by
  intro l P hs
  refine g_ofG 5 (by decide +kernel) rfl (Nat.le_of_ble_eq_true rfl) (fun X hX => ?_)
  unfold F_W_hasState at hs
  refine g_loc (L2 := [(0, .ref 0), (1, .int a1)]) [0, 1] rfl ?_
  refine g_blk 1 [(.iload_n 1, 0, 0, 0, 0)] [] [(0, .ref 0), (1, .int a1)] [.int a1] (HW w_states w_moveCount w_stateLabel w_moveActor w_moveFrom w_moveTo w_csz w_clt w_cle w_ssz w_slt w_sle) (by decide +kernel) rfl g_nil ?_
  have hJ2 : ∀ (v2 : Int32) (ev2 : v2 = (if a1 < 0 then (0 : Int32) else (if w_states ≤ a1 then (0 : Int32) else (if (5 : Int32) ≤ a1 then (0 : Int32) else (1 : Int32))))), g_G X rm_W_hasState c_W_hasState 2 5 (some .boolean) 22 [] [.int v2] (HW w_states w_moveCount w_stateLabel w_moveActor w_moveFrom w_moveTo w_csz w_clt w_cle w_ssz w_slt w_sle) := by
    intro v2 ev2
    subst ev2
    have hq := g_sat_s hs
    exact g_zret hX (by decide +kernel) rfl (by repeat (first | exact Or.inl rfl | exact Or.inr rfl | split)) hq
  refine g_br 21 (.ifCond .lt 20) (a1 < 0) [] (by decide +kernel) rfl (fun c4 => ?_) (fun c4 => ?_)
  · refine g_blk 22 [(.iconst 0, 0, 0, 0, 0)] [] [(0, .ref 0), (1, .int a1)] [.int (0 : Int32)] (HW w_states w_moveCount w_stateLabel w_moveActor w_moveFrom w_moveTo w_csz w_clt w_cle w_ssz w_slt w_sle) (by decide +kernel) rfl g_nil ?_
    refine g_loc (L2 := []) [] rfl ?_
    exact hJ2 _ (by rw [if_pos c4])
  · refine g_blk 9 [(.iload_n 1, 0, 0, 0, 0), (.aload_n 0, 0, 0, 0, 0), (.getfield 43, 5, 0, 0, 0)] [] [(0, .ref 0), (1, .int a1)] [.int w_states, .int a1] (HW w_states w_moveCount w_stateLabel w_moveActor w_moveFrom w_moveTo w_csz w_clt w_cle w_ssz w_slt w_sle) (by decide +kernel) rfl g_nil ?_
    refine g_br 21 (.if_icmp .ge 12) (w_states ≤ a1) [] (by decide +kernel) rfl (fun c5 => ?_) (fun c5 => ?_)
    · refine g_blk 22 [(.iconst 0, 0, 0, 0, 0)] [] [(0, .ref 0), (1, .int a1)] [.int (0 : Int32)] (HW w_states w_moveCount w_stateLabel w_moveActor w_moveFrom w_moveTo w_csz w_clt w_cle w_ssz w_slt w_sle) (by decide +kernel) rfl g_nil ?_
      refine g_loc (L2 := []) [] rfl ?_
      exact hJ2 _ (by rw [if_neg c4, if_pos c5])
    · refine g_blk 14 [(.iload_n 1, 0, 0, 0, 0), (.iconst 5, 0, 0, 5, 0)] [] [(0, .ref 0), (1, .int a1)] [.int (5 : Int32), .int a1] (HW w_states w_moveCount w_stateLabel w_moveActor w_moveFrom w_moveTo w_csz w_clt w_cle w_ssz w_slt w_sle) (by decide +kernel) rfl g_nil ?_
      refine g_br 21 (.if_icmp .ge 7) ((5 : Int32) ≤ a1) [] (by decide +kernel) rfl (fun c6 => ?_) (fun c6 => ?_)
      · refine g_blk 22 [(.iconst 0, 0, 0, 0, 0)] [] [(0, .ref 0), (1, .int a1)] [.int (0 : Int32)] (HW w_states w_moveCount w_stateLabel w_moveActor w_moveFrom w_moveTo w_csz w_clt w_cle w_ssz w_slt w_sle) (by decide +kernel) rfl g_nil ?_
        refine g_loc (L2 := []) [] rfl ?_
        exact hJ2 _ (by rw [if_neg c4, if_neg c5, if_pos c6])
      · refine g_blk 22 [(.iconst 1, 0, 0, 1, 0), (.goto 4, 0, 0, 0, 0)] [] [(0, .ref 0), (1, .int a1)] [.int (1 : Int32)] (HW w_states w_moveCount w_stateLabel w_moveActor w_moveFrom w_moveTo w_csz w_clt w_cle w_ssz w_slt w_sle) (by decide +kernel) rfl g_nil ?_
        refine g_loc (L2 := []) [] rfl ?_
        exact hJ2 _ (by rw [if_neg c4, if_neg c5, if_neg c6])
abbrev rm_W_hasMove : Room := { frames := 0, cells := 0, slots := 0, locals := 0 }
def F_W_hasMove (w_moveCount : Int32) (a1 : Int32) : Int32 := (if a1 < 0 then (0 : Int32) else (if w_moveCount ≤ a1 then (0 : Int32) else (if (10 : Int32) ≤ a1 then (0 : Int32) else (1 : Int32))))
theorem bo_W_hasMove (w_moveCount : Int32) (a1 : Int32) : F_W_hasMove w_moveCount a1 = 0 ∨ F_W_hasMove w_moveCount a1 = 1 := by
  unfold F_W_hasMove
  repeat (first | exact Or.inl rfl | exact Or.inr rfl | split)
set_option maxRecDepth 100000 in
theorem ct_W_hasMove (w_states : Int32) (w_moveCount : Int32) (w_stateLabel : Nat → Int32) (w_moveActor : Nat → Int32) (w_moveFrom : Nat → Int32) (w_moveTo : Nat → Int32) (w_csz : Int32) (w_clt : Int32) (w_cle : Nat → Int32) (w_ssz : Nat → Int32) (w_slt : Nat → Int32) (w_sle : Nat → Nat → Int32) (a1 : Int32) : g_F y_W_hasMove c_W_hasMove 2 (some .boolean) rm_W_hasMove [.ref 0, .int a1] (HW w_states w_moveCount w_stateLabel w_moveActor w_moveFrom w_moveTo w_csz w_clt w_cle w_ssz w_slt w_sle) (some (F_W_hasMove w_moveCount a1)) (fun o => some (.int o)) (fun _ => (HW w_states w_moveCount w_stateLabel w_moveActor w_moveFrom w_moveTo w_csz w_clt w_cle w_ssz w_slt w_sle)) := by
  intro l P hs
  refine g_ofG 5 (by decide +kernel) rfl (Nat.le_of_ble_eq_true rfl) (fun X hX => ?_)
  unfold F_W_hasMove at hs
  refine g_loc (L2 := [(0, .ref 0), (1, .int a1)]) [0, 1] rfl ?_
  refine g_blk 1 [(.iload_n 1, 0, 0, 0, 0)] [] [(0, .ref 0), (1, .int a1)] [.int a1] (HW w_states w_moveCount w_stateLabel w_moveActor w_moveFrom w_moveTo w_csz w_clt w_cle w_ssz w_slt w_sle) (by decide +kernel) rfl g_nil ?_
  have hJ2 : ∀ (v2 : Int32) (ev2 : v2 = (if a1 < 0 then (0 : Int32) else (if w_moveCount ≤ a1 then (0 : Int32) else (if (10 : Int32) ≤ a1 then (0 : Int32) else (1 : Int32))))), g_G X rm_W_hasMove c_W_hasMove 2 5 (some .boolean) 23 [] [.int v2] (HW w_states w_moveCount w_stateLabel w_moveActor w_moveFrom w_moveTo w_csz w_clt w_cle w_ssz w_slt w_sle) := by
    intro v2 ev2
    subst ev2
    have hq := g_sat_s hs
    exact g_zret hX (by decide +kernel) rfl (by repeat (first | exact Or.inl rfl | exact Or.inr rfl | split)) hq
  refine g_br 22 (.ifCond .lt 21) (a1 < 0) [] (by decide +kernel) rfl (fun c4 => ?_) (fun c4 => ?_)
  · refine g_blk 23 [(.iconst 0, 0, 0, 0, 0)] [] [(0, .ref 0), (1, .int a1)] [.int (0 : Int32)] (HW w_states w_moveCount w_stateLabel w_moveActor w_moveFrom w_moveTo w_csz w_clt w_cle w_ssz w_slt w_sle) (by decide +kernel) rfl g_nil ?_
    refine g_loc (L2 := []) [] rfl ?_
    exact hJ2 _ (by rw [if_pos c4])
  · refine g_blk 9 [(.iload_n 1, 0, 0, 0, 0), (.aload_n 0, 0, 0, 0, 0), (.getfield 47, 5, 1, 0, 0)] [] [(0, .ref 0), (1, .int a1)] [.int w_moveCount, .int a1] (HW w_states w_moveCount w_stateLabel w_moveActor w_moveFrom w_moveTo w_csz w_clt w_cle w_ssz w_slt w_sle) (by decide +kernel) rfl g_nil ?_
    refine g_br 22 (.if_icmp .ge 13) (w_moveCount ≤ a1) [] (by decide +kernel) rfl (fun c5 => ?_) (fun c5 => ?_)
    · refine g_blk 23 [(.iconst 0, 0, 0, 0, 0)] [] [(0, .ref 0), (1, .int a1)] [.int (0 : Int32)] (HW w_states w_moveCount w_stateLabel w_moveActor w_moveFrom w_moveTo w_csz w_clt w_cle w_ssz w_slt w_sle) (by decide +kernel) rfl g_nil ?_
      refine g_loc (L2 := []) [] rfl ?_
      exact hJ2 _ (by rw [if_neg c4, if_pos c5])
    · refine g_blk 15 [(.iload_n 1, 0, 0, 0, 0), (.bipush 10, 0, 0, 10, 0)] [] [(0, .ref 0), (1, .int a1)] [.int (10 : Int32), .int a1] (HW w_states w_moveCount w_stateLabel w_moveActor w_moveFrom w_moveTo w_csz w_clt w_cle w_ssz w_slt w_sle) (by decide +kernel) rfl g_nil ?_
      refine g_br 22 (.if_icmp .ge 7) ((10 : Int32) ≤ a1) [] (by decide +kernel) rfl (fun c6 => ?_) (fun c6 => ?_)
      · refine g_blk 23 [(.iconst 0, 0, 0, 0, 0)] [] [(0, .ref 0), (1, .int a1)] [.int (0 : Int32)] (HW w_states w_moveCount w_stateLabel w_moveActor w_moveFrom w_moveTo w_csz w_clt w_cle w_ssz w_slt w_sle) (by decide +kernel) rfl g_nil ?_
        refine g_loc (L2 := []) [] rfl ?_
        exact hJ2 _ (by rw [if_neg c4, if_neg c5, if_pos c6])
      · refine g_blk 23 [(.iconst 1, 0, 0, 1, 0), (.goto 4, 0, 0, 0, 0)] [] [(0, .ref 0), (1, .int a1)] [.int (1 : Int32)] (HW w_states w_moveCount w_stateLabel w_moveActor w_moveFrom w_moveTo w_csz w_clt w_cle w_ssz w_slt w_sle) (by decide +kernel) rfl g_nil ?_
        refine g_loc (L2 := []) [] rfl ?_
        exact hJ2 _ (by rw [if_neg c4, if_neg c5, if_neg c6])
abbrev rm_W_removeMove : Room := { frames := 1, cells := 0, slots := 0, locals := 21 }
def W_removeMove_l1 (w_moveCount : Int32) : Nat → Int32 → (Nat → Int32) → (Nat → Int32) → (Nat → Int32) → Option ((Nat → Int32) × (Nat → Int32) × (Nat → Int32))
  | 0, _, _, _, _ => none
  | n + 1, b2_2, w_moveActor_3, w_moveFrom_4, w_moveTo_5 => (if w_moveCount ≤ b2_2 then (some (w_moveActor_3, w_moveFrom_4, w_moveTo_5)) else (if (10 : Int32) ≤ b2_2 then (some (w_moveActor_3, w_moveFrom_4, w_moveTo_5)) else (g_chk (g_inb b2_2 10) (g_chk (g_inb (b2_2 - (1 : Int32)) 10) (g_chk (g_inb b2_2 10) (g_chk (g_inb (b2_2 - (1 : Int32)) 10) (g_chk (g_inb b2_2 10) (g_chk (g_inb (b2_2 - (1 : Int32)) 10) (W_removeMove_l1 w_moveCount n (b2_2 + (1 : Int32)) (upd w_moveActor_3 ((b2_2 - (1 : Int32))).toNatClampNeg (w_moveActor_3 b2_2.toNatClampNeg)) (upd w_moveFrom_4 ((b2_2 - (1 : Int32))).toNatClampNeg (w_moveFrom_4 b2_2.toNatClampNeg)) (upd w_moveTo_5 ((b2_2 - (1 : Int32))).toNatClampNeg (w_moveTo_5 b2_2.toNatClampNeg)))))))))))
theorem W_removeMove_l1_s (w_moveCount : Int32) (n : Nat) (b2_2 : Int32) (w_moveActor_3 : Nat → Int32) (w_moveFrom_4 : Nat → Int32) (w_moveTo_5 : Nat → Int32) : W_removeMove_l1 w_moveCount (n + 1) b2_2 w_moveActor_3 w_moveFrom_4 w_moveTo_5 = (if w_moveCount ≤ b2_2 then (some (w_moveActor_3, w_moveFrom_4, w_moveTo_5)) else (if (10 : Int32) ≤ b2_2 then (some (w_moveActor_3, w_moveFrom_4, w_moveTo_5)) else (g_chk (g_inb b2_2 10) (g_chk (g_inb (b2_2 - (1 : Int32)) 10) (g_chk (g_inb b2_2 10) (g_chk (g_inb (b2_2 - (1 : Int32)) 10) (g_chk (g_inb b2_2 10) (g_chk (g_inb (b2_2 - (1 : Int32)) 10) (W_removeMove_l1 w_moveCount n (b2_2 + (1 : Int32)) (upd w_moveActor_3 ((b2_2 - (1 : Int32))).toNatClampNeg (w_moveActor_3 b2_2.toNatClampNeg)) (upd w_moveFrom_4 ((b2_2 - (1 : Int32))).toNatClampNeg (w_moveFrom_4 b2_2.toNatClampNeg)) (upd w_moveTo_5 ((b2_2 - (1 : Int32))).toNatClampNeg (w_moveTo_5 b2_2.toNatClampNeg))))))))))) := rfl
def F_W_removeMove (N : Nat) (w_moveCount : Int32) (w_moveActor : Nat → Int32) (w_moveFrom : Nat → Int32) (w_moveTo : Nat → Int32) (a1 : Int32) : Option (Int32 × (Nat → Int32) × (Nat → Int32) × (Nat → Int32)) := (if (F_W_hasMove w_moveCount a1) = 0 then (some (w_moveCount, w_moveActor, w_moveFrom, w_moveTo)) else ((W_removeMove_l1 w_moveCount N (a1 + (1 : Int32)) w_moveActor w_moveFrom w_moveTo).bind fun o6 => (some ((w_moveCount - (1 : Int32)), o6.1, o6.2.1, o6.2.2))))
set_option maxRecDepth 100000 in
theorem ct_W_removeMove (N : Nat) (w_states : Int32) (w_moveCount : Int32) (w_stateLabel : Nat → Int32) (w_moveActor : Nat → Int32) (w_moveFrom : Nat → Int32) (w_moveTo : Nat → Int32) (w_csz : Int32) (w_clt : Int32) (w_cle : Nat → Int32) (w_ssz : Nat → Int32) (w_slt : Nat → Int32) (w_sle : Nat → Nat → Int32) (a1 : Int32) : g_F y_W_removeMove c_W_removeMove 3 none rm_W_removeMove [.ref 0, .int a1] (HW w_states w_moveCount w_stateLabel w_moveActor w_moveFrom w_moveTo w_csz w_clt w_cle w_ssz w_slt w_sle) (F_W_removeMove N w_moveCount w_moveActor w_moveFrom w_moveTo a1) (fun o => none) (fun o => (HW w_states o.1 w_stateLabel o.2.1 o.2.2.1 o.2.2.2 w_csz w_clt w_cle w_ssz w_slt w_sle)) := by
  intro l P hs
  refine g_ofG 5 (by decide +kernel) rfl (Nat.le_of_ble_eq_true rfl) (fun X hX => ?_)
  unfold F_W_removeMove at hs
  refine g_loc (L2 := [(0, .ref 0), (1, .int a1)]) [0, 1] rfl ?_
  refine g_blk 2 [(.aload_n 0, 0, 0, 0, 0), (.iload_n 1, 0, 0, 0, 0)] [] [(0, .ref 0), (1, .int a1)] [.int a1, .ref 0] (HW w_states w_moveCount w_stateLabel w_moveActor w_moveFrom w_moveTo w_csz w_clt w_cle w_ssz w_slt w_sle) (by decide +kernel) rfl g_nil ?_
  refine g_pM (ct_W_hasMove w_states w_moveCount w_stateLabel w_moveActor w_moveFrom w_moveTo w_csz w_clt w_cle w_ssz w_slt w_sle a1) 56 true 1 lk_5_56 (by decide +kernel) rfl ⟨rfl, rfl, by decide, by decide⟩ [] rfl (Nat.le_of_ble_eq_true rfl) (fun _ => ⟨0, 5, _, rfl, rfl, by decide, rfl⟩) ?_
  refine g_brn 9 (.ifCond .ne 4) ((F_W_hasMove w_moveCount a1) = 0) [] (by decide +kernel) rfl (fun c1 => ?_) (fun c1 => ?_)
  · have hs := g_sat_f hs c1
    refine g_blk 13 [(.iload_n 1, 0, 0, 0, 0), (.iconst 1, 0, 0, 1, 0), (.iadd, 0, 0, 0, 0), (.istore_n 2, 0, 0, 0, 0)] [] [(2, .int (a1 + (1 : Int32))), (0, .ref 0), (1, .int a1)] [] (HW w_states w_moveCount w_stateLabel w_moveActor w_moveFrom w_moveTo w_csz w_clt w_cle w_ssz w_slt w_sle) (by decide +kernel) rfl g_nil ?_
    refine g_loc (L2 := [(0, .ref 0), (2, .int (a1 + (1 : Int32)))]) [1, 0] rfl ?_
    refine g_join (fun (o6 : (Nat → Int32) × (Nat → Int32) × (Nat → Int32)) => g_G X rm_W_removeMove c_W_removeMove 3 5 none 75 [(0, .ref 0)] [] (HW w_states w_moveCount w_stateLabel o6.1 o6.2.1 o6.2.2 w_csz w_clt w_cle w_ssz w_slt w_sle)) hs (fun o6 hs => ?_) (fun hs => ?_)
    · refine g_blk 85 [(.aload_n 0, 0, 0, 0, 0), (.dup, 0, 0, 0, 0), (.getfield 47, 5, 1, 0, 0), (.iconst 1, 0, 0, 1, 0), (.isub, 0, 0, 0, 0), (.putfield 47, 5, 1, 1, 0)] [] [(0, .ref 0)] [] (HW w_states (w_moveCount - (1 : Int32)) w_stateLabel o6.1 o6.2.1 o6.2.2 w_csz w_clt w_cle w_ssz w_slt w_sle) (by decide +kernel) rfl g_nil ?_
      have hq := g_sat_s hs
      exact g_vret hX (by decide +kernel) rfl hq
    · have hlW_removeMove_l1 : ∀ (n : Nat) (b2_2 : Int32) (w_moveActor_3 : Nat → Int32) (w_moveFrom_4 : Nat → Int32) (w_moveTo_5 : Nat → Int32), g_sat (W_removeMove_l1 w_moveCount n b2_2 w_moveActor_3 w_moveFrom_4 w_moveTo_5) (fun (o6 : (Nat → Int32) × (Nat → Int32) × (Nat → Int32)) => g_G X rm_W_removeMove c_W_removeMove 3 5 none 75 [(0, .ref 0)] [] (HW w_states w_moveCount w_stateLabel o6.1 o6.2.1 o6.2.2 w_csz w_clt w_cle w_ssz w_slt w_sle)) → g_G X rm_W_removeMove c_W_removeMove 3 5 none 13 [(0, .ref 0), (2, .int b2_2)] [] (HW w_states w_moveCount w_stateLabel w_moveActor_3 w_moveFrom_4 w_moveTo_5 w_csz w_clt w_cle w_ssz w_slt w_sle) := by
        intro n
        induction n with
        | zero =>
          intro b2_2 w_moveActor_3 w_moveFrom_4 w_moveTo_5 hs
          obtain ⟨_, h0, _⟩ := hs
          cases h0
        | succ n ih =>
          intro b2_2 w_moveActor_3 w_moveFrom_4 w_moveTo_5 hs
          rw [W_removeMove_l1_s] at hs
          refine g_blk 18 [(.iload_n 2, 0, 0, 0, 0), (.aload_n 0, 0, 0, 0, 0), (.getfield 47, 5, 1, 0, 0)] [] [(0, .ref 0), (2, .int b2_2)] [.int w_moveCount, .int b2_2] (HW w_states w_moveCount w_stateLabel w_moveActor_3 w_moveFrom_4 w_moveTo_5 w_csz w_clt w_cle w_ssz w_slt w_sle) (by decide +kernel) rfl g_nil ?_
          refine g_br 75 (.if_icmp .ge 57) (w_moveCount ≤ b2_2) [] (by decide +kernel) rfl (fun c7 => ?_) (fun c7 => ?_)
          · have hs := g_sat_t hs c7
            refine g_loc (L2 := [(0, .ref 0)]) [0] rfl ?_
            have hq := g_sat_s hs
            exact hq
          · have hs := g_sat_f hs c7
            refine g_blk 24 [(.iload_n 2, 0, 0, 0, 0), (.bipush 10, 0, 0, 10, 0)] [] [(0, .ref 0), (2, .int b2_2)] [.int (10 : Int32), .int b2_2] (HW w_states w_moveCount w_stateLabel w_moveActor_3 w_moveFrom_4 w_moveTo_5 w_csz w_clt w_cle w_ssz w_slt w_sle) (by decide +kernel) rfl g_nil ?_
            refine g_br 75 (.if_icmp .ge 51) ((10 : Int32) ≤ b2_2) [] (by decide +kernel) rfl (fun c8 => ?_) (fun c8 => ?_)
            · have hs := g_sat_t hs c8
              refine g_loc (L2 := [(0, .ref 0)]) [0] rfl ?_
              have hq := g_sat_s hs
              exact hq
            · have hs := g_sat_f hs c8
              obtain ⟨h9, hs⟩ := g_sat_c hs
              obtain ⟨h10, hs⟩ := g_sat_c hs
              obtain ⟨h11, hs⟩ := g_sat_c hs
              obtain ⟨h12, hs⟩ := g_sat_c hs
              obtain ⟨h13, hs⟩ := g_sat_c hs
              obtain ⟨h14, hs⟩ := g_sat_c hs
              refine g_blk 13 [(.aload_n 0, 0, 0, 0, 0), (.getfield 15, 5, 3, 0, 0), (.iload_n 2, 0, 0, 0, 0), (.iconst 1, 0, 0, 1, 0), (.isub, 0, 0, 0, 0), (.aload_n 0, 0, 0, 0, 0), (.getfield 15, 5, 3, 0, 0), (.iload_n 2, 0, 0, 0, 0), (.iaload, 0, 0, 0, 0), (.iastore, 0, 0, 0, 0), (.aload_n 0, 0, 0, 0, 0), (.getfield 18, 5, 4, 0, 0), (.iload_n 2, 0, 0, 0, 0), (.iconst 1, 0, 0, 1, 0), (.isub, 0, 0, 0, 0), (.aload_n 0, 0, 0, 0, 0), (.getfield 18, 5, 4, 0, 0), (.iload_n 2, 0, 0, 0, 0), (.iaload, 0, 0, 0, 0), (.iastore, 0, 0, 0, 0), (.aload_n 0, 0, 0, 0, 0), (.getfield 21, 5, 5, 0, 0), (.iload_n 2, 0, 0, 0, 0), (.iconst 1, 0, 0, 1, 0), (.isub, 0, 0, 0, 0), (.aload_n 0, 0, 0, 0, 0), (.getfield 21, 5, 5, 0, 0), (.iload_n 2, 0, 0, 0, 0), (.iaload, 0, 0, 0, 0), (.iastore, 0, 0, 0, 0), (.iinc 2 1, 0, 0, 1, 0), (.goto (-59), 0, 0, 0, 0)] [vp_in b2_2 10, vp_in (b2_2 - (1 : Int32)) 10, vp_in b2_2 10, vp_in (b2_2 - (1 : Int32)) 10, vp_in b2_2 10, vp_in (b2_2 - (1 : Int32)) 10] [(2, .int (b2_2 + (1 : Int32))), (0, .ref 0)] [] (HW w_states w_moveCount w_stateLabel (upd w_moveActor_3 ((b2_2 - (1 : Int32))).toNatClampNeg (w_moveActor_3 b2_2.toNatClampNeg)) (upd w_moveFrom_4 ((b2_2 - (1 : Int32))).toNatClampNeg (w_moveFrom_4 b2_2.toNatClampNeg)) (upd w_moveTo_5 ((b2_2 - (1 : Int32))).toNatClampNeg (w_moveTo_5 b2_2.toNatClampNeg)) w_csz w_clt w_cle w_ssz w_slt w_sle) (by decide +kernel) rfl (g_and (g_inb_in h9) (g_and (g_inb_in h10) (g_and (g_inb_in h11) (g_and (g_inb_in h12) (g_and (g_inb_in h13) (g_and (g_inb_in h14) g_nil)))))) ?_
              refine g_loc (L2 := [(0, .ref 0), (2, .int (b2_2 + (1 : Int32)))]) [1, 0] rfl ?_
              exact ih _ _ _ _ hs
      exact hlW_removeMove_l1 N _ _ _ _ hs
  · have hs := g_sat_t hs c1
    have hq := g_sat_s hs
    exact g_vret hX (by decide +kernel) rfl hq
