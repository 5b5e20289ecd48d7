abbrev rm_T_firstNodes : Room := { frames := 0, cells := 0, slots := 0, locals := 0 }
def F_T_firstNodes (a0 : Int32) : Int64 := (if a0 < (64 : Int32) then ((g_lshl (1 : Int64) a0) - (1 : Int64)) else (-1 : Int64))
set_option maxRecDepth 100000 in
theorem ct_T_firstNodes (a0 : Int32) : g_F y_T_firstNodes c_T_firstNodes 1 (some .long) rm_T_firstNodes [.int a0] [] (some (F_T_firstNodes a0)) (fun o => some (.long o)) (fun _ => []) := by
  intro l P hs
  refine g_ofG 4 (by decide +kernel) rfl (Nat.le_of_ble_eq_true rfl) (fun X hX => ?_)
  unfold F_T_firstNodes at hs
  refine g_loc (L2 := [(0, .int a0)]) [0] rfl ?_
  refine g_blk 3 [(.iload_n 0, 0, 0, 0, 0), (.bipush 64, 0, 0, 64, 0)] [] [(0, .int a0)] [.int (64 : Int32), .int a0] [] (by decide +kernel) rfl g_nil ?_
  have hJ2 : ∀ (v2 : Int64) (ev2 : v2 = (if a0 < (64 : Int32) then ((g_lshl (1 : Int64) a0) - (1 : Int64)) else (-1 : Int64))), g_G X rm_T_firstNodes c_T_firstNodes 1 4 (some .long) 17 [] [.long v2] [] := by
    intro v2 ev2
    subst ev2
    have hq := g_sat_s hs
    exact g_lret hX (by decide +kernel) rfl hq
  refine g_br 12 (.if_icmp .lt 9) (a0 < (64 : Int32)) [] (by decide +kernel) rfl (fun c4 => ?_) (fun c4 => ?_)
  · refine g_blk 17 [(.lconst 1, 0, 0, 0, 1), (.iload_n 0, 0, 0, 0, 0), (.lshl, 0, 0, 0, 0), (.lconst 1, 0, 0, 0, 1), (.lsub, 0, 0, 0, 0)] [] [(0, .int a0)] [.long ((g_lshl (1 : Int64) a0) - (1 : Int64))] [] (by decide +kernel) rfl g_nil ?_
    refine g_loc (L2 := []) [] rfl ?_
    exact hJ2 _ (by rw [if_pos c4])
  · refine g_blk 17 [(.ldc2_w 111, 0, 0, 0, (-1)), (.goto 8, 0, 0, 0, 0)] [] [(0, .int a0)] [.long (-1 : Int64)] [] (by decide +kernel) rfl g_nil ?_
    refine g_loc (L2 := []) [] rfl ?_
    exact hJ2 _ (by rw [if_neg c4])
abbrev HT (d_label : Nat → Int32) (d_tg : Nat → Nat → Int32) (d_places : Int32) (t_guesses : Int32) (t_nodes : Int32) (t_all : Int64) (t_np0 : Int64) (t_so : Nat → Int64) (t_laters : Int32) (t_waiting : Nat → Int64) (t_meanwhile : Nat → Int64) (t_goal : Nat → Int64) (t_atNext : Nat → Int32) (t_steps : Nat → Nat → Int64) (t_due : Int32) (t_met : Nat → Int32) (t_mbs : Nat → Int32) (t_reach : Nat → Int64) (t_ring : Nat → Int64) (t_core : Int64) (t_live : Int64) : List g_E := [.inr (4, [.ref 1, .int t_guesses, .int t_nodes, .long t_all, .long t_np0, .ref 7, .int t_laters, .ref 8, .ref 9, .ref 10, .ref 11, .ref 12, .int t_due, .ref 16, .ref 17, .ref 18, .ref 19, .long t_core, .long t_live]), .inr (1, [.int d_places, .ref 2, .ref 3]), .inl (.int, 8, .inl d_label), .inl (.array .int, 3, .inr (.inr (.inr (.inr (g_rl [4, 5, 6]))))), .inl (.int, 8, .inl (d_tg 0)), .inl (.int, 8, .inl (d_tg 1)), .inl (.int, 8, .inl (d_tg 2)), .inl (.long, 16, .inr (.inl t_so)), .inl (.long, 3, .inr (.inl t_waiting)), .inl (.long, 3, .inr (.inl t_meanwhile)), .inl (.long, 3, .inr (.inl t_goal)), .inl (.boolean, 3, .inl t_atNext), .inl (.array .long, 3, .inr (.inr (.inr (.inr (g_rl [13, 14, 15]))))), .inl (.long, 64, .inr (.inl (t_steps 0))), .inl (.long, 64, .inr (.inl (t_steps 1))), .inl (.long, 64, .inr (.inl (t_steps 2))), .inl (.int, 64, .inl t_met), .inl (.int, 3, .inl t_mbs), .inl (.long, 64, .inr (.inl t_reach)), .inl (.long, 64, .inr (.inl t_ring))]
theorem HT_rn (f : Nat → Nat) (d_label : Nat → Int32) (d_tg : Nat → Nat → Int32) (d_places : Int32) (t_guesses : Int32) (t_nodes : Int32) (t_all : Int64) (t_np0 : Int64) (t_so : Nat → Int64) (t_laters : Int32) (t_waiting : Nat → Int64) (t_meanwhile : Nat → Int64) (t_goal : Nat → Int64) (t_atNext : Nat → Int32) (t_steps : Nat → Nat → Int64) (t_due : Int32) (t_met : Nat → Int32) (t_mbs : Nat → Int32) (t_reach : Nat → Int64) (t_ring : Nat → Int64) (t_core : Int64) (t_live : Int64) : (HT d_label d_tg d_places t_guesses t_nodes t_all t_np0 t_so t_laters t_waiting t_meanwhile t_goal t_atNext t_steps t_due t_met t_mbs t_reach t_ring t_core t_live).map (g_rnE f) = [.inr (4, [.ref (f 1), .int t_guesses, .int t_nodes, .long t_all, .long t_np0, .ref (f 7), .int t_laters, .ref (f 8), .ref (f 9), .ref (f 10), .ref (f 11), .ref (f 12), .int t_due, .ref (f 16), .ref (f 17), .ref (f 18), .ref (f 19), .long t_core, .long t_live]), .inr (1, [.int d_places, .ref (f 2), .ref (f 3)]), .inl (.int, 8, .inl d_label), .inl (.array .int, 3, .inr (.inr (.inr (.inr (g_rl [f 4, f 5, f 6]))))), .inl (.int, 8, .inl (d_tg 0)), .inl (.int, 8, .inl (d_tg 1)), .inl (.int, 8, .inl (d_tg 2)), .inl (.long, 16, .inr (.inl t_so)), .inl (.long, 3, .inr (.inl t_waiting)), .inl (.long, 3, .inr (.inl t_meanwhile)), .inl (.long, 3, .inr (.inl t_goal)), .inl (.boolean, 3, .inl t_atNext), .inl (.array .long, 3, .inr (.inr (.inr (.inr (g_rl [f 13, f 14, f 15]))))), .inl (.long, 64, .inr (.inl (t_steps 0))), .inl (.long, 64, .inr (.inl (t_steps 1))), .inl (.long, 64, .inr (.inl (t_steps 2))), .inl (.int, 64, .inl t_met), .inl (.int, 3, .inl t_mbs), .inl (.long, 64, .inr (.inl t_reach)), .inl (.long, 64, .inr (.inl t_ring))] := by
  simp only [HT, List.map_cons, List.map_nil, g_rn_rl]
  rfl
abbrev rm_T_open : Room := { frames := 1, cells := 0, slots := 0, locals := 21 }
def F_T_open (d_places : Int32) (a1 : Int32) : Option (Int32 × Int32 × Int64 × Int64 × Int32) := (some ((g_imax (0 : Int32) (g_imin a1 (3 : Int32))), (g_imin (g_ishl d_places (g_imax (0 : Int32) (g_imin a1 (3 : Int32)))) (64 : Int32)), (F_T_firstNodes (g_imin (g_ishl d_places (g_imax (0 : Int32) (g_imin a1 (3 : Int32)))) (64 : Int32))), (F_T_firstNodes (g_ishl (1 : Int32) (g_imax (0 : Int32) (g_imin a1 (3 : Int32))))), (0 : Int32)))
set_option maxRecDepth 100000 in
theorem ct_T_open (d_label : Nat → Int32) (d_tg : Nat → Nat → Int32) (d_places : Int32) (t_guesses : Int32) (t_nodes : Int32) (t_all : Int64) (t_np0 : Int64) (t_so : Nat → Int64) (t_laters : Int32) (t_waiting : Nat → Int64) (t_meanwhile : Nat → Int64) (t_goal : Nat → Int64) (t_atNext : Nat → Int32) (t_steps : Nat → Nat → Int64) (t_due : Int32) (t_met : Nat → Int32) (t_mbs : Nat → Int32) (t_reach : Nat → Int64) (t_ring : Nat → Int64) (t_core : Int64) (t_live : Int64) (a1 : Int32) : g_F y_T_open c_T_open 2 none rm_T_open [.ref 0, .int a1] (HT d_label d_tg d_places t_guesses t_nodes t_all t_np0 t_so t_laters t_waiting t_meanwhile t_goal t_atNext t_steps t_due t_met t_mbs t_reach t_ring t_core t_live) (F_T_open d_places a1) (fun o => none) (fun o => (HT d_label d_tg d_places o.1 o.2.1 o.2.2.1 o.2.2.2.1 t_so o.2.2.2.2 t_waiting t_meanwhile t_goal t_atNext t_steps t_due t_met t_mbs t_reach t_ring t_core t_live)) := by
  intro l P hs
  refine g_ofG 4 (by decide +kernel) rfl (Nat.le_of_ble_eq_true rfl) (fun X hX => ?_)
  unfold F_T_open at hs
  refine g_loc (L2 := [(0, .ref 0), (1, .int a1)]) [0, 1] rfl ?_
  refine g_blk 39 [(.aload_n 0, 0, 0, 0, 0), (.iconst 0, 0, 0, 0, 0), (.iload_n 1, 0, 0, 0, 0), (.iconst 3, 0, 0, 3, 0), (.invokestatic 53, 1, 0, 0, 0), (.invokestatic 59, 2, 0, 0, 0), (.putfield 62, 4, 1, 1, 0), (.aload_n 0, 0, 0, 0, 0), (.aload_n 0, 0, 0, 0, 0), (.getfield 12, 4, 0, 0, 0), (.getfield 66, 1, 0, 0, 0), (.aload_n 0, 0, 0, 0, 0), (.getfield 62, 4, 1, 0, 0), (.ishl, 0, 0, 0, 0), (.bipush 64, 0, 0, 64, 0), (.invokestatic 53, 1, 0, 0, 0), (.putfield 69, 4, 2, 1, 0), (.aload_n 0, 0, 0, 0, 0), (.aload_n 0, 0, 0, 0, 0), (.getfield 69, 4, 2, 0, 0)] [1 ≤ rm_T_open.frames ∧ (([.int (0 : Int32), .ref 0] : List Value).map fun v => v.category).sum + 13 ≤ rm_T_open.locals, 1 ≤ rm_T_open.frames ∧ (([.ref 0] : List Value).map fun v => v.category).sum + 13 ≤ rm_T_open.locals, 1 ≤ rm_T_open.frames ∧ (([.ref 0] : List Value).map fun v => v.category).sum + 13 ≤ rm_T_open.locals] [(0, .ref 0), (1, .int a1)] [.int (g_imin (g_ishl d_places (g_imax (0 : Int32) (g_imin a1 (3 : Int32)))) (64 : Int32)), .ref 0] (HT d_label d_tg d_places (g_imax (0 : Int32) (g_imin a1 (3 : Int32))) (g_imin (g_ishl d_places (g_imax (0 : Int32) (g_imin a1 (3 : Int32)))) (64 : Int32)) t_all t_np0 t_so t_laters t_waiting t_meanwhile t_goal t_atNext t_steps t_due t_met t_mbs t_reach t_ring t_core t_live) (by decide +kernel) rfl (g_and ⟨by decide, Nat.le_of_ble_eq_true rfl⟩ (g_and ⟨by decide, Nat.le_of_ble_eq_true rfl⟩ (g_and ⟨by decide, Nat.le_of_ble_eq_true rfl⟩ g_nil))) ?_
  refine g_pN (ct_T_firstNodes (g_imin (g_ishl d_places (g_imax (0 : Int32) (g_imin a1 (3 : Int32)))) (64 : Int32))) 72 1 lk_4_72 (by decide +kernel) rfl ⟨rfl, rfl, by decide, by decide⟩ [.ref 0] rfl (Nat.le_of_ble_eq_true rfl) ?_
  refine g_blk 52 [(.putfield 76, 4, 3, 2, 0), (.aload_n 0, 0, 0, 0, 0), (.iconst 1, 0, 0, 1, 0), (.aload_n 0, 0, 0, 0, 0), (.getfield 62, 4, 1, 0, 0), (.ishl, 0, 0, 0, 0)] [] [(0, .ref 0), (1, .int a1)] [.int (g_ishl (1 : Int32) (g_imax (0 : Int32) (g_imin a1 (3 : Int32)))), .ref 0] (HT d_label d_tg d_places (g_imax (0 : Int32) (g_imin a1 (3 : Int32))) (g_imin (g_ishl d_places (g_imax (0 : Int32) (g_imin a1 (3 : Int32)))) (64 : Int32)) (F_T_firstNodes (g_imin (g_ishl d_places (g_imax (0 : Int32) (g_imin a1 (3 : Int32)))) (64 : Int32))) t_np0 t_so t_laters t_waiting t_meanwhile t_goal t_atNext t_steps t_due t_met t_mbs t_reach t_ring t_core t_live) (by decide +kernel) rfl g_nil ?_
  refine g_pN (ct_T_firstNodes (g_ishl (1 : Int32) (g_imax (0 : Int32) (g_imin a1 (3 : Int32))))) 72 1 lk_4_72 (by decide +kernel) rfl ⟨rfl, rfl, by decide, by decide⟩ [.ref 0] rfl (Nat.le_of_ble_eq_true rfl) ?_
  refine g_blk 63 [(.putfield 80, 4, 4, 2, 0), (.aload_n 0, 0, 0, 0, 0), (.iconst 0, 0, 0, 0, 0), (.putfield 83, 4, 6, 1, 0)] [] [(0, .ref 0), (1, .int a1)] [] (HT d_label d_tg d_places (g_imax (0 : Int32) (g_imin a1 (3 : Int32))) (g_imin (g_ishl d_places (g_imax (0 : Int32) (g_imin a1 (3 : Int32)))) (64 : Int32)) (F_T_firstNodes (g_imin (g_ishl d_places (g_imax (0 : Int32) (g_imin a1 (3 : Int32)))) (64 : Int32))) (F_T_firstNodes (g_ishl (1 : Int32) (g_imax (0 : Int32) (g_imin a1 (3 : Int32))))) t_so (0 : Int32) t_waiting t_meanwhile t_goal t_atNext t_steps t_due t_met t_mbs t_reach t_ring t_core t_live) (by decide +kernel) rfl g_nil ?_
  have hq := g_sat_s hs
  exact g_vret hX (by decide +kernel) rfl hq
abbrev rm_T_nodesOf : Room := { frames := 0, cells := 0, slots := 0, locals := 0 }
def F_T_nodesOf (d_places : Int32) (t_guesses : Int32) (t_np0 : Int64) (a1 : Int32) : Int64 := (if a1 < 0 then (0 : Int64) else (if a1 < d_places then (g_lshl t_np0 (g_ishl a1 t_guesses)) else (0 : Int64)))
set_option maxRecDepth 100000 in
theorem ct_T_nodesOf (d_label : Nat → Int32) (d_tg : Nat → Nat → Int32) (d_places : Int32) (t_guesses : Int32) (t_nodes : Int32) (t_all : Int64) (t_np0 : Int64) (t_so : Nat → Int64) (t_laters : Int32) (t_waiting : Nat → Int64) (t_meanwhile : Nat → Int64) (t_goal : Nat → Int64) (t_atNext : Nat → Int32) (t_steps : Nat → Nat → Int64) (t_due : Int32) (t_met : Nat → Int32) (t_mbs : Nat → Int32) (t_reach : Nat → Int64) (t_ring : Nat → Int64) (t_core : Int64) (t_live : Int64) (a1 : Int32) : g_F y_T_nodesOf c_T_nodesOf 2 (some .long) rm_T_nodesOf [.ref 0, .int a1] (HT d_label d_tg d_places t_guesses t_nodes t_all t_np0 t_so t_laters t_waiting t_meanwhile t_goal t_atNext t_steps t_due t_met t_mbs t_reach t_ring t_core t_live) (some (F_T_nodesOf d_places t_guesses t_np0 a1)) (fun o => some (.long o)) (fun _ => (HT d_label d_tg d_places t_guesses t_nodes t_all t_np0 t_so t_laters t_waiting t_meanwhile t_goal t_atNext t_steps t_due t_met t_mbs t_reach t_ring t_core t_live)) := by
  intro l P hs
  refine g_ofG 4 (by decide +kernel) rfl (Nat.le_of_ble_eq_true rfl) (fun X hX => ?_)
  unfold F_T_nodesOf at hs
  refine g_loc (L2 := [(0, .ref 0), (1, .int a1)]) [0, 1] rfl ?_
  refine g_blk 1 [(.iload_n 1, 0, 0, 0, 0)] [] [(0, .ref 0), (1, .int a1)] [.int a1] (HT d_label d_tg d_places t_guesses t_nodes t_all t_np0 t_so t_laters t_waiting t_meanwhile t_goal t_atNext t_steps t_due t_met t_mbs t_reach t_ring t_core t_live) (by decide +kernel) rfl g_nil ?_
  refine g_br 15 (.ifCond .lt 14) (a1 < 0) [] (by decide +kernel) rfl (fun c1 => ?_) (fun c1 => ?_)
  · have hs := g_sat_pt hs c1
    refine g_blk 16 [(.lconst 0, 0, 0, 0, 0)] [] [(0, .ref 0), (1, .int a1)] [.long (0 : Int64)] (HT d_label d_tg d_places t_guesses t_nodes t_all t_np0 t_so t_laters t_waiting t_meanwhile t_goal t_atNext t_steps t_due t_met t_mbs t_reach t_ring t_core t_live) (by decide +kernel) rfl g_nil ?_
    have hq := g_sat_s hs
    exact g_lret hX (by decide +kernel) rfl hq
  · have hs := g_sat_pf hs c1
    refine g_blk 12 [(.iload_n 1, 0, 0, 0, 0), (.aload_n 0, 0, 0, 0, 0), (.getfield 12, 4, 0, 0, 0), (.getfield 66, 1, 0, 0, 0)] [] [(0, .ref 0), (1, .int a1)] [.int d_places, .int a1] (HT d_label d_tg d_places t_guesses t_nodes t_all t_np0 t_so t_laters t_waiting t_meanwhile t_goal t_atNext t_steps t_due t_met t_mbs t_reach t_ring t_core t_live) (by decide +kernel) rfl g_nil ?_
    refine g_br 17 (.if_icmp .lt 5) (a1 < d_places) [] (by decide +kernel) rfl (fun c2 => ?_) (fun c2 => ?_)
    · have hs := g_sat_pt hs c2
      refine g_blk 28 [(.aload_n 0, 0, 0, 0, 0), (.getfield 80, 4, 4, 0, 0), (.iload_n 1, 0, 0, 0, 0), (.aload_n 0, 0, 0, 0, 0), (.getfield 62, 4, 1, 0, 0), (.ishl, 0, 0, 0, 0), (.lshl, 0, 0, 0, 0)] [] [(0, .ref 0), (1, .int a1)] [.long (g_lshl t_np0 (g_ishl a1 t_guesses))] (HT d_label d_tg d_places t_guesses t_nodes t_all t_np0 t_so t_laters t_waiting t_meanwhile t_goal t_atNext t_steps t_due t_met t_mbs t_reach t_ring t_core t_live) (by decide +kernel) rfl g_nil ?_
      have hq := g_sat_s hs
      exact g_lret hX (by decide +kernel) rfl hq
    · have hs := g_sat_pf hs c2
      refine g_blk 16 [(.lconst 0, 0, 0, 0, 0)] [] [(0, .ref 0), (1, .int a1)] [.long (0 : Int64)] (HT d_label d_tg d_places t_guesses t_nodes t_all t_np0 t_so t_laters t_waiting t_meanwhile t_goal t_atNext t_steps t_due t_met t_mbs t_reach t_ring t_core t_live) (by decide +kernel) rfl g_nil ?_
      have hq := g_sat_s hs
      exact g_lret hX (by decide +kernel) rfl hq
abbrev rm_T_labelled : Room := { frames := 1, cells := 0, slots := 0, locals := 21 }
def T_labelled_l1 (d_places : Int32) (d_label : Nat → Int32) (a1 : Int32) (t_guesses : Int32) (t_np0 : Int64) : Nat → Int64 → Int32 → Option Int64
  | 0, _, _ => none
  | n + 1, b2_1, b4_2 => (if d_places ≤ b4_2 then (some b2_1) else (if (8 : Int32) ≤ b4_2 then (some b2_1) else (g_chk (g_inb b4_2 8) (T_labelled_l1 d_places d_label a1 t_guesses t_np0 n (if ((g_ishr (d_label b4_2.toNatClampNeg) a1) &&& (1 : Int32)) = 0 then b2_1 else (b2_1 ||| (F_T_nodesOf d_places t_guesses t_np0 b4_2))) (b4_2 + (1 : Int32))))))
theorem T_labelled_l1_s (d_places : Int32) (d_label : Nat → Int32) (a1 : Int32) (t_guesses : Int32) (t_np0 : Int64) (n : Nat) (b2_1 : Int64) (b4_2 : Int32) : T_labelled_l1 d_places d_label a1 t_guesses t_np0 (n + 1) b2_1 b4_2 = (if d_places ≤ b4_2 then (some b2_1) else (if (8 : Int32) ≤ b4_2 then (some b2_1) else (g_chk (g_inb b4_2 8) (T_labelled_l1 d_places d_label a1 t_guesses t_np0 n (if ((g_ishr (d_label b4_2.toNatClampNeg) a1) &&& (1 : Int32)) = 0 then b2_1 else (b2_1 ||| (F_T_nodesOf d_places t_guesses t_np0 b4_2))) (b4_2 + (1 : Int32)))))) := rfl
def F_T_labelled (N : Nat) (d_label : Nat → Int32) (d_places : Int32) (t_guesses : Int32) (t_np0 : Int64) (a1 : Int32) : Option Int64 := ((T_labelled_l1 d_places d_label a1 t_guesses t_np0 N (0 : Int64) (0 : Int32)).bind fun o3 => (some o3))
set_option maxRecDepth 100000 in
theorem ct_T_labelled (N : Nat) (d_label : Nat → Int32) (d_tg : Nat → Nat → Int32) (d_places : Int32) (t_guesses : Int32) (t_nodes : Int32) (t_all : Int64) (t_np0 : Int64) (t_so : Nat → Int64) (t_laters : Int32) (t_waiting : Nat → Int64) (t_meanwhile : Nat → Int64) (t_goal : Nat → Int64) (t_atNext : Nat → Int32) (t_steps : Nat → Nat → Int64) (t_due : Int32) (t_met : Nat → Int32) (t_mbs : Nat → Int32) (t_reach : Nat → Int64) (t_ring : Nat → Int64) (t_core : Int64) (t_live : Int64) (a1 : Int32) : g_F y_T_labelled c_T_labelled 5 (some .long) rm_T_labelled [.ref 0, .int a1] (HT d_label d_tg d_places t_guesses t_nodes t_all t_np0 t_so t_laters t_waiting t_meanwhile t_goal t_atNext t_steps t_due t_met t_mbs t_reach t_ring t_core t_live) (F_T_labelled N d_label d_places t_guesses t_np0 a1) (fun o => some (.long o)) (fun _ => (HT d_label d_tg d_places t_guesses t_nodes t_all t_np0 t_so t_laters t_waiting t_meanwhile t_goal t_atNext t_steps t_due t_met t_mbs t_reach t_ring t_core t_live)) := by
  intro l P hs
  refine g_ofG 4 (by decide +kernel) rfl (Nat.le_of_ble_eq_true rfl) (fun X hX => ?_)
  unfold F_T_labelled at hs
  refine g_loc (L2 := [(0, .ref 0), (1, .int a1)]) [0, 1] rfl ?_
  refine g_blk 5 [(.lconst 0, 0, 0, 0, 0), (.lstore_n 2, 0, 0, 0, 0), (.iconst 0, 0, 0, 0, 0), (.istore 4, 0, 0, 0, 0)] [] [(4, .int (0 : Int32)), (2, .long (0 : Int64)), (0, .ref 0), (1, .int a1)] [] (HT d_label d_tg d_places t_guesses t_nodes t_all t_np0 t_so t_laters t_waiting t_meanwhile t_goal t_atNext t_steps t_due t_met t_mbs t_reach t_ring t_core t_live) (by decide +kernel) rfl g_nil ?_
  refine g_loc (L2 := [(0, .ref 0), (1, .int a1), (2, .long (0 : Int64)), (4, .int (0 : Int32))]) [2, 3, 1, 0] rfl ?_
  refine g_join (fun (o3 : Int64) => g_G X rm_T_labelled c_T_labelled 5 4 (some .long) 56 [(2, .long o3)] [] (HT d_label d_tg d_places t_guesses t_nodes t_all t_np0 t_so t_laters t_waiting t_meanwhile t_goal t_atNext t_steps t_due t_met t_mbs t_reach t_ring t_core t_live)) hs (fun o3 hs => ?_) (fun hs => ?_)
  · refine g_blk 57 [(.lload_n 2, 0, 0, 0, 0)] [] [(2, .long o3)] [.long o3] (HT d_label d_tg d_places t_guesses t_nodes t_all t_np0 t_so t_laters t_waiting t_meanwhile t_goal t_atNext t_steps t_due t_met t_mbs t_reach t_ring t_core t_live) (by decide +kernel) rfl g_nil ?_
    have hq := g_sat_s hs
    exact g_lret hX (by decide +kernel) rfl hq
  · have hlT_labelled_l1 : ∀ (n : Nat) (b2_1 : Int64) (b4_2 : Int32), g_sat (T_labelled_l1 d_places d_label a1 t_guesses t_np0 n b2_1 b4_2) (fun (o3 : Int64) => g_G X rm_T_labelled c_T_labelled 5 4 (some .long) 56 [(2, .long o3)] [] (HT d_label d_tg d_places t_guesses t_nodes t_all t_np0 t_so t_laters t_waiting t_meanwhile t_goal t_atNext t_steps t_due t_met t_mbs t_reach t_ring t_core t_live)) → g_G X rm_T_labelled c_T_labelled 5 4 (some .long) 5 [(0, .ref 0), (1, .int a1), (2, .long b2_1), (4, .int b4_2)] [] (HT d_label d_tg d_places t_guesses t_nodes t_all t_np0 t_so t_laters t_waiting t_meanwhile t_goal t_atNext t_steps t_due t_met t_mbs t_reach t_ring t_core t_live) := by
      intro n
      induction n with
      | zero =>
        intro b2_1 b4_2 hs
        obtain ⟨_, h0, _⟩ := hs
        cases h0
      | succ n ih =>
        intro b2_1 b4_2 hs
        rw [T_labelled_l1_s] at hs
        refine g_blk 14 [(.iload 4, 0, 0, 0, 0), (.aload_n 0, 0, 0, 0, 0), (.getfield 12, 4, 0, 0, 0), (.getfield 66, 1, 0, 0, 0)] [] [(0, .ref 0), (1, .int a1), (2, .long b2_1), (4, .int b4_2)] [.int d_places, .int b4_2] (HT d_label d_tg d_places t_guesses t_nodes t_all t_np0 t_so t_laters t_waiting t_meanwhile t_goal t_atNext t_steps t_due t_met t_mbs t_reach t_ring t_core t_live) (by decide +kernel) rfl g_nil ?_
        refine g_br 56 (.if_icmp .ge 42) (d_places ≤ b4_2) [] (by decide +kernel) rfl (fun c4 => ?_) (fun c4 => ?_)
        · have hs := g_sat_t hs c4
          refine g_loc (L2 := [(2, .long b2_1)]) [2] rfl ?_
          have hq := g_sat_s hs
          exact hq
        · have hs := g_sat_f hs c4
          refine g_blk 21 [(.iload 4, 0, 0, 0, 0), (.bipush 8, 0, 0, 8, 0)] [] [(0, .ref 0), (1, .int a1), (2, .long b2_1), (4, .int b4_2)] [.int (8 : Int32), .int b4_2] (HT d_label d_tg d_places t_guesses t_nodes t_all t_np0 t_so t_laters t_waiting t_meanwhile t_goal t_atNext t_steps t_due t_met t_mbs t_reach t_ring t_core t_live) (by decide +kernel) rfl g_nil ?_
          refine g_br 56 (.if_icmp .ge 35) ((8 : Int32) ≤ b4_2) [] (by decide +kernel) rfl (fun c5 => ?_) (fun c5 => ?_)
          · have hs := g_sat_t hs c5
            refine g_loc (L2 := [(2, .long b2_1)]) [2] rfl ?_
            have hq := g_sat_s hs
            exact hq
          · have hs := g_sat_f hs c5
            obtain ⟨h6, hs⟩ := g_sat_c hs
            refine g_blk 38 [(.aload_n 0, 0, 0, 0, 0), (.getfield 12, 4, 0, 0, 0), (.getfield 130, 1, 1, 0, 0), (.iload 4, 0, 0, 0, 0), (.iaload, 0, 0, 0, 0), (.iload_n 1, 0, 0, 0, 0), (.ishr, 0, 0, 0, 0), (.iconst 1, 0, 0, 1, 0), (.iand, 0, 0, 0, 0)] [vp_in b4_2 8] [(0, .ref 0), (1, .int a1), (2, .long b2_1), (4, .int b4_2)] [.int ((g_ishr (d_label b4_2.toNatClampNeg) a1) &&& (1 : Int32))] (HT d_label d_tg d_places t_guesses t_nodes t_all t_np0 t_so t_laters t_waiting t_meanwhile t_goal t_atNext t_steps t_due t_met t_mbs t_reach t_ring t_core t_live) (by decide +kernel) rfl (g_and (g_inb_in h6) g_nil) ?_
            have hJ8 : ∀ (v8 : Int64) (ev8 : v8 = (if ((g_ishr (d_label b4_2.toNatClampNeg) a1) &&& (1 : Int32)) = 0 then b2_1 else (b2_1 ||| (F_T_nodesOf d_places t_guesses t_np0 b4_2)))), g_G X rm_T_labelled c_T_labelled 5 4 (some .long) 50 [(0, .ref 0), (1, .int a1), (2, .long v8), (4, .int b4_2)] [] (HT d_label d_tg d_places t_guesses t_nodes t_all t_np0 t_so t_laters t_waiting t_meanwhile t_goal t_atNext t_steps t_due t_met t_mbs t_reach t_ring t_core t_live) := by
              intro v8 ev8
              subst ev8
              refine g_blk 5 [(.iinc 4 1, 0, 0, 1, 0), (.goto (-48), 0, 0, 0, 0)] [] [(4, .int (b4_2 + (1 : Int32))), (0, .ref 0), (1, .int a1), (2, .long (if ((g_ishr (d_label b4_2.toNatClampNeg) a1) &&& (1 : Int32)) = 0 then b2_1 else (b2_1 ||| (F_T_nodesOf d_places t_guesses t_np0 b4_2))))] [] (HT d_label d_tg d_places t_guesses t_nodes t_all t_np0 t_so t_laters t_waiting t_meanwhile t_goal t_atNext t_steps t_due t_met t_mbs t_reach t_ring t_core t_live) (by decide +kernel) rfl g_nil ?_
              refine g_loc (L2 := [(0, .ref 0), (1, .int a1), (2, .long (if ((g_ishr (d_label b4_2.toNatClampNeg) a1) &&& (1 : Int32)) = 0 then b2_1 else (b2_1 ||| (F_T_nodesOf d_places t_guesses t_np0 b4_2)))), (4, .int (b4_2 + (1 : Int32)))]) [1, 2, 3, 0] rfl ?_
              exact ih _ _ hs
            refine g_br 50 (.ifCond .eq 12) (((g_ishr (d_label b4_2.toNatClampNeg) a1) &&& (1 : Int32)) = 0) [] (by decide +kernel) rfl (fun c10 => ?_) (fun c10 => ?_)
            · exact hJ8 _ (by rw [if_pos c10])
            · refine g_blk 45 [(.lload_n 2, 0, 0, 0, 0), (.aload_n 0, 0, 0, 0, 0), (.iload 4, 0, 0, 0, 0)] [] [(0, .ref 0), (1, .int a1), (2, .long b2_1), (4, .int b4_2)] [.int b4_2, .ref 0, .long b2_1] (HT d_label d_tg d_places t_guesses t_nodes t_all t_np0 t_so t_laters t_waiting t_meanwhile t_goal t_atNext t_steps t_due t_met t_mbs t_reach t_ring t_core t_live) (by decide +kernel) rfl g_nil ?_
              refine g_pM (ct_T_nodesOf d_label d_tg d_places t_guesses t_nodes t_all t_np0 t_so t_laters t_waiting t_meanwhile t_goal t_atNext t_steps t_due t_met t_mbs t_reach t_ring t_core t_live b4_2) 133 true 1 lk_4_133 (by decide +kernel) rfl ⟨rfl, rfl, by decide, by decide⟩ [.long b2_1] rfl (Nat.le_of_ble_eq_true rfl) (fun _ => ⟨0, 4, _, rfl, rfl, by decide, rfl⟩) ?_
              refine g_blk 50 [(.lor, 0, 0, 0, 0), (.lstore_n 2, 0, 0, 0, 0)] [] [(2, .long (b2_1 ||| (F_T_nodesOf d_places t_guesses t_np0 b4_2))), (0, .ref 0), (1, .int a1), (4, .int b4_2)] [] (HT d_label d_tg d_places t_guesses t_nodes t_all t_np0 t_so t_laters t_waiting t_meanwhile t_goal t_atNext t_steps t_due t_met t_mbs t_reach t_ring t_core t_live) (by decide +kernel) rfl g_nil ?_
              refine g_loc (L2 := [(0, .ref 0), (1, .int a1), (2, .long (b2_1 ||| (F_T_nodesOf d_places t_guesses t_np0 b4_2))), (4, .int b4_2)]) [1, 2, 0, 3] rfl ?_
              exact hJ8 _ (by rw [if_neg c10])
    exact hlT_labelled_l1 N _ _ hs
abbrev rm_T_addLater : Room := { frames := 0, cells := 0, slots := 0, locals := 0 }
def T_addLater_l1 (t_nodes : Int32) (t_laters : Int32) : Nat → Int64 → Int32 → Option Int64
  | 0, _, _ => none
  | n + 1, b7_4, b9_5 => (if t_nodes ≤ b9_5 then (some b7_4) else (T_addLater_l1 t_nodes t_laters n (if ((g_ishr b9_5 t_laters) &&& (1 : Int32)) = 0 then b7_4 else (b7_4 ||| (g_lshl (1 : Int64) b9_5))) (b9_5 + (1 : Int32))))
theorem T_addLater_l1_s (t_nodes : Int32) (t_laters : Int32) (n : Nat) (b7_4 : Int64) (b9_5 : Int32) : T_addLater_l1 t_nodes t_laters (n + 1) b7_4 b9_5 = (if t_nodes ≤ b9_5 then (some b7_4) else (T_addLater_l1 t_nodes t_laters n (if ((g_ishr b9_5 t_laters) &&& (1 : Int32)) = 0 then b7_4 else (b7_4 ||| (g_lshl (1 : Int64) b9_5))) (b9_5 + (1 : Int32)))) := rfl
def F_T_addLater (N : Nat) (t_guesses : Int32) (t_nodes : Int32) (t_all : Int64) (t_laters : Int32) (t_waiting : Nat → Int64) (t_meanwhile : Nat → Int64) (t_goal : Nat → Int64) (t_atNext : Nat → Int32) (a1 : Int32) (a2 : Int32) (a3 : Int64) (a5 : Int64) : Option (Int64 × Int32 × (Nat → Int64) × (Nat → Int64) × (Nat → Int64) × (Nat → Int32)) := (if t_laters < 0 then (some ((0 : Int64), t_laters, t_waiting, t_meanwhile, t_goal, t_atNext)) else (if t_guesses ≤ t_laters then (some ((0 : Int64), t_laters, t_waiting, t_meanwhile, t_goal, t_atNext)) else (if t_laters < (3 : Int32) then ((T_addLater_l1 t_nodes t_laters N (0 : Int64) (0 : Int32)).bind fun o6 => (g_chk (g_inb t_laters 3) (g_chk (g_inb t_laters 3) (g_chk (g_inb t_laters 3) (g_chk (g_inb t_laters 3) (some (o6, (t_laters + (1 : Int32)), (vp_updL t_waiting t_laters.toNatClampNeg (if a2 = 0 then o6 else (t_all &&& (o6 ^^^ (-1 : Int64))))), (vp_updL t_meanwhile t_laters.toNatClampNeg a3), (vp_updL t_goal t_laters.toNatClampNeg a5), (upd t_atNext t_laters.toNatClampNeg (vp_nar .boolean a1))))))))) else (some ((0 : Int64), t_laters, t_waiting, t_meanwhile, t_goal, t_atNext)))))
set_option maxRecDepth 100000 in
theorem ct_T_addLater (N : Nat) (d_label : Nat → Int32) (d_tg : Nat → Nat → Int32) (d_places : Int32) (t_guesses : Int32) (t_nodes : Int32) (t_all : Int64) (t_np0 : Int64) (t_so : Nat → Int64) (t_laters : Int32) (t_waiting : Nat → Int64) (t_meanwhile : Nat → Int64) (t_goal : Nat → Int64) (t_atNext : Nat → Int32) (t_steps : Nat → Nat → Int64) (t_due : Int32) (t_met : Nat → Int32) (t_mbs : Nat → Int32) (t_reach : Nat → Int64) (t_ring : Nat → Int64) (t_core : Int64) (t_live : Int64) (a1 : Int32) (a2 : Int32) (a3 : Int64) (a5 : Int64) : g_F y_T_addLater c_T_addLater 10 (some .long) rm_T_addLater [.ref 0, .int a1, .int a2, .long a3, .long a5] (HT d_label d_tg d_places t_guesses t_nodes t_all t_np0 t_so t_laters t_waiting t_meanwhile t_goal t_atNext t_steps t_due t_met t_mbs t_reach t_ring t_core t_live) (F_T_addLater N t_guesses t_nodes t_all t_laters t_waiting t_meanwhile t_goal t_atNext a1 a2 a3 a5) (fun o => some (.long o.1)) (fun o => (HT d_label d_tg d_places t_guesses t_nodes t_all t_np0 t_so o.2.1 o.2.2.1 o.2.2.2.1 o.2.2.2.2.1 o.2.2.2.2.2 t_steps t_due t_met t_mbs t_reach t_ring t_core t_live)) := by
  intro l P hs
  refine g_ofG 4 (by decide +kernel) rfl (Nat.le_of_ble_eq_true rfl) (fun X hX => ?_)
  unfold F_T_addLater at hs
  refine g_loc (L2 := [(0, .ref 0), (1, .int a1), (2, .int a2), (3, .long a3), (5, .long a5)]) [0, 1, 2, 3, 4] rfl ?_
  refine g_blk 4 [(.aload_n 0, 0, 0, 0, 0), (.getfield 83, 4, 6, 0, 0)] [] [(0, .ref 0), (1, .int a1), (2, .int a2), (3, .long a3), (5, .long a5)] [.int t_laters] (HT d_label d_tg d_places t_guesses t_nodes t_all t_np0 t_so t_laters t_waiting t_meanwhile t_goal t_atNext t_steps t_due t_met t_mbs t_reach t_ring t_core t_live) (by decide +kernel) rfl g_nil ?_
  refine g_br 26 (.ifCond .lt 22) (t_laters < 0) [] (by decide +kernel) rfl (fun c1 => ?_) (fun c1 => ?_)
  · have hs := g_sat_t hs c1
    refine g_blk 27 [(.lconst 0, 0, 0, 0, 0)] [] [(0, .ref 0), (1, .int a1), (2, .int a2), (3, .long a3), (5, .long a5)] [.long (0 : Int64)] (HT d_label d_tg d_places t_guesses t_nodes t_all t_np0 t_so t_laters t_waiting t_meanwhile t_goal t_atNext t_steps t_due t_met t_mbs t_reach t_ring t_core t_live) (by decide +kernel) rfl g_nil ?_
    have hq := g_sat_s hs
    exact g_lret hX (by decide +kernel) rfl hq
  · have hs := g_sat_f hs c1
    refine g_blk 15 [(.aload_n 0, 0, 0, 0, 0), (.getfield 83, 4, 6, 0, 0), (.aload_n 0, 0, 0, 0, 0), (.getfield 62, 4, 1, 0, 0)] [] [(0, .ref 0), (1, .int a1), (2, .int a2), (3, .long a3), (5, .long a5)] [.int t_guesses, .int t_laters] (HT d_label d_tg d_places t_guesses t_nodes t_all t_np0 t_so t_laters t_waiting t_meanwhile t_goal t_atNext t_steps t_due t_met t_mbs t_reach t_ring t_core t_live) (by decide +kernel) rfl g_nil ?_
    refine g_br 26 (.if_icmp .ge 11) (t_guesses ≤ t_laters) [] (by decide +kernel) rfl (fun c2 => ?_) (fun c2 => ?_)
    · have hs := g_sat_t hs c2
      refine g_blk 27 [(.lconst 0, 0, 0, 0, 0)] [] [(0, .ref 0), (1, .int a1), (2, .int a2), (3, .long a3), (5, .long a5)] [.long (0 : Int64)] (HT d_label d_tg d_places t_guesses t_nodes t_all t_np0 t_so t_laters t_waiting t_meanwhile t_goal t_atNext t_steps t_due t_met t_mbs t_reach t_ring t_core t_live) (by decide +kernel) rfl g_nil ?_
      have hq := g_sat_s hs
      exact g_lret hX (by decide +kernel) rfl hq
    · have hs := g_sat_f hs c2
      refine g_blk 23 [(.aload_n 0, 0, 0, 0, 0), (.getfield 83, 4, 6, 0, 0), (.iconst 3, 0, 0, 3, 0)] [] [(0, .ref 0), (1, .int a1), (2, .int a2), (3, .long a3), (5, .long a5)] [.int (3 : Int32), .int t_laters] (HT d_label d_tg d_places t_guesses t_nodes t_all t_np0 t_so t_laters t_waiting t_meanwhile t_goal t_atNext t_steps t_due t_met t_mbs t_reach t_ring t_core t_live) (by decide +kernel) rfl g_nil ?_
      refine g_br 28 (.if_icmp .lt 5) (t_laters < (3 : Int32)) [] (by decide +kernel) rfl (fun c3 => ?_) (fun c3 => ?_)
      · have hs := g_sat_t hs c3
        refine g_blk 34 [(.lconst 0, 0, 0, 0, 0), (.lstore 7, 0, 0, 0, 0), (.iconst 0, 0, 0, 0, 0), (.istore 9, 0, 0, 0, 0)] [] [(9, .int (0 : Int32)), (7, .long (0 : Int64)), (0, .ref 0), (1, .int a1), (2, .int a2), (3, .long a3), (5, .long a5)] [] (HT d_label d_tg d_places t_guesses t_nodes t_all t_np0 t_so t_laters t_waiting t_meanwhile t_goal t_atNext t_steps t_due t_met t_mbs t_reach t_ring t_core t_live) (by decide +kernel) rfl g_nil ?_
        refine g_loc (L2 := [(0, .ref 0), (1, .int a1), (2, .int a2), (3, .long a3), (5, .long a5), (7, .long (0 : Int64)), (9, .int (0 : Int32))]) [2, 3, 4, 5, 6, 1, 0] rfl ?_
        refine g_join (fun (o6 : Int64) => g_G X rm_T_addLater c_T_addLater 10 4 (some .long) 70 [(0, .ref 0), (1, .int a1), (2, .int a2), (3, .long a3), (5, .long a5), (7, .long o6)] [] (HT d_label d_tg d_places t_guesses t_nodes t_all t_np0 t_so t_laters t_waiting t_meanwhile t_goal t_atNext t_steps t_due t_met t_mbs t_reach t_ring t_core t_live)) hs (fun o6 hs => ?_) (fun hs => ?_)
        · obtain ⟨h12, hs⟩ := g_sat_c hs
          refine g_blk 89 [(.aload_n 0, 0, 0, 0, 0), (.getfield 31, 4, 10, 0, 0), (.aload_n 0, 0, 0, 0, 0), (.getfield 83, 4, 6, 0, 0), (.iload_n 1, 0, 0, 0, 0), (.bastore, 0, 0, 0, 0), (.aload_n 0, 0, 0, 0, 0), (.getfield 22, 4, 7, 0, 0), (.aload_n 0, 0, 0, 0, 0), (.getfield 83, 4, 6, 0, 0), (.iload_n 2, 0, 0, 0, 0)] [vp_in t_laters 3] [(0, .ref 0), (1, .int a1), (2, .int a2), (3, .long a3), (5, .long a5), (7, .long o6)] [.int a2, .int t_laters, .ref 8] (HT d_label d_tg d_places t_guesses t_nodes t_all t_np0 t_so t_laters t_waiting t_meanwhile t_goal (upd t_atNext t_laters.toNatClampNeg (vp_nar .boolean a1)) t_steps t_due t_met t_mbs t_reach t_ring t_core t_live) (by decide +kernel) rfl (g_and (g_inb_in h12) g_nil) ?_
          have hJ17 : ∀ (v14 : Int64) (ev14 : v14 = (if a2 = 0 then o6 else (t_all &&& (o6 ^^^ (-1 : Int64))))), g_G X rm_T_addLater c_T_addLater 10 4 (some .long) 108 [(0, .ref 0), (3, .long a3), (5, .long a5), (7, .long o6)] [.long v14, .int t_laters, .ref 8] (HT d_label d_tg d_places t_guesses t_nodes t_all t_np0 t_so t_laters t_waiting t_meanwhile t_goal (upd t_atNext t_laters.toNatClampNeg (vp_nar .boolean a1)) t_steps t_due t_met t_mbs t_reach t_ring t_core t_live) := by
            intro v14 ev14
            subst ev14
            obtain ⟨h15, hs⟩ := g_sat_c hs
            obtain ⟨h16, hs⟩ := g_sat_c hs
            obtain ⟨h17, hs⟩ := g_sat_c hs
            refine g_blk 142 [(.lastore, 0, 0, 0, 0), (.aload_n 0, 0, 0, 0, 0), (.getfield 25, 4, 8, 0, 0), (.aload_n 0, 0, 0, 0, 0), (.getfield 83, 4, 6, 0, 0), (.lload_n 3, 0, 0, 0, 0), (.lastore, 0, 0, 0, 0), (.aload_n 0, 0, 0, 0, 0), (.getfield 28, 4, 9, 0, 0), (.aload_n 0, 0, 0, 0, 0), (.getfield 83, 4, 6, 0, 0), (.lload 5, 0, 0, 0, 0), (.lastore, 0, 0, 0, 0), (.aload_n 0, 0, 0, 0, 0), (.dup, 0, 0, 0, 0), (.getfield 83, 4, 6, 0, 0), (.iconst 1, 0, 0, 1, 0), (.iadd, 0, 0, 0, 0), (.putfield 83, 4, 6, 1, 0), (.lload 7, 0, 0, 0, 0)] [vp_in t_laters 3, vp_in t_laters 3, vp_in t_laters 3] [(0, .ref 0), (3, .long a3), (5, .long a5), (7, .long o6)] [.long o6] (HT d_label d_tg d_places t_guesses t_nodes t_all t_np0 t_so (t_laters + (1 : Int32)) (vp_updL t_waiting t_laters.toNatClampNeg (if a2 = 0 then o6 else (t_all &&& (o6 ^^^ (-1 : Int64))))) (vp_updL t_meanwhile t_laters.toNatClampNeg a3) (vp_updL t_goal t_laters.toNatClampNeg a5) (upd t_atNext t_laters.toNatClampNeg (vp_nar .boolean a1)) t_steps t_due t_met t_mbs t_reach t_ring t_core t_live) (by decide +kernel) rfl (g_and (g_inb_in h15) (g_and (g_inb_in h16) (g_and (g_inb_in h17) g_nil))) ?_
            have hq := g_sat_s hs
            exact g_lret hX (by decide +kernel) rfl hq
          refine g_br 106 (.ifCond .eq 17) (a2 = 0) [.int t_laters, .ref 8] (by decide +kernel) rfl (fun c19 => ?_) (fun c19 => ?_)
          · refine g_blk 108 [(.lload 7, 0, 0, 0, 0)] [] [(0, .ref 0), (1, .int a1), (2, .int a2), (3, .long a3), (5, .long a5), (7, .long o6)] [.long o6, .int t_laters, .ref 8] (HT d_label d_tg d_places t_guesses t_nodes t_all t_np0 t_so t_laters t_waiting t_meanwhile t_goal (upd t_atNext t_laters.toNatClampNeg (vp_nar .boolean a1)) t_steps t_due t_met t_mbs t_reach t_ring t_core t_live) (by decide +kernel) rfl g_nil ?_
            refine g_loc (L2 := [(0, .ref 0), (3, .long a3), (5, .long a5), (7, .long o6)]) [0, 3, 4, 5] rfl ?_
            exact hJ17 _ (by rw [if_pos c19])
          · refine g_blk 108 [(.aload_n 0, 0, 0, 0, 0), (.getfield 76, 4, 3, 0, 0), (.lload 7, 0, 0, 0, 0), (.ldc2_w 111, 0, 0, 0, (-1)), (.lxor, 0, 0, 0, 0), (.land, 0, 0, 0, 0), (.goto 5, 0, 0, 0, 0)] [] [(0, .ref 0), (1, .int a1), (2, .int a2), (3, .long a3), (5, .long a5), (7, .long o6)] [.long (t_all &&& (o6 ^^^ (-1 : Int64))), .int t_laters, .ref 8] (HT d_label d_tg d_places t_guesses t_nodes t_all t_np0 t_so t_laters t_waiting t_meanwhile t_goal (upd t_atNext t_laters.toNatClampNeg (vp_nar .boolean a1)) t_steps t_due t_met t_mbs t_reach t_ring t_core t_live) (by decide +kernel) rfl g_nil ?_
            refine g_loc (L2 := [(0, .ref 0), (3, .long a3), (5, .long a5), (7, .long o6)]) [0, 3, 4, 5] rfl ?_
            exact hJ17 _ (by rw [if_neg c19])
        · have hlT_addLater_l1 : ∀ (n : Nat) (b7_4 : Int64) (b9_5 : Int32), g_sat (T_addLater_l1 t_nodes t_laters n b7_4 b9_5) (fun (o6 : Int64) => g_G X rm_T_addLater c_T_addLater 10 4 (some .long) 70 [(0, .ref 0), (1, .int a1), (2, .int a2), (3, .long a3), (5, .long a5), (7, .long o6)] [] (HT d_label d_tg d_places t_guesses t_nodes t_all t_np0 t_so t_laters t_waiting t_meanwhile t_goal t_atNext t_steps t_due t_met t_mbs t_reach t_ring t_core t_live)) → g_G X rm_T_addLater c_T_addLater 10 4 (some .long) 34 [(0, .ref 0), (1, .int a1), (2, .int a2), (3, .long a3), (5, .long a5), (7, .long b7_4), (9, .int b9_5)] [] (HT d_label d_tg d_places t_guesses t_nodes t_all t_np0 t_so t_laters t_waiting t_meanwhile t_goal t_atNext t_steps t_due t_met t_mbs t_reach t_ring t_core t_live) := by
            intro n
            induction n with
            | zero =>
              intro b7_4 b9_5 hs
              obtain ⟨_, h0, _⟩ := hs
              cases h0
            | succ n ih =>
              intro b7_4 b9_5 hs
              rw [T_addLater_l1_s] at hs
              refine g_blk 40 [(.iload 9, 0, 0, 0, 0), (.aload_n 0, 0, 0, 0, 0), (.getfield 69, 4, 2, 0, 0)] [] [(0, .ref 0), (1, .int a1), (2, .int a2), (3, .long a3), (5, .long a5), (7, .long b7_4), (9, .int b9_5)] [.int t_nodes, .int b9_5] (HT d_label d_tg d_places t_guesses t_nodes t_all t_np0 t_so t_laters t_waiting t_meanwhile t_goal t_atNext t_steps t_due t_met t_mbs t_reach t_ring t_core t_live) (by decide +kernel) rfl g_nil ?_
              refine g_br 70 (.if_icmp .ge 30) (t_nodes ≤ b9_5) [] (by decide +kernel) rfl (fun c7 => ?_) (fun c7 => ?_)
              · have hs := g_sat_t hs c7
                refine g_loc (L2 := [(0, .ref 0), (1, .int a1), (2, .int a2), (3, .long a3), (5, .long a5), (7, .long b7_4)]) [0, 1, 2, 3, 4, 5] rfl ?_
                have hq := g_sat_s hs
                exact hq
              · have hs := g_sat_f hs c7
                refine g_blk 52 [(.iload 9, 0, 0, 0, 0), (.aload_n 0, 0, 0, 0, 0), (.getfield 83, 4, 6, 0, 0), (.ishr, 0, 0, 0, 0), (.iconst 1, 0, 0, 1, 0), (.iand, 0, 0, 0, 0)] [] [(0, .ref 0), (1, .int a1), (2, .int a2), (3, .long a3), (5, .long a5), (7, .long b7_4), (9, .int b9_5)] [.int ((g_ishr b9_5 t_laters) &&& (1 : Int32))] (HT d_label d_tg d_places t_guesses t_nodes t_all t_np0 t_so t_laters t_waiting t_meanwhile t_goal t_atNext t_steps t_due t_met t_mbs t_reach t_ring t_core t_live) (by decide +kernel) rfl g_nil ?_
                have hJ9 : ∀ (v9 : Int64) (ev9 : v9 = (if ((g_ishr b9_5 t_laters) &&& (1 : Int32)) = 0 then b7_4 else (b7_4 ||| (g_lshl (1 : Int64) b9_5)))), g_G X rm_T_addLater c_T_addLater 10 4 (some .long) 64 [(0, .ref 0), (1, .int a1), (2, .int a2), (3, .long a3), (5, .long a5), (7, .long v9), (9, .int b9_5)] [] (HT d_label d_tg d_places t_guesses t_nodes t_all t_np0 t_so t_laters t_waiting t_meanwhile t_goal t_atNext t_steps t_due t_met t_mbs t_reach t_ring t_core t_live) := by
                  intro v9 ev9
                  subst ev9
                  refine g_blk 34 [(.iinc 9 1, 0, 0, 1, 0), (.goto (-33), 0, 0, 0, 0)] [] [(9, .int (b9_5 + (1 : Int32))), (0, .ref 0), (1, .int a1), (2, .int a2), (3, .long a3), (5, .long a5), (7, .long (if ((g_ishr b9_5 t_laters) &&& (1 : Int32)) = 0 then b7_4 else (b7_4 ||| (g_lshl (1 : Int64) b9_5))))] [] (HT d_label d_tg d_places t_guesses t_nodes t_all t_np0 t_so t_laters t_waiting t_meanwhile t_goal t_atNext t_steps t_due t_met t_mbs t_reach t_ring t_core t_live) (by decide +kernel) rfl g_nil ?_
                  refine g_loc (L2 := [(0, .ref 0), (1, .int a1), (2, .int a2), (3, .long a3), (5, .long a5), (7, .long (if ((g_ishr b9_5 t_laters) &&& (1 : Int32)) = 0 then b7_4 else (b7_4 ||| (g_lshl (1 : Int64) b9_5)))), (9, .int (b9_5 + (1 : Int32)))]) [1, 2, 3, 4, 5, 6, 0] rfl ?_
                  exact ih _ _ hs
                refine g_br 64 (.ifCond .eq 12) (((g_ishr b9_5 t_laters) &&& (1 : Int32)) = 0) [] (by decide +kernel) rfl (fun c11 => ?_) (fun c11 => ?_)
                · exact hJ9 _ (by rw [if_pos c11])
                · refine g_blk 64 [(.lload 7, 0, 0, 0, 0), (.lconst 1, 0, 0, 0, 1), (.iload 9, 0, 0, 0, 0), (.lshl, 0, 0, 0, 0), (.lor, 0, 0, 0, 0), (.lstore 7, 0, 0, 0, 0)] [] [(7, .long (b7_4 ||| (g_lshl (1 : Int64) b9_5))), (0, .ref 0), (1, .int a1), (2, .int a2), (3, .long a3), (5, .long a5), (9, .int b9_5)] [] (HT d_label d_tg d_places t_guesses t_nodes t_all t_np0 t_so t_laters t_waiting t_meanwhile t_goal t_atNext t_steps t_due t_met t_mbs t_reach t_ring t_core t_live) (by decide +kernel) rfl g_nil ?_
                  refine g_loc (L2 := [(0, .ref 0), (1, .int a1), (2, .int a2), (3, .long a3), (5, .long a5), (7, .long (b7_4 ||| (g_lshl (1 : Int64) b9_5))), (9, .int b9_5)]) [1, 2, 3, 4, 5, 0, 6] rfl ?_
                  exact hJ9 _ (by rw [if_neg c11])
          exact hlT_addLater_l1 N _ _ hs
      · have hs := g_sat_f hs c3
        refine g_blk 27 [(.lconst 0, 0, 0, 0, 0)] [] [(0, .ref 0), (1, .int a1), (2, .int a2), (3, .long a3), (5, .long a5)] [.long (0 : Int64)] (HT d_label d_tg d_places t_guesses t_nodes t_all t_np0 t_so t_laters t_waiting t_meanwhile t_goal t_atNext t_steps t_due t_met t_mbs t_reach t_ring t_core t_live) (by decide +kernel) rfl g_nil ?_
        have hq := g_sat_s hs
        exact g_lret hX (by decide +kernel) rfl hq
abbrev HTF (d_label : Nat → Int32) (d_tg : Nat → Nat → Int32) (d_places : Int32) (t_guesses : Int32) (t_nodes : Int32) (t_all : Int64) (t_np0 : Int64) (t_so : Nat → Int64) (t_laters : Int32) (t_waiting : Nat → Int64) (t_meanwhile : Nat → Int64) (t_goal : Nat → Int64) (t_atNext : Nat → Int32) (t_steps : Nat → Nat → Int64) (t_due : Int32) (t_met : Nat → Int32) (t_mbs : Nat → Int32) (t_reach : Nat → Int64) (t_ring : Nat → Int64) (t_core : Int64) (t_live : Int64) (f_sz : Int32) (f_lt : Int32) (f_le : Nat → Int32) : List g_E := [.inr (4, [.ref 1, .int t_guesses, .int t_nodes, .long t_all, .long t_np0, .ref 7, .int t_laters, .ref 8, .ref 9, .ref 10, .ref 11, .ref 12, .int t_due, .ref 16, .ref 17, .ref 18, .ref 19, .long t_core, .long t_live]), .inr (1, [.int d_places, .ref 2, .ref 3]), .inl (.int, 8, .inl d_label), .inl (.array .int, 3, .inr (.inr (.inr (.inr (g_rl [4, 5, 6]))))), .inl (.int, 8, .inl (d_tg 0)), .inl (.int, 8, .inl (d_tg 1)), .inl (.int, 8, .inl (d_tg 2)), .inl (.long, 16, .inr (.inl t_so)), .inl (.long, 3, .inr (.inl t_waiting)), .inl (.long, 3, .inr (.inl t_meanwhile)), .inl (.long, 3, .inr (.inl t_goal)), .inl (.boolean, 3, .inl t_atNext), .inl (.array .long, 3, .inr (.inr (.inr (.inr (g_rl [13, 14, 15]))))), .inl (.long, 64, .inr (.inl (t_steps 0))), .inl (.long, 64, .inr (.inl (t_steps 1))), .inl (.long, 64, .inr (.inl (t_steps 2))), .inl (.int, 64, .inl t_met), .inl (.int, 3, .inl t_mbs), .inl (.long, 64, .inr (.inl t_reach)), .inl (.long, 64, .inr (.inl t_ring)), .inr (0, [.ref 21, .int f_sz, .int f_lt]), .inl (.int, 16, .inl f_le)]
theorem HTF_rn (f : Nat → Nat) (d_label : Nat → Int32) (d_tg : Nat → Nat → Int32) (d_places : Int32) (t_guesses : Int32) (t_nodes : Int32) (t_all : Int64) (t_np0 : Int64) (t_so : Nat → Int64) (t_laters : Int32) (t_waiting : Nat → Int64) (t_meanwhile : Nat → Int64) (t_goal : Nat → Int64) (t_atNext : Nat → Int32) (t_steps : Nat → Nat → Int64) (t_due : Int32) (t_met : Nat → Int32) (t_mbs : Nat → Int32) (t_reach : Nat → Int64) (t_ring : Nat → Int64) (t_core : Int64) (t_live : Int64) (f_sz : Int32) (f_lt : Int32) (f_le : Nat → Int32) : (HTF d_label d_tg d_places t_guesses t_nodes t_all t_np0 t_so t_laters t_waiting t_meanwhile t_goal t_atNext t_steps t_due t_met t_mbs t_reach t_ring t_core t_live f_sz f_lt f_le).map (g_rnE f) = [.inr (4, [.ref (f 1), .int t_guesses, .int t_nodes, .long t_all, .long t_np0, .ref (f 7), .int t_laters, .ref (f 8), .ref (f 9), .ref (f 10), .ref (f 11), .ref (f 12), .int t_due, .ref (f 16), .ref (f 17), .ref (f 18), .ref (f 19), .long t_core, .long t_live]), .inr (1, [.int d_places, .ref (f 2), .ref (f 3)]), .inl (.int, 8, .inl d_label), .inl (.array .int, 3, .inr (.inr (.inr (.inr (g_rl [f 4, f 5, f 6]))))), .inl (.int, 8, .inl (d_tg 0)), .inl (.int, 8, .inl (d_tg 1)), .inl (.int, 8, .inl (d_tg 2)), .inl (.long, 16, .inr (.inl t_so)), .inl (.long, 3, .inr (.inl t_waiting)), .inl (.long, 3, .inr (.inl t_meanwhile)), .inl (.long, 3, .inr (.inl t_goal)), .inl (.boolean, 3, .inl t_atNext), .inl (.array .long, 3, .inr (.inr (.inr (.inr (g_rl [f 13, f 14, f 15]))))), .inl (.long, 64, .inr (.inl (t_steps 0))), .inl (.long, 64, .inr (.inl (t_steps 1))), .inl (.long, 64, .inr (.inl (t_steps 2))), .inl (.int, 64, .inl t_met), .inl (.int, 3, .inl t_mbs), .inl (.long, 64, .inr (.inl t_reach)), .inl (.long, 64, .inr (.inl t_ring)), .inr (0, [.ref (f 21), .int f_sz, .int f_lt]), .inl (.int, 16, .inl f_le)] := by
  simp only [HTF, List.map_cons, List.map_nil, g_rn_rl]
  rfl
abbrev rm_T_nodesWhere : Room := { frames := 2, cells := 0, slots := 0, locals := 45 }
def F_T_nodesWhere (N : Nat) (d_label : Nat → Int32) (d_places : Int32) (t_guesses : Int32) (t_nodes : Int32) (t_all : Int64) (t_np0 : Int64) (t_so : Nat → Int64) (t_laters : Int32) (t_waiting : Nat → Int64) (t_meanwhile : Nat → Int64) (t_goal : Nat → Int64) (t_atNext : Nat → Int32) (f_sz : Int32) (f_le : Nat → Int32) (a2 : Int32) : Option (Int64 × Int32 × (Nat → Int64) × (Nat → Int64) × (Nat → Int64) × (Nat → Int32)) := ((F_F_letterOf f_sz f_le a2).bind fun o1 => ((if (F_L_innerCount o1) = (2 : Int32) then ((F_F_spanOf N f_sz f_le (a2 + (1 : Int32))).bind fun o4 => (some ((a2 + (1 : Int32)) + o4))) else (some (a2 + (1 : Int32)))).bind fun o3 => ((if (F_L_innerCount o1) < (1 : Int32) then (some (0 : Int64)) else (if (16 : Int32) ≤ (a2 + (1 : Int32)) then (some (0 : Int64)) else (g_chk (g_inb (a2 + (1 : Int32)) 16) (some (t_so ((a2 + (1 : Int32))).toNatClampNeg))))).bind fun o7 => ((if (F_L_innerCount o1) = (2 : Int32) then (if (16 : Int32) ≤ o3 then (some (0 : Int64)) else (g_chk (g_inb o3 16) (some (t_so o3.toNatClampNeg)))) else (some (0 : Int64))).bind fun o12 => (if o1 = 49 then (some (t_all, t_laters, t_waiting, t_meanwhile, t_goal, t_atNext)) else (if o1 = 97 then ((F_T_labelled N d_label d_places t_guesses t_np0 (0 : Int32)).bind fun o17 => (some (o17, t_laters, t_waiting, t_meanwhile, t_goal, t_atNext))) else (if o1 = 98 then ((F_T_labelled N d_label d_places t_guesses t_np0 (1 : Int32)).bind fun o19 => (some (o19, t_laters, t_waiting, t_meanwhile, t_goal, t_atNext))) else (if o1 = 99 then ((F_T_labelled N d_label d_places t_guesses t_np0 (2 : Int32)).bind fun o21 => (some (o21, t_laters, t_waiting, t_meanwhile, t_goal, t_atNext))) else (if o1 = 102 then ((F_T_addLater N t_guesses t_nodes t_all t_laters t_waiting t_meanwhile t_goal t_atNext (0 : Int32) (0 : Int32) t_all o7).bind fun o23 => (some (o23.1, o23.2.1, o23.2.2.1, o23.2.2.2.1, o23.2.2.2.2.1, o23.2.2.2.2.2))) else (if o1 = 103 then ((F_T_addLater N t_guesses t_nodes t_all t_laters t_waiting t_meanwhile t_goal t_atNext (0 : Int32) (1 : Int32) t_all (t_all &&& (o7 ^^^ (-1 : Int64)))).bind fun o25 => (some (o25.1, o25.2.1, o25.2.2.1, o25.2.2.2.1, o25.2.2.2.2.1, o25.2.2.2.2.2))) else (if o1 = 107 then (some ((o7 &&& o12), t_laters, t_waiting, t_meanwhile, t_goal, t_atNext)) else (if o1 = 110 then (some ((t_all &&& (o7 ^^^ (-1 : Int64))), t_laters, t_waiting, t_meanwhile, t_goal, t_atNext)) else (if o1 = 111 then (some ((o7 ||| o12), t_laters, t_waiting, t_meanwhile, t_goal, t_atNext)) else (if o1 = 117 then ((F_T_addLater N t_guesses t_nodes t_all t_laters t_waiting t_meanwhile t_goal t_atNext (0 : Int32) (0 : Int32) o7 o12).bind fun o30 => (some (o30.1, o30.2.1, o30.2.2.1, o30.2.2.2.1, o30.2.2.2.2.1, o30.2.2.2.2.2))) else (if o1 = 120 then ((F_T_addLater N t_guesses t_nodes t_all t_laters t_waiting t_meanwhile t_goal t_atNext (1 : Int32) (0 : Int32) t_all o7).bind fun o32 => (some (o32.1, o32.2.1, o32.2.2.1, o32.2.2.2.1, o32.2.2.2.2.1, o32.2.2.2.2.2))) else (some ((0 : Int64), t_laters, t_waiting, t_meanwhile, t_goal, t_atNext)))))))))))))))))
set_option maxRecDepth 100000 in
theorem ct_T_nodesWhere (N : Nat) (d_label : Nat → Int32) (d_tg : Nat → Nat → Int32) (d_places : Int32) (t_guesses : Int32) (t_nodes : Int32) (t_all : Int64) (t_np0 : Int64) (t_so : Nat → Int64) (t_laters : Int32) (t_waiting : Nat → Int64) (t_meanwhile : Nat → Int64) (t_goal : Nat → Int64) (t_atNext : Nat → Int32) (t_steps : Nat → Nat → Int64) (t_due : Int32) (t_met : Nat → Int32) (t_mbs : Nat → Int32) (t_reach : Nat → Int64) (t_ring : Nat → Int64) (t_core : Int64) (t_live : Int64) (f_sz : Int32) (f_lt : Int32) (f_le : Nat → Int32) (a2 : Int32) : g_F y_T_nodesWhere c_T_nodesWhere 11 (some .long) rm_T_nodesWhere [.ref 0, .ref 20, .int a2] (HTF d_label d_tg d_places t_guesses t_nodes t_all t_np0 t_so t_laters t_waiting t_meanwhile t_goal t_atNext t_steps t_due t_met t_mbs t_reach t_ring t_core t_live f_sz f_lt f_le) (F_T_nodesWhere N d_label d_places t_guesses t_nodes t_all t_np0 t_so t_laters t_waiting t_meanwhile t_goal t_atNext f_sz f_le a2) (fun o => some (.long o.1)) (fun o => (HTF d_label d_tg d_places t_guesses t_nodes t_all t_np0 t_so o.2.1 o.2.2.1 o.2.2.2.1 o.2.2.2.2.1 o.2.2.2.2.2 t_steps t_due t_met t_mbs t_reach t_ring t_core t_live f_sz f_lt f_le)) := by
  intro l P hs
  refine g_ofG 4 (by decide +kernel) rfl (Nat.le_of_ble_eq_true rfl) (fun X hX => ?_)
  unfold F_T_nodesWhere at hs
  refine g_loc (L2 := [(0, .ref 0), (1, .ref 20), (2, .int a2)]) [0, 1, 2] rfl ?_
  refine g_blk 2 [(.aload_n 1, 0, 0, 0, 0), (.iload_n 2, 0, 0, 0, 0)] [] [(0, .ref 0), (1, .ref 20), (2, .int a2)] [.int a2, .ref 20] (HTF d_label d_tg d_places t_guesses t_nodes t_all t_np0 t_so t_laters t_waiting t_meanwhile t_goal t_atNext t_steps t_due t_met t_mbs t_reach t_ring t_core t_live f_sz f_lt f_le) (by decide +kernel) rfl g_nil ?_
  refine g_fP (ct_F_letterOf f_sz f_lt f_le a2) 113 true 1 lk_4_113 (by decide +kernel) rfl ⟨rfl, rfl, by decide, by decide⟩ [20, 21] [] rfl (Nat.le_of_ble_eq_true rfl) (by decide +kernel) (by rw [HF_rn]; rfl) (fun _ => ⟨0, 0, _, rfl, rfl, by decide, rfl⟩) hs (fun o1 hs => ?_)
  refine g_hp (hp2 := (HTF d_label d_tg d_places t_guesses t_nodes t_all t_np0 t_so t_laters t_waiting t_meanwhile t_goal t_atNext t_steps t_due t_met t_mbs t_reach t_ring t_core t_live f_sz f_lt f_le)) (by rw [HF_rn]; rfl) ?_
  refine g_blk 7 [(.istore_n 3, 0, 0, 0, 0), (.iload_n 3, 0, 0, 0, 0)] [] [(3, .int o1), (0, .ref 0), (1, .ref 20), (2, .int a2)] [.int o1] (HTF d_label d_tg d_places t_guesses t_nodes t_all t_np0 t_so t_laters t_waiting t_meanwhile t_goal t_atNext t_steps t_due t_met t_mbs t_reach t_ring t_core t_live f_sz f_lt f_le) (by decide +kernel) rfl g_nil ?_
  refine g_pN (ct_L_innerCount o1) 117 1 lk_4_117 (by decide +kernel) rfl ⟨rfl, rfl, by decide, by decide⟩ [] rfl (Nat.le_of_ble_eq_true rfl) ?_
  refine g_blk 20 [(.istore 4, 0, 0, 0, 0), (.iload_n 2, 0, 0, 0, 0), (.iconst 1, 0, 0, 1, 0), (.iadd, 0, 0, 0, 0), (.istore 5, 0, 0, 0, 0), (.iload 4, 0, 0, 0, 0), (.iconst 2, 0, 0, 2, 0)] [] [(5, .int (a2 + (1 : Int32))), (4, .int (F_L_innerCount o1)), (3, .int o1), (0, .ref 0), (1, .ref 20), (2, .int a2)] [.int (2 : Int32), .int (F_L_innerCount o1)] (HTF d_label d_tg d_places t_guesses t_nodes t_all t_np0 t_so t_laters t_waiting t_meanwhile t_goal t_atNext t_steps t_due t_met t_mbs t_reach t_ring t_core t_live f_sz f_lt f_le) (by decide +kernel) rfl g_nil ?_
  refine g_join (fun (o3 : Int32) => g_G X rm_T_nodesWhere c_T_nodesWhere 11 4 (some .long) 37 [(0, .ref 0), (3, .int o1), (4, .int (F_L_innerCount o1)), (5, .int (a2 + (1 : Int32)))] [.int o3] (HTF d_label d_tg d_places t_guesses t_nodes t_all t_np0 t_so t_laters t_waiting t_meanwhile t_goal t_atNext t_steps t_due t_met t_mbs t_reach t_ring t_core t_live f_sz f_lt f_le)) hs (fun o3 hs => ?_) (fun hs => ?_)
  · refine g_blk 42 [(.istore 6, 0, 0, 0, 0), (.iload 4, 0, 0, 0, 0), (.iconst 1, 0, 0, 1, 0)] [] [(6, .int o3), (0, .ref 0), (3, .int o1), (4, .int (F_L_innerCount o1)), (5, .int (a2 + (1 : Int32)))] [.int (1 : Int32), .int (F_L_innerCount o1)] (HTF d_label d_tg d_places t_guesses t_nodes t_all t_np0 t_so t_laters t_waiting t_meanwhile t_goal t_atNext t_steps t_due t_met t_mbs t_reach t_ring t_core t_live f_sz f_lt f_le) (by decide +kernel) rfl g_nil ?_
    refine g_join (fun (o7 : Int64) => g_G X rm_T_nodesWhere c_T_nodesWhere 11 4 (some .long) 63 [(0, .ref 0), (3, .int o1), (4, .int (F_L_innerCount o1)), (6, .int o3)] [.long o7] (HTF d_label d_tg d_places t_guesses t_nodes t_all t_np0 t_so t_laters t_waiting t_meanwhile t_goal t_atNext t_steps t_due t_met t_mbs t_reach t_ring t_core t_live f_sz f_lt f_le)) hs (fun o7 hs => ?_) (fun hs => ?_)
    · refine g_blk 68 [(.lstore 7, 0, 0, 0, 0), (.iload 4, 0, 0, 0, 0), (.iconst 2, 0, 0, 2, 0)] [] [(7, .long o7), (0, .ref 0), (3, .int o1), (4, .int (F_L_innerCount o1)), (6, .int o3)] [.int (2 : Int32), .int (F_L_innerCount o1)] (HTF d_label d_tg d_places t_guesses t_nodes t_all t_np0 t_so t_laters t_waiting t_meanwhile t_goal t_atNext t_steps t_due t_met t_mbs t_reach t_ring t_core t_live f_sz f_lt f_le) (by decide +kernel) rfl g_nil ?_
      refine g_join (fun (o12 : Int64) => g_G X rm_T_nodesWhere c_T_nodesWhere 11 4 (some .long) 89 [(0, .ref 0), (3, .int o1), (7, .long o7)] [.long o12] (HTF d_label d_tg d_places t_guesses t_nodes t_all t_np0 t_so t_laters t_waiting t_meanwhile t_goal t_atNext t_steps t_due t_met t_mbs t_reach t_ring t_core t_live f_sz f_lt f_le)) hs (fun o12 hs => ?_) (fun hs => ?_)
      · refine g_blk 92 [(.lstore 9, 0, 0, 0, 0), (.iload_n 3, 0, 0, 0, 0)] [] [(9, .long o12), (0, .ref 0), (3, .int o1), (7, .long o7)] [.int o1] (HTF d_label d_tg d_places t_guesses t_nodes t_all t_np0 t_so t_laters t_waiting t_meanwhile t_goal t_atNext t_steps t_due t_met t_mbs t_reach t_ring t_core t_live f_sz f_lt f_le) (by decide +kernel) rfl g_nil ?_
        refine g_lsw 298 [(49, 210), (97, 192), (98, 198), (99, 204), (102, 252), (103, 265), (107, 227), (110, 215), (111, 233), (117, 287), (120, 239)] 206 #[(49, 118), (97, 100), (98, 106), (99, 112), (102, 160), (103, 173), (107, 135), (110, 123), (111, 141), (117, 195), (120, 147)] 100 (by decide +kernel) (fun t ht => ?_)
        by_cases c15 : o1 = 49
        · have hs := g_sat_t hs c15
          simp only [g_sw, if_pos c15] at ht
          subst ht
          refine g_blk 214 [(.aload_n 0, 0, 0, 0, 0), (.getfield 76, 4, 3, 0, 0)] [] [(9, .long o12), (0, .ref 0), (3, .int o1), (7, .long o7)] [.long t_all] (HTF d_label d_tg d_places t_guesses t_nodes t_all t_np0 t_so t_laters t_waiting t_meanwhile t_goal t_atNext t_steps t_due t_met t_mbs t_reach t_ring t_core t_live f_sz f_lt f_le) (by decide +kernel) rfl g_nil ?_
          have hq := g_sat_s hs
          exact g_lret hX (by decide +kernel) rfl hq
        · have hs := g_sat_f hs c15
          rw [g_sw, if_neg c15] at ht
          by_cases c16 : o1 = 97
          · have hs := g_sat_t hs c16
            simp only [g_sw, if_pos c16] at ht
            subst ht
            refine g_blk 194 [(.aload_n 0, 0, 0, 0, 0), (.iconst 0, 0, 0, 0, 0)] [] [(9, .long o12), (0, .ref 0), (3, .int o1), (7, .long o7)] [.int (0 : Int32), .ref 0] (HTF d_label d_tg d_places t_guesses t_nodes t_all t_np0 t_so t_laters t_waiting t_meanwhile t_goal t_atNext t_steps t_due t_met t_mbs t_reach t_ring t_core t_live f_sz f_lt f_le) (by decide +kernel) rfl g_nil ?_
            refine g_fP (ct_T_labelled N d_label d_tg d_places t_guesses t_nodes t_all t_np0 t_so t_laters t_waiting t_meanwhile t_goal t_atNext t_steps t_due t_met t_mbs t_reach t_ring t_core t_live (0 : Int32)) 123 true 1 lk_4_123 (by decide +kernel) rfl ⟨rfl, rfl, by decide, by decide⟩ [0, 1, 2, 3, 4, 5, 6, 7, 8, 9, 10, 11, 12, 13, 14, 15, 16, 17, 18, 19] [] rfl (Nat.le_of_ble_eq_true rfl) (by decide +kernel) (by rw [HT_rn]; rfl) (fun _ => ⟨0, 4, _, rfl, rfl, by decide, rfl⟩) hs (fun o17 hs => ?_)
            refine g_hp (hp2 := (HTF d_label d_tg d_places t_guesses t_nodes t_all t_np0 t_so t_laters t_waiting t_meanwhile t_goal t_atNext t_steps t_due t_met t_mbs t_reach t_ring t_core t_live f_sz f_lt f_le)) (by rw [HT_rn]; rfl) ?_
            have hq := g_sat_s hs
            exact g_lret hX (by decide +kernel) rfl hq
          · have hs := g_sat_f hs c16
            rw [g_sw, if_neg c16] at ht
            by_cases c18 : o1 = 98
            · have hs := g_sat_t hs c18
              simp only [g_sw, if_pos c18] at ht
              subst ht
              refine g_blk 200 [(.aload_n 0, 0, 0, 0, 0), (.iconst 1, 0, 0, 1, 0)] [] [(9, .long o12), (0, .ref 0), (3, .int o1), (7, .long o7)] [.int (1 : Int32), .ref 0] (HTF d_label d_tg d_places t_guesses t_nodes t_all t_np0 t_so t_laters t_waiting t_meanwhile t_goal t_atNext t_steps t_due t_met t_mbs t_reach t_ring t_core t_live f_sz f_lt f_le) (by decide +kernel) rfl g_nil ?_
              refine g_fP (ct_T_labelled N d_label d_tg d_places t_guesses t_nodes t_all t_np0 t_so t_laters t_waiting t_meanwhile t_goal t_atNext t_steps t_due t_met t_mbs t_reach t_ring t_core t_live (1 : Int32)) 123 true 1 lk_4_123 (by decide +kernel) rfl ⟨rfl, rfl, by decide, by decide⟩ [0, 1, 2, 3, 4, 5, 6, 7, 8, 9, 10, 11, 12, 13, 14, 15, 16, 17, 18, 19] [] rfl (Nat.le_of_ble_eq_true rfl) (by decide +kernel) (by rw [HT_rn]; rfl) (fun _ => ⟨0, 4, _, rfl, rfl, by decide, rfl⟩) hs (fun o19 hs => ?_)
              refine g_hp (hp2 := (HTF d_label d_tg d_places t_guesses t_nodes t_all t_np0 t_so t_laters t_waiting t_meanwhile t_goal t_atNext t_steps t_due t_met t_mbs t_reach t_ring t_core t_live f_sz f_lt f_le)) (by rw [HT_rn]; rfl) ?_
              have hq := g_sat_s hs
              exact g_lret hX (by decide +kernel) rfl hq
            · have hs := g_sat_f hs c18
              rw [g_sw, if_neg c18] at ht
              by_cases c20 : o1 = 99
              · have hs := g_sat_t hs c20
                simp only [g_sw, if_pos c20] at ht
                subst ht
                refine g_blk 206 [(.aload_n 0, 0, 0, 0, 0), (.iconst 2, 0, 0, 2, 0)] [] [(9, .long o12), (0, .ref 0), (3, .int o1), (7, .long o7)] [.int (2 : Int32), .ref 0] (HTF d_label d_tg d_places t_guesses t_nodes t_all t_np0 t_so t_laters t_waiting t_meanwhile t_goal t_atNext t_steps t_due t_met t_mbs t_reach t_ring t_core t_live f_sz f_lt f_le) (by decide +kernel) rfl g_nil ?_
                refine g_fP (ct_T_labelled N d_label d_tg d_places t_guesses t_nodes t_all t_np0 t_so t_laters t_waiting t_meanwhile t_goal t_atNext t_steps t_due t_met t_mbs t_reach t_ring t_core t_live (2 : Int32)) 123 true 1 lk_4_123 (by decide +kernel) rfl ⟨rfl, rfl, by decide, by decide⟩ [0, 1, 2, 3, 4, 5, 6, 7, 8, 9, 10, 11, 12, 13, 14, 15, 16, 17, 18, 19] [] rfl (Nat.le_of_ble_eq_true rfl) (by decide +kernel) (by rw [HT_rn]; rfl) (fun _ => ⟨0, 4, _, rfl, rfl, by decide, rfl⟩) hs (fun o21 hs => ?_)
                refine g_hp (hp2 := (HTF d_label d_tg d_places t_guesses t_nodes t_all t_np0 t_so t_laters t_waiting t_meanwhile t_goal t_atNext t_steps t_due t_met t_mbs t_reach t_ring t_core t_live f_sz f_lt f_le)) (by rw [HT_rn]; rfl) ?_
                have hq := g_sat_s hs
                exact g_lret hX (by decide +kernel) rfl hq
              · have hs := g_sat_f hs c20
                rw [g_sw, if_neg c20] at ht
                by_cases c22 : o1 = 102
                · have hs := g_sat_t hs c22
                  simp only [g_sw, if_pos c22] at ht
                  subst ht
                  refine g_blk 261 [(.aload_n 0, 0, 0, 0, 0), (.iconst 0, 0, 0, 0, 0), (.iconst 0, 0, 0, 0, 0), (.aload_n 0, 0, 0, 0, 0), (.getfield 76, 4, 3, 0, 0), (.lload 7, 0, 0, 0, 0)] [] [(9, .long o12), (0, .ref 0), (3, .int o1), (7, .long o7)] [.long o7, .long t_all, .int (0 : Int32), .int (0 : Int32), .ref 0] (HTF d_label d_tg d_places t_guesses t_nodes t_all t_np0 t_so t_laters t_waiting t_meanwhile t_goal t_atNext t_steps t_due t_met t_mbs t_reach t_ring t_core t_live f_sz f_lt f_le) (by decide +kernel) rfl g_nil ?_
                  refine g_fP (ct_T_addLater N d_label d_tg d_places t_guesses t_nodes t_all t_np0 t_so t_laters t_waiting t_meanwhile t_goal t_atNext t_steps t_due t_met t_mbs t_reach t_ring t_core t_live (0 : Int32) (0 : Int32) t_all o7) 126 true 4 lk_4_126 (by decide +kernel) rfl ⟨rfl, rfl, by decide, by decide⟩ [0, 1, 2, 3, 4, 5, 6, 7, 8, 9, 10, 11, 12, 13, 14, 15, 16, 17, 18, 19] [] rfl (Nat.le_of_ble_eq_true rfl) (by decide +kernel) (by rw [HT_rn]; rfl) (fun _ => ⟨0, 4, _, rfl, rfl, by decide, rfl⟩) hs (fun o23 hs => ?_)
                  refine g_hp (hp2 := (HTF d_label d_tg d_places t_guesses t_nodes t_all t_np0 t_so o23.2.1 o23.2.2.1 o23.2.2.2.1 o23.2.2.2.2.1 o23.2.2.2.2.2 t_steps t_due t_met t_mbs t_reach t_ring t_core t_live f_sz f_lt f_le)) (by rw [HT_rn]; rfl) ?_
                  have hq := g_sat_s hs
                  exact g_lret hX (by decide +kernel) rfl hq
                · have hs := g_sat_f hs c22
                  rw [g_sw, if_neg c22] at ht
                  by_cases c24 : o1 = 103
                  · have hs := g_sat_t hs c24
                    simp only [g_sw, if_pos c24] at ht
                    subst ht
                    refine g_blk 283 [(.aload_n 0, 0, 0, 0, 0), (.iconst 0, 0, 0, 0, 0), (.iconst 1, 0, 0, 1, 0), (.aload_n 0, 0, 0, 0, 0), (.getfield 76, 4, 3, 0, 0), (.aload_n 0, 0, 0, 0, 0), (.getfield 76, 4, 3, 0, 0), (.lload 7, 0, 0, 0, 0), (.ldc2_w 111, 0, 0, 0, (-1)), (.lxor, 0, 0, 0, 0), (.land, 0, 0, 0, 0)] [] [(9, .long o12), (0, .ref 0), (3, .int o1), (7, .long o7)] [.long (t_all &&& (o7 ^^^ (-1 : Int64))), .long t_all, .int (1 : Int32), .int (0 : Int32), .ref 0] (HTF d_label d_tg d_places t_guesses t_nodes t_all t_np0 t_so t_laters t_waiting t_meanwhile t_goal t_atNext t_steps t_due t_met t_mbs t_reach t_ring t_core t_live f_sz f_lt f_le) (by decide +kernel) rfl g_nil ?_
                    refine g_fP (ct_T_addLater N d_label d_tg d_places t_guesses t_nodes t_all t_np0 t_so t_laters t_waiting t_meanwhile t_goal t_atNext t_steps t_due t_met t_mbs t_reach t_ring t_core t_live (0 : Int32) (1 : Int32) t_all (t_all &&& (o7 ^^^ (-1 : Int64)))) 126 true 4 lk_4_126 (by decide +kernel) rfl ⟨rfl, rfl, by decide, by decide⟩ [0, 1, 2, 3, 4, 5, 6, 7, 8, 9, 10, 11, 12, 13, 14, 15, 16, 17, 18, 19] [] rfl (Nat.le_of_ble_eq_true rfl) (by decide +kernel) (by rw [HT_rn]; rfl) (fun _ => ⟨0, 4, _, rfl, rfl, by decide, rfl⟩) hs (fun o25 hs => ?_)
                    refine g_hp (hp2 := (HTF d_label d_tg d_places t_guesses t_nodes t_all t_np0 t_so o25.2.1 o25.2.2.1 o25.2.2.2.1 o25.2.2.2.2.1 o25.2.2.2.2.2 t_steps t_due t_met t_mbs t_reach t_ring t_core t_live f_sz f_lt f_le)) (by rw [HT_rn]; rfl) ?_
                    have hq := g_sat_s hs
                    exact g_lret hX (by decide +kernel) rfl hq
                  · have hs := g_sat_f hs c24
                    rw [g_sw, if_neg c24] at ht
                    by_cases c26 : o1 = 107
                    · have hs := g_sat_t hs c26
                      simp only [g_sw, if_pos c26] at ht
                      subst ht
                      refine g_blk 232 [(.lload 7, 0, 0, 0, 0), (.lload 9, 0, 0, 0, 0), (.land, 0, 0, 0, 0)] [] [(9, .long o12), (0, .ref 0), (3, .int o1), (7, .long o7)] [.long (o7 &&& o12)] (HTF d_label d_tg d_places t_guesses t_nodes t_all t_np0 t_so t_laters t_waiting t_meanwhile t_goal t_atNext t_steps t_due t_met t_mbs t_reach t_ring t_core t_live f_sz f_lt f_le) (by decide +kernel) rfl g_nil ?_
                      have hq := g_sat_s hs
                      exact g_lret hX (by decide +kernel) rfl hq
                    · have hs := g_sat_f hs c26
                      rw [g_sw, if_neg c26] at ht
                      by_cases c27 : o1 = 110
                      · have hs := g_sat_t hs c27
                        simp only [g_sw, if_pos c27] at ht
                        subst ht
                        refine g_blk 226 [(.aload_n 0, 0, 0, 0, 0), (.getfield 76, 4, 3, 0, 0), (.lload 7, 0, 0, 0, 0), (.ldc2_w 111, 0, 0, 0, (-1)), (.lxor, 0, 0, 0, 0), (.land, 0, 0, 0, 0)] [] [(9, .long o12), (0, .ref 0), (3, .int o1), (7, .long o7)] [.long (t_all &&& (o7 ^^^ (-1 : Int64)))] (HTF d_label d_tg d_places t_guesses t_nodes t_all t_np0 t_so t_laters t_waiting t_meanwhile t_goal t_atNext t_steps t_due t_met t_mbs t_reach t_ring t_core t_live f_sz f_lt f_le) (by decide +kernel) rfl g_nil ?_
                        have hq := g_sat_s hs
                        exact g_lret hX (by decide +kernel) rfl hq
                      · have hs := g_sat_f hs c27
                        rw [g_sw, if_neg c27] at ht
                        by_cases c28 : o1 = 111
                        · have hs := g_sat_t hs c28
                          simp only [g_sw, if_pos c28] at ht
                          subst ht
                          refine g_blk 238 [(.lload 7, 0, 0, 0, 0), (.lload 9, 0, 0, 0, 0), (.lor, 0, 0, 0, 0)] [] [(9, .long o12), (0, .ref 0), (3, .int o1), (7, .long o7)] [.long (o7 ||| o12)] (HTF d_label d_tg d_places t_guesses t_nodes t_all t_np0 t_so t_laters t_waiting t_meanwhile t_goal t_atNext t_steps t_due t_met t_mbs t_reach t_ring t_core t_live f_sz f_lt f_le) (by decide +kernel) rfl g_nil ?_
                          have hq := g_sat_s hs
                          exact g_lret hX (by decide +kernel) rfl hq
                        · have hs := g_sat_f hs c28
                          rw [g_sw, if_neg c28] at ht
                          by_cases c29 : o1 = 117
                          · have hs := g_sat_t hs c29
                            simp only [g_sw, if_pos c29] at ht
                            subst ht
                            refine g_blk 294 [(.aload_n 0, 0, 0, 0, 0), (.iconst 0, 0, 0, 0, 0), (.iconst 0, 0, 0, 0, 0), (.lload 7, 0, 0, 0, 0), (.lload 9, 0, 0, 0, 0)] [] [(9, .long o12), (0, .ref 0), (3, .int o1), (7, .long o7)] [.long o12, .long o7, .int (0 : Int32), .int (0 : Int32), .ref 0] (HTF d_label d_tg d_places t_guesses t_nodes t_all t_np0 t_so t_laters t_waiting t_meanwhile t_goal t_atNext t_steps t_due t_met t_mbs t_reach t_ring t_core t_live f_sz f_lt f_le) (by decide +kernel) rfl g_nil ?_
                            refine g_fP (ct_T_addLater N d_label d_tg d_places t_guesses t_nodes t_all t_np0 t_so t_laters t_waiting t_meanwhile t_goal t_atNext t_steps t_due t_met t_mbs t_reach t_ring t_core t_live (0 : Int32) (0 : Int32) o7 o12) 126 true 4 lk_4_126 (by decide +kernel) rfl ⟨rfl, rfl, by decide, by decide⟩ [0, 1, 2, 3, 4, 5, 6, 7, 8, 9, 10, 11, 12, 13, 14, 15, 16, 17, 18, 19] [] rfl (Nat.le_of_ble_eq_true rfl) (by decide +kernel) (by rw [HT_rn]; rfl) (fun _ => ⟨0, 4, _, rfl, rfl, by decide, rfl⟩) hs (fun o30 hs => ?_)
                            refine g_hp (hp2 := (HTF d_label d_tg d_places t_guesses t_nodes t_all t_np0 t_so o30.2.1 o30.2.2.1 o30.2.2.2.1 o30.2.2.2.2.1 o30.2.2.2.2.2 t_steps t_due t_met t_mbs t_reach t_ring t_core t_live f_sz f_lt f_le)) (by rw [HT_rn]; rfl) ?_
                            have hq := g_sat_s hs
                            exact g_lret hX (by decide +kernel) rfl hq
                          · have hs := g_sat_f hs c29
                            rw [g_sw, if_neg c29] at ht
                            by_cases c31 : o1 = 120
                            · have hs := g_sat_t hs c31
                              simp only [g_sw, if_pos c31] at ht
                              subst ht
                              refine g_blk 248 [(.aload_n 0, 0, 0, 0, 0), (.iconst 1, 0, 0, 1, 0), (.iconst 0, 0, 0, 0, 0), (.aload_n 0, 0, 0, 0, 0), (.getfield 76, 4, 3, 0, 0), (.lload 7, 0, 0, 0, 0)] [] [(9, .long o12), (0, .ref 0), (3, .int o1), (7, .long o7)] [.long o7, .long t_all, .int (0 : Int32), .int (1 : Int32), .ref 0] (HTF d_label d_tg d_places t_guesses t_nodes t_all t_np0 t_so t_laters t_waiting t_meanwhile t_goal t_atNext t_steps t_due t_met t_mbs t_reach t_ring t_core t_live f_sz f_lt f_le) (by decide +kernel) rfl g_nil ?_
                              refine g_fP (ct_T_addLater N d_label d_tg d_places t_guesses t_nodes t_all t_np0 t_so t_laters t_waiting t_meanwhile t_goal t_atNext t_steps t_due t_met t_mbs t_reach t_ring t_core t_live (1 : Int32) (0 : Int32) t_all o7) 126 true 4 lk_4_126 (by decide +kernel) rfl ⟨rfl, rfl, by decide, by decide⟩ [0, 1, 2, 3, 4, 5, 6, 7, 8, 9, 10, 11, 12, 13, 14, 15, 16, 17, 18, 19] [] rfl (Nat.le_of_ble_eq_true rfl) (by decide +kernel) (by rw [HT_rn]; rfl) (fun _ => ⟨0, 4, _, rfl, rfl, by decide, rfl⟩) hs (fun o32 hs => ?_)
                              refine g_hp (hp2 := (HTF d_label d_tg d_places t_guesses t_nodes t_all t_np0 t_so o32.2.1 o32.2.2.1 o32.2.2.2.1 o32.2.2.2.2.1 o32.2.2.2.2.2 t_steps t_due t_met t_mbs t_reach t_ring t_core t_live f_sz f_lt f_le)) (by rw [HT_rn]; rfl) ?_
                              have hq := g_sat_s hs
                              exact g_lret hX (by decide +kernel) rfl hq
                            · have hs := g_sat_f hs c31
                              rw [g_sw, if_neg c31] at ht
                              have ht : 298 = t := ht
                              subst ht
                              refine g_blk 299 [(.lconst 0, 0, 0, 0, 0)] [] [(9, .long o12), (0, .ref 0), (3, .int o1), (7, .long o7)] [.long (0 : Int64)] (HTF d_label d_tg d_places t_guesses t_nodes t_all t_np0 t_so t_laters t_waiting t_meanwhile t_goal t_atNext t_steps t_due t_met t_mbs t_reach t_ring t_core t_live f_sz f_lt f_le) (by decide +kernel) rfl g_nil ?_
                              have hq := g_sat_s hs
                              exact g_lret hX (by decide +kernel) rfl hq
      · refine g_brn 88 (.if_icmp .ne 20) ((F_L_innerCount o1) = (2 : Int32)) [] (by decide +kernel) rfl (fun c10 => ?_) (fun c10 => ?_)
        · have hs := g_sat_f hs c10
          refine g_blk 89 [(.lconst 0, 0, 0, 0, 0)] [] [(7, .long o7), (0, .ref 0), (3, .int o1), (4, .int (F_L_innerCount o1)), (6, .int o3)] [.long (0 : Int64)] (HTF d_label d_tg d_places t_guesses t_nodes t_all t_np0 t_so t_laters t_waiting t_meanwhile t_goal t_atNext t_steps t_due t_met t_mbs t_reach t_ring t_core t_live f_sz f_lt f_le) (by decide +kernel) rfl g_nil ?_
          refine g_loc (L2 := [(0, .ref 0), (3, .int o1), (7, .long o7)]) [1, 2, 0] rfl ?_
          have hq := g_sat_s hs
          exact hq
        · have hs := g_sat_t hs c10
          refine g_blk 75 [(.iload 6, 0, 0, 0, 0), (.bipush 16, 0, 0, 16, 0)] [] [(7, .long o7), (0, .ref 0), (3, .int o1), (4, .int (F_L_innerCount o1)), (6, .int o3)] [.int (16 : Int32), .int o3] (HTF d_label d_tg d_places t_guesses t_nodes t_all t_np0 t_so t_laters t_waiting t_meanwhile t_goal t_atNext t_steps t_due t_met t_mbs t_reach t_ring t_core t_live f_sz f_lt f_le) (by decide +kernel) rfl g_nil ?_
          refine g_br 88 (.if_icmp .ge 13) ((16 : Int32) ≤ o3) [] (by decide +kernel) rfl (fun c13 => ?_) (fun c13 => ?_)
          · have hs := g_sat_t hs c13
            refine g_blk 89 [(.lconst 0, 0, 0, 0, 0)] [] [(7, .long o7), (0, .ref 0), (3, .int o1), (4, .int (F_L_innerCount o1)), (6, .int o3)] [.long (0 : Int64)] (HTF d_label d_tg d_places t_guesses t_nodes t_all t_np0 t_so t_laters t_waiting t_meanwhile t_goal t_atNext t_steps t_due t_met t_mbs t_reach t_ring t_core t_live f_sz f_lt f_le) (by decide +kernel) rfl g_nil ?_
            refine g_loc (L2 := [(0, .ref 0), (3, .int o1), (7, .long o7)]) [1, 2, 0] rfl ?_
            have hq := g_sat_s hs
            exact hq
          · have hs := g_sat_f hs c13
            obtain ⟨h14, hs⟩ := g_sat_c hs
            refine g_blk 89 [(.aload_n 0, 0, 0, 0, 0), (.getfield 18, 4, 5, 0, 0), (.iload 6, 0, 0, 0, 0), (.laload, 0, 0, 0, 0), (.goto 4, 0, 0, 0, 0)] [vp_in o3 16] [(7, .long o7), (0, .ref 0), (3, .int o1), (4, .int (F_L_innerCount o1)), (6, .int o3)] [.long (t_so o3.toNatClampNeg)] (HTF d_label d_tg d_places t_guesses t_nodes t_all t_np0 t_so t_laters t_waiting t_meanwhile t_goal t_atNext t_steps t_due t_met t_mbs t_reach t_ring t_core t_live f_sz f_lt f_le) (by decide +kernel) rfl (g_and (g_inb_in h14) g_nil) ?_
            refine g_loc (L2 := [(0, .ref 0), (3, .int o1), (7, .long o7)]) [1, 2, 0] rfl ?_
            have hq := g_sat_s hs
            exact hq
    · refine g_br 62 (.if_icmp .lt 20) ((F_L_innerCount o1) < (1 : Int32)) [] (by decide +kernel) rfl (fun c5 => ?_) (fun c5 => ?_)
      · have hs := g_sat_t hs c5
        refine g_blk 63 [(.lconst 0, 0, 0, 0, 0)] [] [(6, .int o3), (0, .ref 0), (3, .int o1), (4, .int (F_L_innerCount o1)), (5, .int (a2 + (1 : Int32)))] [.long (0 : Int64)] (HTF d_label d_tg d_places t_guesses t_nodes t_all t_np0 t_so t_laters t_waiting t_meanwhile t_goal t_atNext t_steps t_due t_met t_mbs t_reach t_ring t_core t_live f_sz f_lt f_le) (by decide +kernel) rfl g_nil ?_
        refine g_loc (L2 := [(0, .ref 0), (3, .int o1), (4, .int (F_L_innerCount o1)), (6, .int o3)]) [1, 2, 3, 0] rfl ?_
        have hq := g_sat_s hs
        exact hq
      · have hs := g_sat_f hs c5
        refine g_blk 49 [(.iload 5, 0, 0, 0, 0), (.bipush 16, 0, 0, 16, 0)] [] [(6, .int o3), (0, .ref 0), (3, .int o1), (4, .int (F_L_innerCount o1)), (5, .int (a2 + (1 : Int32)))] [.int (16 : Int32), .int (a2 + (1 : Int32))] (HTF d_label d_tg d_places t_guesses t_nodes t_all t_np0 t_so t_laters t_waiting t_meanwhile t_goal t_atNext t_steps t_due t_met t_mbs t_reach t_ring t_core t_live f_sz f_lt f_le) (by decide +kernel) rfl g_nil ?_
        refine g_br 62 (.if_icmp .ge 13) ((16 : Int32) ≤ (a2 + (1 : Int32))) [] (by decide +kernel) rfl (fun c8 => ?_) (fun c8 => ?_)
        · have hs := g_sat_t hs c8
          refine g_blk 63 [(.lconst 0, 0, 0, 0, 0)] [] [(6, .int o3), (0, .ref 0), (3, .int o1), (4, .int (F_L_innerCount o1)), (5, .int (a2 + (1 : Int32)))] [.long (0 : Int64)] (HTF d_label d_tg d_places t_guesses t_nodes t_all t_np0 t_so t_laters t_waiting t_meanwhile t_goal t_atNext t_steps t_due t_met t_mbs t_reach t_ring t_core t_live f_sz f_lt f_le) (by decide +kernel) rfl g_nil ?_
          refine g_loc (L2 := [(0, .ref 0), (3, .int o1), (4, .int (F_L_innerCount o1)), (6, .int o3)]) [1, 2, 3, 0] rfl ?_
          have hq := g_sat_s hs
          exact hq
        · have hs := g_sat_f hs c8
          obtain ⟨h9, hs⟩ := g_sat_c hs
          refine g_blk 63 [(.aload_n 0, 0, 0, 0, 0), (.getfield 18, 4, 5, 0, 0), (.iload 5, 0, 0, 0, 0), (.laload, 0, 0, 0, 0), (.goto 4, 0, 0, 0, 0)] [vp_in (a2 + (1 : Int32)) 16] [(6, .int o3), (0, .ref 0), (3, .int o1), (4, .int (F_L_innerCount o1)), (5, .int (a2 + (1 : Int32)))] [.long (t_so ((a2 + (1 : Int32))).toNatClampNeg)] (HTF d_label d_tg d_places t_guesses t_nodes t_all t_np0 t_so t_laters t_waiting t_meanwhile t_goal t_atNext t_steps t_due t_met t_mbs t_reach t_ring t_core t_live f_sz f_lt f_le) (by decide +kernel) rfl (g_and (g_inb_in h9) g_nil) ?_
          refine g_loc (L2 := [(0, .ref 0), (3, .int o1), (4, .int (F_L_innerCount o1)), (6, .int o3)]) [1, 2, 3, 0] rfl ?_
          have hq := g_sat_s hs
          exact hq
  · refine g_brn 35 (.if_icmp .ne 15) ((F_L_innerCount o1) = (2 : Int32)) [] (by decide +kernel) rfl (fun c2 => ?_) (fun c2 => ?_)
    · have hs := g_sat_f hs c2
      refine g_blk 37 [(.iload 5, 0, 0, 0, 0)] [] [(5, .int (a2 + (1 : Int32))), (4, .int (F_L_innerCount o1)), (3, .int o1), (0, .ref 0), (1, .ref 20), (2, .int a2)] [.int (a2 + (1 : Int32))] (HTF d_label d_tg d_places t_guesses t_nodes t_all t_np0 t_so t_laters t_waiting t_meanwhile t_goal t_atNext t_steps t_due t_met t_mbs t_reach t_ring t_core t_live f_sz f_lt f_le) (by decide +kernel) rfl g_nil ?_
      refine g_loc (L2 := [(0, .ref 0), (3, .int o1), (4, .int (F_L_innerCount o1)), (5, .int (a2 + (1 : Int32)))]) [3, 2, 1, 0] rfl ?_
      have hq := g_sat_s hs
      exact hq
    · have hs := g_sat_t hs c2
      refine g_blk 28 [(.iload 5, 0, 0, 0, 0), (.aload_n 1, 0, 0, 0, 0), (.iload 5, 0, 0, 0, 0)] [] [(5, .int (a2 + (1 : Int32))), (4, .int (F_L_innerCount o1)), (3, .int o1), (0, .ref 0), (1, .ref 20), (2, .int a2)] [.int (a2 + (1 : Int32)), .ref 20, .int (a2 + (1 : Int32))] (HTF d_label d_tg d_places t_guesses t_nodes t_all t_np0 t_so t_laters t_waiting t_meanwhile t_goal t_atNext t_steps t_due t_met t_mbs t_reach t_ring t_core t_live f_sz f_lt f_le) (by decide +kernel) rfl g_nil ?_
      refine g_fP (ct_F_spanOf N f_sz f_lt f_le (a2 + (1 : Int32))) 120 true 1 lk_4_120 (by decide +kernel) rfl ⟨rfl, rfl, by decide, by decide⟩ [20, 21] [.int (a2 + (1 : Int32))] rfl (Nat.le_of_ble_eq_true rfl) (by decide +kernel) (by rw [HF_rn]; rfl) (fun _ => ⟨0, 0, _, rfl, rfl, by decide, rfl⟩) hs (fun o4 hs => ?_)
      refine g_hp (hp2 := (HTF d_label d_tg d_places t_guesses t_nodes t_all t_np0 t_so t_laters t_waiting t_meanwhile t_goal t_atNext t_steps t_due t_met t_mbs t_reach t_ring t_core t_live f_sz f_lt f_le)) (by rw [HF_rn]; rfl) ?_
      refine g_blk 37 [(.iadd, 0, 0, 0, 0), (.goto 5, 0, 0, 0, 0)] [] [(5, .int (a2 + (1 : Int32))), (4, .int (F_L_innerCount o1)), (3, .int o1), (0, .ref 0), (1, .ref 20), (2, .int a2)] [.int ((a2 + (1 : Int32)) + o4)] (HTF d_label d_tg d_places t_guesses t_nodes t_all t_np0 t_so t_laters t_waiting t_meanwhile t_goal t_atNext t_steps t_due t_met t_mbs t_reach t_ring t_core t_live f_sz f_lt f_le) (by decide +kernel) rfl g_nil ?_
      refine g_loc (L2 := [(0, .ref 0), (3, .int o1), (4, .int (F_L_innerCount o1)), (5, .int (a2 + (1 : Int32)))]) [3, 2, 1, 0] rfl ?_
      have hq := g_sat_s hs
      exact hq
abbrev rm_T_tell : Room := { frames := 3, cells := 0, slots := 0, locals := 75 }
def T_tell_l1 (N : Nat) (d_label : Nat → Int32) (d_places : Int32) (t_guesses : Int32) (t_nodes : Int32) (t_all : Int64) (t_np0 : Int64) (f_sz : Int32) (f_le : Nat → Int32) : Nat → Int32 → (Nat → Int64) → Int32 → (Nat → Int64) → (Nat → Int64) → (Nat → Int64) → (Nat → Int32) → Option ((Nat → Int64) × Int32 × (Nat → Int64) × (Nat → Int64) × (Nat → Int64) × (Nat → Int32))
  | 0, _, _, _, _, _, _, _ => none
  | n + 1, b2_1, w_so_2, w_laters_3, w_waiting_4, w_meanwhile_5, w_goal_6, w_atNext_7 => (if b2_1 < 0 then (some (w_so_2, w_laters_3, w_waiting_4, w_meanwhile_5, w_goal_6, w_atNext_7)) else ((F_T_nodesWhere N d_label d_places t_guesses t_nodes t_all t_np0 w_so_2 w_laters_3 w_waiting_4 w_meanwhile_5 w_goal_6 w_atNext_7 f_sz f_le b2_1).bind fun o10 => (g_chk (g_inb b2_1 16) (T_tell_l1 N d_label d_places t_guesses t_nodes t_all t_np0 f_sz f_le n (b2_1 + (-1 : Int32)) (vp_updL w_so_2 b2_1.toNatClampNeg o10.1) o10.2.1 o10.2.2.1 o10.2.2.2.1 o10.2.2.2.2.1 o10.2.2.2.2.2))))
theorem T_tell_l1_s (N : Nat) (d_label : Nat → Int32) (d_places : Int32) (t_guesses : Int32) (t_nodes : Int32) (t_all : Int64) (t_np0 : Int64) (f_sz : Int32) (f_le : Nat → Int32) (n : Nat) (b2_1 : Int32) (w_so_2 : Nat → Int64) (w_laters_3 : Int32) (w_waiting_4 : Nat → Int64) (w_meanwhile_5 : Nat → Int64) (w_goal_6 : Nat → Int64) (w_atNext_7 : Nat → Int32) : T_tell_l1 N d_label d_places t_guesses t_nodes t_all t_np0 f_sz f_le (n + 1) b2_1 w_so_2 w_laters_3 w_waiting_4 w_meanwhile_5 w_goal_6 w_atNext_7 = (if b2_1 < 0 then (some (w_so_2, w_laters_3, w_waiting_4, w_meanwhile_5, w_goal_6, w_atNext_7)) else ((F_T_nodesWhere N d_label d_places t_guesses t_nodes t_all t_np0 w_so_2 w_laters_3 w_waiting_4 w_meanwhile_5 w_goal_6 w_atNext_7 f_sz f_le b2_1).bind fun o10 => (g_chk (g_inb b2_1 16) (T_tell_l1 N d_label d_places t_guesses t_nodes t_all t_np0 f_sz f_le n (b2_1 + (-1 : Int32)) (vp_updL w_so_2 b2_1.toNatClampNeg o10.1) o10.2.1 o10.2.2.1 o10.2.2.2.1 o10.2.2.2.2.1 o10.2.2.2.2.2)))) := rfl
def F_T_tell (N : Nat) (d_label : Nat → Int32) (d_places : Int32) (t_guesses : Int32) (t_nodes : Int32) (t_all : Int64) (t_np0 : Int64) (t_so : Nat → Int64) (t_laters : Int32) (t_waiting : Nat → Int64) (t_meanwhile : Nat → Int64) (t_goal : Nat → Int64) (t_atNext : Nat → Int32) (f_sz : Int32) (f_le : Nat → Int32) : Option (Int64 × (Nat → Int64) × Int32 × (Nat → Int64) × (Nat → Int64) × (Nat → Int64) × (Nat → Int32)) := ((T_tell_l1 N d_label d_places t_guesses t_nodes t_all t_np0 f_sz f_le N ((g_imin f_sz (16 : Int32)) - (1 : Int32)) t_so t_laters t_waiting t_meanwhile t_goal t_atNext).bind fun o8 => (some ((o8.1 0), o8.1, o8.2.1, o8.2.2.1, o8.2.2.2.1, o8.2.2.2.2.1, o8.2.2.2.2.2)))
set_option maxRecDepth 100000 in
theorem ct_T_tell (N : Nat) (d_label : Nat → Int32) (d_tg : Nat → Nat → Int32) (d_places : Int32) (t_guesses : Int32) (t_nodes : Int32) (t_all : Int64) (t_np0 : Int64) (t_so : Nat → Int64) (t_laters : Int32) (t_waiting : Nat → Int64) (t_meanwhile : Nat → Int64) (t_goal : Nat → Int64) (t_atNext : Nat → Int32) (t_steps : Nat → Nat → Int64) (t_due : Int32) (t_met : Nat → Int32) (t_mbs : Nat → Int32) (t_reach : Nat → Int64) (t_ring : Nat → Int64) (t_core : Int64) (t_live : Int64) (f_sz : Int32) (f_lt : Int32) (f_le : Nat → Int32) : g_F y_T_tell c_T_tell 3 (some .long) rm_T_tell [.ref 0, .ref 20] (HTF d_label d_tg d_places t_guesses t_nodes t_all t_np0 t_so t_laters t_waiting t_meanwhile t_goal t_atNext t_steps t_due t_met t_mbs t_reach t_ring t_core t_live f_sz f_lt f_le) (F_T_tell N d_label d_places t_guesses t_nodes t_all t_np0 t_so t_laters t_waiting t_meanwhile t_goal t_atNext f_sz f_le) (fun o => some (.long o.1)) (fun o => (HTF d_label d_tg d_places t_guesses t_nodes t_all t_np0 o.2.1 o.2.2.1 o.2.2.2.1 o.2.2.2.2.1 o.2.2.2.2.2.1 o.2.2.2.2.2.2 t_steps t_due t_met t_mbs t_reach t_ring t_core t_live f_sz f_lt f_le)) := by
  intro l P hs
  refine g_ofG 4 (by decide +kernel) rfl (Nat.le_of_ble_eq_true rfl) (fun X hX => ?_)
  unfold F_T_tell at hs
  refine g_loc (L2 := [(0, .ref 0), (1, .ref 20)]) [0, 1] rfl ?_
  refine g_blk 12 [(.aload_n 1, 0, 0, 0, 0), (.getfield 86, 0, 1, 0, 0), (.bipush 16, 0, 0, 16, 0), (.invokestatic 53, 1, 0, 0, 0), (.iconst 1, 0, 0, 1, 0), (.isub, 0, 0, 0, 0), (.istore_n 2, 0, 0, 0, 0)] [1 ≤ rm_T_tell.frames ∧ (([] : List Value).map fun v => v.category).sum + 13 ≤ rm_T_tell.locals] [(2, .int ((g_imin f_sz (16 : Int32)) - (1 : Int32))), (0, .ref 0), (1, .ref 20)] [] (HTF d_label d_tg d_places t_guesses t_nodes t_all t_np0 t_so t_laters t_waiting t_meanwhile t_goal t_atNext t_steps t_due t_met t_mbs t_reach t_ring t_core t_live f_sz f_lt f_le) (by decide +kernel) rfl (g_and ⟨by decide, Nat.le_of_ble_eq_true rfl⟩ g_nil) ?_
  refine g_loc (L2 := [(0, .ref 0), (1, .ref 20), (2, .int ((g_imin f_sz (16 : Int32)) - (1 : Int32)))]) [1, 2, 0] rfl ?_
  refine g_join (fun (o8 : (Nat → Int64) × Int32 × (Nat → Int64) × (Nat → Int64) × (Nat → Int64) × (Nat → Int32)) => g_G X rm_T_tell c_T_tell 3 4 (some .long) 34 [(0, .ref 0)] [] (HTF d_label d_tg d_places t_guesses t_nodes t_all t_np0 o8.1 o8.2.1 o8.2.2.1 o8.2.2.2.1 o8.2.2.2.2.1 o8.2.2.2.2.2 t_steps t_due t_met t_mbs t_reach t_ring t_core t_live f_sz f_lt f_le)) hs (fun o8 hs => ?_) (fun hs => ?_)
  · refine g_blk 40 [(.aload_n 0, 0, 0, 0, 0), (.getfield 18, 4, 5, 0, 0), (.iconst 0, 0, 0, 0, 0), (.laload, 0, 0, 0, 0)] [vp_in (0 : Int32) 16] [(0, .ref 0)] [.long (o8.1 0)] (HTF d_label d_tg d_places t_guesses t_nodes t_all t_np0 o8.1 o8.2.1 o8.2.2.1 o8.2.2.2.1 o8.2.2.2.2.1 o8.2.2.2.2.2 t_steps t_due t_met t_mbs t_reach t_ring t_core t_live f_sz f_lt f_le) (by decide +kernel) rfl (g_and (g_inb_in (by decide +kernel)) g_nil) ?_
    have hq := g_sat_s hs
    exact g_lret hX (by decide +kernel) rfl hq
  · have hlT_tell_l1 : ∀ (n : Nat) (b2_1 : Int32) (w_so_2 : Nat → Int64) (w_laters_3 : Int32) (w_waiting_4 : Nat → Int64) (w_meanwhile_5 : Nat → Int64) (w_goal_6 : Nat → Int64) (w_atNext_7 : Nat → Int32), g_sat (T_tell_l1 N d_label d_places t_guesses t_nodes t_all t_np0 f_sz f_le n b2_1 w_so_2 w_laters_3 w_waiting_4 w_meanwhile_5 w_goal_6 w_atNext_7) (fun (o8 : (Nat → Int64) × Int32 × (Nat → Int64) × (Nat → Int64) × (Nat → Int64) × (Nat → Int32)) => g_G X rm_T_tell c_T_tell 3 4 (some .long) 34 [(0, .ref 0)] [] (HTF d_label d_tg d_places t_guesses t_nodes t_all t_np0 o8.1 o8.2.1 o8.2.2.1 o8.2.2.2.1 o8.2.2.2.2.1 o8.2.2.2.2.2 t_steps t_due t_met t_mbs t_reach t_ring t_core t_live f_sz f_lt f_le)) → g_G X rm_T_tell c_T_tell 3 4 (some .long) 12 [(0, .ref 0), (1, .ref 20), (2, .int b2_1)] [] (HTF d_label d_tg d_places t_guesses t_nodes t_all t_np0 w_so_2 w_laters_3 w_waiting_4 w_meanwhile_5 w_goal_6 w_atNext_7 t_steps t_due t_met t_mbs t_reach t_ring t_core t_live f_sz f_lt f_le) := by
      intro n
      induction n with
      | zero =>
        intro b2_1 w_so_2 w_laters_3 w_waiting_4 w_meanwhile_5 w_goal_6 w_atNext_7 hs
        obtain ⟨_, h0, _⟩ := hs
        cases h0
      | succ n ih =>
        intro b2_1 w_so_2 w_laters_3 w_waiting_4 w_meanwhile_5 w_goal_6 w_atNext_7 hs
        rw [T_tell_l1_s] at hs
        refine g_blk 13 [(.iload_n 2, 0, 0, 0, 0)] [] [(0, .ref 0), (1, .ref 20), (2, .int b2_1)] [.int b2_1] (HTF d_label d_tg d_places t_guesses t_nodes t_all t_np0 w_so_2 w_laters_3 w_waiting_4 w_meanwhile_5 w_goal_6 w_atNext_7 t_steps t_due t_met t_mbs t_reach t_ring t_core t_live f_sz f_lt f_le) (by decide +kernel) rfl g_nil ?_
        refine g_br 34 (.ifCond .lt 21) (b2_1 < 0) [] (by decide +kernel) rfl (fun c9 => ?_) (fun c9 => ?_)
        · have hs := g_sat_t hs c9
          refine g_loc (L2 := [(0, .ref 0)]) [0] rfl ?_
          have hq := g_sat_s hs
          exact hq
        · have hs := g_sat_f hs c9
          refine g_blk 24 [(.aload_n 0, 0, 0, 0, 0), (.getfield 18, 4, 5, 0, 0), (.iload_n 2, 0, 0, 0, 0), (.aload_n 0, 0, 0, 0, 0), (.aload_n 1, 0, 0, 0, 0), (.iload_n 2, 0, 0, 0, 0)] [] [(0, .ref 0), (1, .ref 20), (2, .int b2_1)] [.int b2_1, .ref 20, .ref 0, .int b2_1, .ref 7] (HTF d_label d_tg d_places t_guesses t_nodes t_all t_np0 w_so_2 w_laters_3 w_waiting_4 w_meanwhile_5 w_goal_6 w_atNext_7 t_steps t_due t_met t_mbs t_reach t_ring t_core t_live f_sz f_lt f_le) (by decide +kernel) rfl g_nil ?_
          refine g_fM (ct_T_nodesWhere N d_label d_tg d_places t_guesses t_nodes t_all t_np0 w_so_2 w_laters_3 w_waiting_4 w_meanwhile_5 w_goal_6 w_atNext_7 t_steps t_due t_met t_mbs t_reach t_ring t_core t_live f_sz f_lt f_le b2_1) 91 true 2 lk_4_91 (by decide +kernel) rfl ⟨rfl, rfl, by decide, by decide⟩ [.int b2_1, .ref 7] rfl (Nat.le_of_ble_eq_true rfl) (fun _ => ⟨0, 4, _, rfl, rfl, by decide, rfl⟩) hs (fun o10 hs => ?_)
          obtain ⟨h11, hs⟩ := g_sat_c hs
          refine g_blk 12 [(.lastore, 0, 0, 0, 0), (.iinc 2 (-1), 0, 0, (-1), 0), (.goto (-19), 0, 0, 0, 0)] [vp_in b2_1 16] [(2, .int (b2_1 + (-1 : Int32))), (0, .ref 0), (1, .ref 20)] [] (HTF d_label d_tg d_places t_guesses t_nodes t_all t_np0 (vp_updL w_so_2 b2_1.toNatClampNeg o10.1) o10.2.1 o10.2.2.1 o10.2.2.2.1 o10.2.2.2.2.1 o10.2.2.2.2.2 t_steps t_due t_met t_mbs t_reach t_ring t_core t_live f_sz f_lt f_le) (by decide +kernel) rfl (g_and (g_inb_in h11) g_nil) ?_
          refine g_loc (L2 := [(0, .ref 0), (1, .ref 20), (2, .int (b2_1 + (-1 : Int32)))]) [1, 2, 0] rfl ?_
          exact ih _ _ _ _ _ _ _ hs
    exact hlT_tell_l1 N _ _ _ _ _ _ _ hs
abbrev rm_T_has : Room := { frames := 0, cells := 0, slots := 0, locals := 0 }
def F_T_has (a0 : Int64) (a2 : Int32) : Int32 := (if (lg_cmp ((g_lushr a0 a2) &&& (1 : Int64)) (0 : Int64)) = 0 then (0 : Int32) else (1 : Int32))
theorem bo_T_has (a0 : Int64) (a2 : Int32) : F_T_has a0 a2 = 0 ∨ F_T_has a0 a2 = 1 := by
  unfold F_T_has
  repeat (first | exact Or.inl rfl | exact Or.inr rfl | split)
set_option maxRecDepth 100000 in
theorem ct_T_has (a0 : Int64) (a2 : Int32) : g_F y_T_has c_T_has 3 (some .boolean) rm_T_has [.long a0, .int a2] [] (some (F_T_has a0 a2)) (fun o => some (.int o)) (fun _ => []) := by
  intro l P hs
  refine g_ofG 4 (by decide +kernel) rfl (Nat.le_of_ble_eq_true rfl) (fun X hX => ?_)
  unfold F_T_has at hs
  refine g_loc (L2 := [(0, .long a0), (2, .int a2)]) [0, 1] rfl ?_
  refine g_blk 7 [(.lload_n 0, 0, 0, 0, 0), (.iload_n 2, 0, 0, 0, 0), (.lushr, 0, 0, 0, 0), (.lconst 1, 0, 0, 0, 1), (.land, 0, 0, 0, 0), (.lconst 0, 0, 0, 0, 0), (.lcmp, 0, 0, 0, 0)] [] [(0, .long a0), (2, .int a2)] [.int (lg_cmp ((g_lushr a0 a2) &&& (1 : Int64)) (0 : Int64))] [] (by decide +kernel) rfl g_nil ?_
  have hJ2 : ∀ (v2 : Int32) (ev2 : v2 = (if (lg_cmp ((g_lushr a0 a2) &&& (1 : Int64)) (0 : Int64)) = 0 then (0 : Int32) else (1 : Int32))), g_G X rm_T_has c_T_has 3 4 (some .boolean) 15 [] [.int v2] [] := by
    intro v2 ev2
    subst ev2
    have hq := g_sat_s hs
    exact g_zret hX (by decide +kernel) rfl (by repeat (first | exact Or.inl rfl | exact Or.inr rfl | split)) hq
  refine g_br 14 (.ifCond .eq 7) ((lg_cmp ((g_lushr a0 a2) &&& (1 : Int64)) (0 : Int64)) = 0) [] (by decide +kernel) rfl (fun c4 => ?_) (fun c4 => ?_)
  · refine g_blk 15 [(.iconst 0, 0, 0, 0, 0)] [] [(0, .long a0), (2, .int a2)] [.int (0 : Int32)] [] (by decide +kernel) rfl g_nil ?_
    refine g_loc (L2 := []) [] rfl ?_
    exact hJ2 _ (by rw [if_pos c4])
  · refine g_blk 15 [(.iconst 1, 0, 0, 1, 0), (.goto 4, 0, 0, 0, 0)] [] [(0, .long a0), (2, .int a2)] [.int (1 : Int32)] [] (by decide +kernel) rfl g_nil ?_
    refine g_loc (L2 := []) [] rfl ?_
    exact hJ2 _ (by rw [if_neg c4])
abbrev rm_T_allowedBehind : Room := { frames := 1, cells := 0, slots := 0, locals := 22 }
def T_allowedBehind_l1 (t_laters : Int32) (t_atNext : Nat → Int32) (t_goal : Nat → Int64) (a1 : Int32) (t_meanwhile : Nat → Int64) (t_waiting : Nat → Int64) (t_all : Int64) : Nat → Int64 → Int32 → Option Int64
  | 0, _, _ => none
  | n + 1, b2_1, b4_2 => (if t_laters ≤ b4_2 then (some b2_1) else (if (3 : Int32) ≤ b4_2 then (some b2_1) else (g_chk (g_inb b4_2 3) (g_chk (g_inb b4_2 3) ((if (t_atNext b4_2.toNatClampNeg) = 0 then (g_chk (g_inb b4_2 3) (if (F_T_has (t_goal b4_2.toNatClampNeg) a1) = 0 then (g_chk (g_inb b4_2 3) (if (F_T_has (t_meanwhile b4_2.toNatClampNeg) a1) = 0 then (some (b2_1 &&& (if (F_T_has (t_waiting b4_2.toNatClampNeg) a1) = 0 then t_all else (0 : Int64)))) else ((if (F_T_has (t_waiting b4_2.toNatClampNeg) a1) = 0 then (g_chk (g_inb b4_2 3) (some ((t_waiting b4_2.toNatClampNeg) ^^^ (-1 : Int64)))) else (g_chk (g_inb b4_2 3) (some (t_waiting b4_2.toNatClampNeg)))).bind fun o21 => (some (b2_1 &&& o21))))) else (some (b2_1 &&& (if (F_T_has (t_waiting b4_2.toNatClampNeg) a1) = 0 then (0 : Int64) else t_all))))) else ((if (F_T_has (t_waiting b4_2.toNatClampNeg) a1) = 0 then (g_chk (g_inb b4_2 3) (some ((t_goal b4_2.toNatClampNeg) ^^^ (-1 : Int64)))) else (g_chk (g_inb b4_2 3) (some (t_goal b4_2.toNatClampNeg)))).bind fun o30 => (some (b2_1 &&& o30)))).bind fun o10 => (T_allowedBehind_l1 t_laters t_atNext t_goal a1 t_meanwhile t_waiting t_all n o10 (b4_2 + (1 : Int32))))))))
theorem T_allowedBehind_l1_s (t_laters : Int32) (t_atNext : Nat → Int32) (t_goal : Nat → Int64) (a1 : Int32) (t_meanwhile : Nat → Int64) (t_waiting : Nat → Int64) (t_all : Int64) (n : Nat) (b2_1 : Int64) (b4_2 : Int32) : T_allowedBehind_l1 t_laters t_atNext t_goal a1 t_meanwhile t_waiting t_all (n + 1) b2_1 b4_2 = (if t_laters ≤ b4_2 then (some b2_1) else (if (3 : Int32) ≤ b4_2 then (some b2_1) else (g_chk (g_inb b4_2 3) (g_chk (g_inb b4_2 3) ((if (t_atNext b4_2.toNatClampNeg) = 0 then (g_chk (g_inb b4_2 3) (if (F_T_has (t_goal b4_2.toNatClampNeg) a1) = 0 then (g_chk (g_inb b4_2 3) (if (F_T_has (t_meanwhile b4_2.toNatClampNeg) a1) = 0 then (some (b2_1 &&& (if (F_T_has (t_waiting b4_2.toNatClampNeg) a1) = 0 then t_all else (0 : Int64)))) else ((if (F_T_has (t_waiting b4_2.toNatClampNeg) a1) = 0 then (g_chk (g_inb b4_2 3) (some ((t_waiting b4_2.toNatClampNeg) ^^^ (-1 : Int64)))) else (g_chk (g_inb b4_2 3) (some (t_waiting b4_2.toNatClampNeg)))).bind fun o21 => (some (b2_1 &&& o21))))) else (some (b2_1 &&& (if (F_T_has (t_waiting b4_2.toNatClampNeg) a1) = 0 then (0 : Int64) else t_all))))) else ((if (F_T_has (t_waiting b4_2.toNatClampNeg) a1) = 0 then (g_chk (g_inb b4_2 3) (some ((t_goal b4_2.toNatClampNeg) ^^^ (-1 : Int64)))) else (g_chk (g_inb b4_2 3) (some (t_goal b4_2.toNatClampNeg)))).bind fun o30 => (some (b2_1 &&& o30)))).bind fun o10 => (T_allowedBehind_l1 t_laters t_atNext t_goal a1 t_meanwhile t_waiting t_all n o10 (b4_2 + (1 : Int32)))))))) := rfl
def F_T_allowedBehind (N : Nat) (t_all : Int64) (t_laters : Int32) (t_waiting : Nat → Int64) (t_meanwhile : Nat → Int64) (t_goal : Nat → Int64) (t_atNext : Nat → Int32) (a1 : Int32) : Option Int64 := ((T_allowedBehind_l1 t_laters t_atNext t_goal a1 t_meanwhile t_waiting t_all N t_all (0 : Int32)).bind fun o3 => (some o3))
set_option maxRecDepth 100000 in
theorem ct_T_allowedBehind (N : Nat) (d_label : Nat → Int32) (d_tg : Nat → Nat → Int32) (d_places : Int32) (t_guesses : Int32) (t_nodes : Int32) (t_all : Int64) (t_np0 : Int64) (t_so : Nat → Int64) (t_laters : Int32) (t_waiting : Nat → Int64) (t_meanwhile : Nat → Int64) (t_goal : Nat → Int64) (t_atNext : Nat → Int32) (t_steps : Nat → Nat → Int64) (t_due : Int32) (t_met : Nat → Int32) (t_mbs : Nat → Int32) (t_reach : Nat → Int64) (t_ring : Nat → Int64) (t_core : Int64) (t_live : Int64) (a1 : Int32) : g_F y_T_allowedBehind c_T_allowedBehind 6 (some .long) rm_T_allowedBehind [.ref 0, .int a1] (HT d_label d_tg d_places t_guesses t_nodes t_all t_np0 t_so t_laters t_waiting t_meanwhile t_goal t_atNext t_steps t_due t_met t_mbs t_reach t_ring t_core t_live) (F_T_allowedBehind N t_all t_laters t_waiting t_meanwhile t_goal t_atNext a1) (fun o => some (.long o)) (fun _ => (HT d_label d_tg d_places t_guesses t_nodes t_all t_np0 t_so t_laters t_waiting t_meanwhile t_goal t_atNext t_steps t_due t_met t_mbs t_reach t_ring t_core t_live)) := by
  intro l P hs
  refine g_ofG 4 (by decide +kernel) rfl (Nat.le_of_ble_eq_true rfl) (fun X hX => ?_)
  unfold F_T_allowedBehind at hs
  refine g_loc (L2 := [(0, .ref 0), (1, .int a1)]) [0, 1] rfl ?_
  refine g_blk 8 [(.aload_n 0, 0, 0, 0, 0), (.getfield 76, 4, 3, 0, 0), (.lstore_n 2, 0, 0, 0, 0), (.iconst 0, 0, 0, 0, 0), (.istore 4, 0, 0, 0, 0)] [] [(4, .int (0 : Int32)), (2, .long t_all), (0, .ref 0), (1, .int a1)] [] (HT d_label d_tg d_places t_guesses t_nodes t_all t_np0 t_so t_laters t_waiting t_meanwhile t_goal t_atNext t_steps t_due t_met t_mbs t_reach t_ring t_core t_live) (by decide +kernel) rfl g_nil ?_
  refine g_loc (L2 := [(0, .ref 0), (1, .int a1), (2, .long t_all), (4, .int (0 : Int32))]) [2, 3, 1, 0] rfl ?_
  refine g_join (fun (o3 : Int64) => g_G X rm_T_allowedBehind c_T_allowedBehind 6 4 (some .long) 179 [(2, .long o3)] [] (HT d_label d_tg d_places t_guesses t_nodes t_all t_np0 t_so t_laters t_waiting t_meanwhile t_goal t_atNext t_steps t_due t_met t_mbs t_reach t_ring t_core t_live)) hs (fun o3 hs => ?_) (fun hs => ?_)
  · refine g_blk 180 [(.lload_n 2, 0, 0, 0, 0)] [] [(2, .long o3)] [.long o3] (HT d_label d_tg d_places t_guesses t_nodes t_all t_np0 t_so t_laters t_waiting t_meanwhile t_goal t_atNext t_steps t_due t_met t_mbs t_reach t_ring t_core t_live) (by decide +kernel) rfl g_nil ?_
    have hq := g_sat_s hs
    exact g_lret hX (by decide +kernel) rfl hq
  · have hlT_allowedBehind_l1 : ∀ (n : Nat) (b2_1 : Int64) (b4_2 : Int32), g_sat (T_allowedBehind_l1 t_laters t_atNext t_goal a1 t_meanwhile t_waiting t_all n b2_1 b4_2) (fun (o3 : Int64) => g_G X rm_T_allowedBehind c_T_allowedBehind 6 4 (some .long) 179 [(2, .long o3)] [] (HT d_label d_tg d_places t_guesses t_nodes t_all t_np0 t_so t_laters t_waiting t_meanwhile t_goal t_atNext t_steps t_due t_met t_mbs t_reach t_ring t_core t_live)) → g_G X rm_T_allowedBehind c_T_allowedBehind 6 4 (some .long) 8 [(0, .ref 0), (1, .int a1), (2, .long b2_1), (4, .int b4_2)] [] (HT d_label d_tg d_places t_guesses t_nodes t_all t_np0 t_so t_laters t_waiting t_meanwhile t_goal t_atNext t_steps t_due t_met t_mbs t_reach t_ring t_core t_live) := by
      intro n
      induction n with
      | zero =>
        intro b2_1 b4_2 hs
        obtain ⟨_, h0, _⟩ := hs
        cases h0
      | succ n ih =>
        intro b2_1 b4_2 hs
        rw [T_allowedBehind_l1_s] at hs
        refine g_blk 14 [(.iload 4, 0, 0, 0, 0), (.aload_n 0, 0, 0, 0, 0), (.getfield 83, 4, 6, 0, 0)] [] [(0, .ref 0), (1, .int a1), (2, .long b2_1), (4, .int b4_2)] [.int t_laters, .int b4_2] (HT d_label d_tg d_places t_guesses t_nodes t_all t_np0 t_so t_laters t_waiting t_meanwhile t_goal t_atNext t_steps t_due t_met t_mbs t_reach t_ring t_core t_live) (by decide +kernel) rfl g_nil ?_
        refine g_br 179 (.if_icmp .ge 165) (t_laters ≤ b4_2) [] (by decide +kernel) rfl (fun c4 => ?_) (fun c4 => ?_)
        · have hs := g_sat_t hs c4
          refine g_loc (L2 := [(2, .long b2_1)]) [2] rfl ?_
          have hq := g_sat_s hs
          exact hq
        · have hs := g_sat_f hs c4
          refine g_blk 20 [(.iload 4, 0, 0, 0, 0), (.iconst 3, 0, 0, 3, 0)] [] [(0, .ref 0), (1, .int a1), (2, .long b2_1), (4, .int b4_2)] [.int (3 : Int32), .int b4_2] (HT d_label d_tg d_places t_guesses t_nodes t_all t_np0 t_so t_laters t_waiting t_meanwhile t_goal t_atNext t_steps t_due t_met t_mbs t_reach t_ring t_core t_live) (by decide +kernel) rfl g_nil ?_
          refine g_br 179 (.if_icmp .ge 159) ((3 : Int32) ≤ b4_2) [] (by decide +kernel) rfl (fun c5 => ?_) (fun c5 => ?_)
          · have hs := g_sat_t hs c5
            refine g_loc (L2 := [(2, .long b2_1)]) [2] rfl ?_
            have hq := g_sat_s hs
            exact hq
          · have hs := g_sat_f hs c5
            obtain ⟨h6, hs⟩ := g_sat_c hs
            refine g_blk 31 [(.aload_n 0, 0, 0, 0, 0), (.getfield 22, 4, 7, 0, 0), (.iload 4, 0, 0, 0, 0), (.laload, 0, 0, 0, 0), (.iload_n 1, 0, 0, 0, 0)] [vp_in b4_2 3] [(0, .ref 0), (1, .int a1), (2, .long b2_1), (4, .int b4_2)] [.int a1, .long (t_waiting b4_2.toNatClampNeg)] (HT d_label d_tg d_places t_guesses t_nodes t_all t_np0 t_so t_laters t_waiting t_meanwhile t_goal t_atNext t_steps t_due t_met t_mbs t_reach t_ring t_core t_live) (by decide +kernel) rfl (g_and (g_inb_in h6) g_nil) ?_
            refine g_pN (ct_T_has (t_waiting b4_2.toNatClampNeg) a1) 147 2 lk_4_147 (by decide +kernel) rfl ⟨rfl, rfl, by decide, by decide⟩ [] rfl (Nat.le_of_ble_eq_true rfl) ?_
            obtain ⟨h7, hs⟩ := g_sat_c hs
            refine g_blk 43 [(.istore 5, 0, 0, 0, 0), (.aload_n 0, 0, 0, 0, 0), (.getfield 31, 4, 10, 0, 0), (.iload 4, 0, 0, 0, 0), (.baload, 0, 0, 0, 0)] [vp_in b4_2 3] [(5, .int (F_T_has (t_waiting b4_2.toNatClampNeg) a1)), (0, .ref 0), (1, .int a1), (2, .long b2_1), (4, .int b4_2)] [.int (t_atNext b4_2.toNatClampNeg)] (HT d_label d_tg d_places t_guesses t_nodes t_all t_np0 t_so t_laters t_waiting t_meanwhile t_goal t_atNext t_steps t_due t_met t_mbs t_reach t_ring t_core t_live) (by decide +kernel) rfl (g_and (g_inb_in h7) g_nil) ?_
            refine g_join (fun (o10 : Int64) => g_G X rm_T_allowedBehind c_T_allowedBehind 6 4 (some .long) 173 [(0, .ref 0), (1, .int a1), (2, .long o10), (4, .int b4_2)] [] (HT d_label d_tg d_places t_guesses t_nodes t_all t_np0 t_so t_laters t_waiting t_meanwhile t_goal t_atNext t_steps t_due t_met t_mbs t_reach t_ring t_core t_live)) hs (fun o10 hs => ?_) (fun hs => ?_)
            · refine g_blk 8 [(.iinc 4 1, 0, 0, 1, 0), (.goto (-168), 0, 0, 0, 0)] [] [(4, .int (b4_2 + (1 : Int32))), (0, .ref 0), (1, .int a1), (2, .long o10)] [] (HT d_label d_tg d_places t_guesses t_nodes t_all t_np0 t_so t_laters t_waiting t_meanwhile t_goal t_atNext t_steps t_due t_met t_mbs t_reach t_ring t_core t_live) (by decide +kernel) rfl g_nil ?_
              refine g_loc (L2 := [(0, .ref 0), (1, .int a1), (2, .long o10), (4, .int (b4_2 + (1 : Int32)))]) [1, 2, 3, 0] rfl ?_
              exact ih _ _ hs
            · refine g_br 78 (.ifCond .eq 35) ((t_atNext b4_2.toNatClampNeg) = 0) [] (by decide +kernel) rfl (fun c8 => ?_) (fun c8 => ?_)
              · have hs := g_sat_t hs c8
                obtain ⟨h11, hs⟩ := g_sat_c hs
                refine g_blk 86 [(.aload_n 0, 0, 0, 0, 0), (.getfield 28, 4, 9, 0, 0), (.iload 4, 0, 0, 0, 0), (.laload, 0, 0, 0, 0), (.iload_n 1, 0, 0, 0, 0)] [vp_in b4_2 3] [(5, .int (F_T_has (t_waiting b4_2.toNatClampNeg) a1)), (0, .ref 0), (1, .int a1), (2, .long b2_1), (4, .int b4_2)] [.int a1, .long (t_goal b4_2.toNatClampNeg)] (HT d_label d_tg d_places t_guesses t_nodes t_all t_np0 t_so t_laters t_waiting t_meanwhile t_goal t_atNext t_steps t_due t_met t_mbs t_reach t_ring t_core t_live) (by decide +kernel) rfl (g_and (g_inb_in h11) g_nil) ?_
                refine g_pN (ct_T_has (t_goal b4_2.toNatClampNeg) a1) 147 2 lk_4_147 (by decide +kernel) rfl ⟨rfl, rfl, by decide, by decide⟩ [] rfl (Nat.le_of_ble_eq_true rfl) ?_
                refine g_br 111 (.ifCond .eq 22) ((F_T_has (t_goal b4_2.toNatClampNeg) a1) = 0) [] (by decide +kernel) rfl (fun c12 => ?_) (fun c12 => ?_)
                · have hs := g_sat_t hs c12
                  obtain ⟨h13, hs⟩ := g_sat_c hs
                  refine g_blk 119 [(.aload_n 0, 0, 0, 0, 0), (.getfield 25, 4, 8, 0, 0), (.iload 4, 0, 0, 0, 0), (.laload, 0, 0, 0, 0), (.iload_n 1, 0, 0, 0, 0)] [vp_in b4_2 3] [(5, .int (F_T_has (t_waiting b4_2.toNatClampNeg) a1)), (0, .ref 0), (1, .int a1), (2, .long b2_1), (4, .int b4_2)] [.int a1, .long (t_meanwhile b4_2.toNatClampNeg)] (HT d_label d_tg d_places t_guesses t_nodes t_all t_np0 t_so t_laters t_waiting t_meanwhile t_goal t_atNext t_steps t_due t_met t_mbs t_reach t_ring t_core t_live) (by decide +kernel) rfl (g_and (g_inb_in h13) g_nil) ?_
                  refine g_pN (ct_T_has (t_meanwhile b4_2.toNatClampNeg) a1) 147 2 lk_4_147 (by decide +kernel) rfl ⟨rfl, rfl, by decide, by decide⟩ [] rfl (Nat.le_of_ble_eq_true rfl) ?_
                  refine g_br 157 (.ifCond .eq 35) ((F_T_has (t_meanwhile b4_2.toNatClampNeg) a1) = 0) [] (by decide +kernel) rfl (fun c14 => ?_) (fun c14 => ?_)
                  · have hs := g_sat_t hs c14
                    refine g_blk 160 [(.lload_n 2, 0, 0, 0, 0), (.iload 5, 0, 0, 0, 0)] [] [(5, .int (F_T_has (t_waiting b4_2.toNatClampNeg) a1)), (0, .ref 0), (1, .int a1), (2, .long b2_1), (4, .int b4_2)] [.int (F_T_has (t_waiting b4_2.toNatClampNeg) a1), .long b2_1] (HT d_label d_tg d_places t_guesses t_nodes t_all t_np0 t_so t_laters t_waiting t_meanwhile t_goal t_atNext t_steps t_due t_met t_mbs t_reach t_ring t_core t_live) (by decide +kernel) rfl g_nil ?_
                    have hJ16 : ∀ (v16 : Int64) (ev16 : v16 = (if (F_T_has (t_waiting b4_2.toNatClampNeg) a1) = 0 then t_all else (0 : Int64))), g_G X rm_T_allowedBehind c_T_allowedBehind 6 4 (some .long) 171 [(0, .ref 0), (1, .int a1), (4, .int b4_2)] [.long v16, .long b2_1] (HT d_label d_tg d_places t_guesses t_nodes t_all t_np0 t_so t_laters t_waiting t_meanwhile t_goal t_atNext t_steps t_due t_met t_mbs t_reach t_ring t_core t_live) := by
                      intro v16 ev16
                      subst ev16
                      refine g_blk 173 [(.land, 0, 0, 0, 0), (.lstore_n 2, 0, 0, 0, 0)] [] [(2, .long (b2_1 &&& (if (F_T_has (t_waiting b4_2.toNatClampNeg) a1) = 0 then t_all else (0 : Int64)))), (0, .ref 0), (1, .int a1), (4, .int b4_2)] [] (HT d_label d_tg d_places t_guesses t_nodes t_all t_np0 t_so t_laters t_waiting t_meanwhile t_goal t_atNext t_steps t_due t_met t_mbs t_reach t_ring t_core t_live) (by decide +kernel) rfl g_nil ?_
                      refine g_loc (L2 := [(0, .ref 0), (1, .int a1), (2, .long (b2_1 &&& (if (F_T_has (t_waiting b4_2.toNatClampNeg) a1) = 0 then t_all else (0 : Int64)))), (4, .int b4_2)]) [1, 2, 0, 3] rfl ?_
                      have hq := g_sat_s hs
                      exact hq
                    refine g_br 167 (.ifCond .eq 7) ((F_T_has (t_waiting b4_2.toNatClampNeg) a1) = 0) [.long b2_1] (by decide +kernel) rfl (fun c18 => ?_) (fun c18 => ?_)
                    · refine g_blk 171 [(.aload_n 0, 0, 0, 0, 0), (.getfield 76, 4, 3, 0, 0)] [] [(5, .int (F_T_has (t_waiting b4_2.toNatClampNeg) a1)), (0, .ref 0), (1, .int a1), (2, .long b2_1), (4, .int b4_2)] [.long t_all, .long b2_1] (HT d_label d_tg d_places t_guesses t_nodes t_all t_np0 t_so t_laters t_waiting t_meanwhile t_goal t_atNext t_steps t_due t_met t_mbs t_reach t_ring t_core t_live) (by decide +kernel) rfl g_nil ?_
                      refine g_loc (L2 := [(0, .ref 0), (1, .int a1), (4, .int b4_2)]) [1, 2, 4] rfl ?_
                      exact hJ16 _ (by rw [if_pos c18])
                    · refine g_blk 171 [(.lconst 0, 0, 0, 0, 0), (.goto 7, 0, 0, 0, 0)] [] [(5, .int (F_T_has (t_waiting b4_2.toNatClampNeg) a1)), (0, .ref 0), (1, .int a1), (2, .long b2_1), (4, .int b4_2)] [.long (0 : Int64), .long b2_1] (HT d_label d_tg d_places t_guesses t_nodes t_all t_np0 t_so t_laters t_waiting t_meanwhile t_goal t_atNext t_steps t_due t_met t_mbs t_reach t_ring t_core t_live) (by decide +kernel) rfl g_nil ?_
                      refine g_loc (L2 := [(0, .ref 0), (1, .int a1), (4, .int b4_2)]) [1, 2, 4] rfl ?_
                      exact hJ16 _ (by rw [if_neg c18])
                  · have hs := g_sat_f hs c14
                    refine g_blk 128 [(.lload_n 2, 0, 0, 0, 0), (.iload 5, 0, 0, 0, 0)] [] [(5, .int (F_T_has (t_waiting b4_2.toNatClampNeg) a1)), (0, .ref 0), (1, .int a1), (2, .long b2_1), (4, .int b4_2)] [.int (F_T_has (t_waiting b4_2.toNatClampNeg) a1), .long b2_1] (HT d_label d_tg d_places t_guesses t_nodes t_all t_np0 t_so t_laters t_waiting t_meanwhile t_goal t_atNext t_steps t_due t_met t_mbs t_reach t_ring t_core t_live) (by decide +kernel) rfl g_nil ?_
                    refine g_join (fun (o21 : Int64) => g_G X rm_T_allowedBehind c_T_allowedBehind 6 4 (some .long) 152 [(0, .ref 0), (1, .int a1), (4, .int b4_2)] [.long o21, .long b2_1] (HT d_label d_tg d_places t_guesses t_nodes t_all t_np0 t_so t_laters t_waiting t_meanwhile t_goal t_atNext t_steps t_due t_met t_mbs t_reach t_ring t_core t_live)) hs (fun o21 hs => ?_) (fun hs => ?_)
                    · refine g_blk 173 [(.land, 0, 0, 0, 0), (.lstore_n 2, 0, 0, 0, 0), (.goto 19, 0, 0, 0, 0)] [] [(2, .long (b2_1 &&& o21)), (0, .ref 0), (1, .int a1), (4, .int b4_2)] [] (HT d_label d_tg d_places t_guesses t_nodes t_all t_np0 t_so t_laters t_waiting t_meanwhile t_goal t_atNext t_steps t_due t_met t_mbs t_reach t_ring t_core t_live) (by decide +kernel) rfl g_nil ?_
                      refine g_loc (L2 := [(0, .ref 0), (1, .int a1), (2, .long (b2_1 &&& o21)), (4, .int b4_2)]) [1, 2, 0, 3] rfl ?_
                      have hq := g_sat_s hs
                      exact hq
                    · refine g_br 141 (.ifCond .eq 13) ((F_T_has (t_waiting b4_2.toNatClampNeg) a1) = 0) [.long b2_1] (by decide +kernel) rfl (fun c19 => ?_) (fun c19 => ?_)
                      · have hs := g_sat_t hs c19
                        obtain ⟨h22, hs⟩ := g_sat_c hs
                        refine g_blk 152 [(.aload_n 0, 0, 0, 0, 0), (.getfield 22, 4, 7, 0, 0), (.iload 4, 0, 0, 0, 0), (.laload, 0, 0, 0, 0), (.ldc2_w 111, 0, 0, 0, (-1)), (.lxor, 0, 0, 0, 0)] [vp_in b4_2 3] [(5, .int (F_T_has (t_waiting b4_2.toNatClampNeg) a1)), (0, .ref 0), (1, .int a1), (2, .long b2_1), (4, .int b4_2)] [.long ((t_waiting b4_2.toNatClampNeg) ^^^ (-1 : Int64)), .long b2_1] (HT d_label d_tg d_places t_guesses t_nodes t_all t_np0 t_so t_laters t_waiting t_meanwhile t_goal t_atNext t_steps t_due t_met t_mbs t_reach t_ring t_core t_live) (by decide +kernel) rfl (g_and (g_inb_in h22) g_nil) ?_
                        refine g_loc (L2 := [(0, .ref 0), (1, .int a1), (4, .int b4_2)]) [1, 2, 4] rfl ?_
                        have hq := g_sat_s hs
                        exact hq
                      · have hs := g_sat_f hs c19
                        obtain ⟨h23, hs⟩ := g_sat_c hs
                        refine g_blk 152 [(.aload_n 0, 0, 0, 0, 0), (.getfield 22, 4, 7, 0, 0), (.iload 4, 0, 0, 0, 0), (.laload, 0, 0, 0, 0), (.goto 14, 0, 0, 0, 0)] [vp_in b4_2 3] [(5, .int (F_T_has (t_waiting b4_2.toNatClampNeg) a1)), (0, .ref 0), (1, .int a1), (2, .long b2_1), (4, .int b4_2)] [.long (t_waiting b4_2.toNatClampNeg), .long b2_1] (HT d_label d_tg d_places t_guesses t_nodes t_all t_np0 t_so t_laters t_waiting t_meanwhile t_goal t_atNext t_steps t_due t_met t_mbs t_reach t_ring t_core t_live) (by decide +kernel) rfl (g_and (g_inb_in h23) g_nil) ?_
                        refine g_loc (L2 := [(0, .ref 0), (1, .int a1), (4, .int b4_2)]) [1, 2, 4] rfl ?_
                        have hq := g_sat_s hs
                        exact hq
                · have hs := g_sat_f hs c12
                  refine g_blk 95 [(.lload_n 2, 0, 0, 0, 0), (.iload 5, 0, 0, 0, 0)] [] [(5, .int (F_T_has (t_waiting b4_2.toNatClampNeg) a1)), (0, .ref 0), (1, .int a1), (2, .long b2_1), (4, .int b4_2)] [.int (F_T_has (t_waiting b4_2.toNatClampNeg) a1), .long b2_1] (HT d_label d_tg d_places t_guesses t_nodes t_all t_np0 t_so t_laters t_waiting t_meanwhile t_goal t_atNext t_steps t_due t_met t_mbs t_reach t_ring t_core t_live) (by decide +kernel) rfl g_nil ?_
                  have hJ25 : ∀ (v25 : Int64) (ev25 : v25 = (if (F_T_has (t_waiting b4_2.toNatClampNeg) a1) = 0 then (0 : Int64) else t_all)), g_G X rm_T_allowedBehind c_T_allowedBehind 6 4 (some .long) 106 [(0, .ref 0), (1, .int a1), (4, .int b4_2)] [.long v25, .long b2_1] (HT d_label d_tg d_places t_guesses t_nodes t_all t_np0 t_so t_laters t_waiting t_meanwhile t_goal t_atNext t_steps t_due t_met t_mbs t_reach t_ring t_core t_live) := by
                    intro v25 ev25
                    subst ev25
                    refine g_blk 173 [(.land, 0, 0, 0, 0), (.lstore_n 2, 0, 0, 0, 0), (.goto 65, 0, 0, 0, 0)] [] [(2, .long (b2_1 &&& (if (F_T_has (t_waiting b4_2.toNatClampNeg) a1) = 0 then (0 : Int64) else t_all))), (0, .ref 0), (1, .int a1), (4, .int b4_2)] [] (HT d_label d_tg d_places t_guesses t_nodes t_all t_np0 t_so t_laters t_waiting t_meanwhile t_goal t_atNext t_steps t_due t_met t_mbs t_reach t_ring t_core t_live) (by decide +kernel) rfl g_nil ?_
                    refine g_loc (L2 := [(0, .ref 0), (1, .int a1), (2, .long (b2_1 &&& (if (F_T_has (t_waiting b4_2.toNatClampNeg) a1) = 0 then (0 : Int64) else t_all))), (4, .int b4_2)]) [1, 2, 0, 3] rfl ?_
                    have hq := g_sat_s hs
                    exact hq
                  refine g_br 105 (.ifCond .eq 10) ((F_T_has (t_waiting b4_2.toNatClampNeg) a1) = 0) [.long b2_1] (by decide +kernel) rfl (fun c27 => ?_) (fun c27 => ?_)
                  · refine g_blk 106 [(.lconst 0, 0, 0, 0, 0)] [] [(5, .int (F_T_has (t_waiting b4_2.toNatClampNeg) a1)), (0, .ref 0), (1, .int a1), (2, .long b2_1), (4, .int b4_2)] [.long (0 : Int64), .long b2_1] (HT d_label d_tg d_places t_guesses t_nodes t_all t_np0 t_so t_laters t_waiting t_meanwhile t_goal t_atNext t_steps t_due t_met t_mbs t_reach t_ring t_core t_live) (by decide +kernel) rfl g_nil ?_
                    refine g_loc (L2 := [(0, .ref 0), (1, .int a1), (4, .int b4_2)]) [1, 2, 4] rfl ?_
                    exact hJ25 _ (by rw [if_pos c27])
                  · refine g_blk 106 [(.aload_n 0, 0, 0, 0, 0), (.getfield 76, 4, 3, 0, 0), (.goto 4, 0, 0, 0, 0)] [] [(5, .int (F_T_has (t_waiting b4_2.toNatClampNeg) a1)), (0, .ref 0), (1, .int a1), (2, .long b2_1), (4, .int b4_2)] [.long t_all, .long b2_1] (HT d_label d_tg d_places t_guesses t_nodes t_all t_np0 t_so t_laters t_waiting t_meanwhile t_goal t_atNext t_steps t_due t_met t_mbs t_reach t_ring t_core t_live) (by decide +kernel) rfl g_nil ?_
                    refine g_loc (L2 := [(0, .ref 0), (1, .int a1), (4, .int b4_2)]) [1, 2, 4] rfl ?_
                    exact hJ25 _ (by rw [if_neg c27])
              · have hs := g_sat_f hs c8
                refine g_blk 49 [(.lload_n 2, 0, 0, 0, 0), (.iload 5, 0, 0, 0, 0)] [] [(5, .int (F_T_has (t_waiting b4_2.toNatClampNeg) a1)), (0, .ref 0), (1, .int a1), (2, .long b2_1), (4, .int b4_2)] [.int (F_T_has (t_waiting b4_2.toNatClampNeg) a1), .long b2_1] (HT d_label d_tg d_places t_guesses t_nodes t_all t_np0 t_so t_laters t_waiting t_meanwhile t_goal t_atNext t_steps t_due t_met t_mbs t_reach t_ring t_core t_live) (by decide +kernel) rfl g_nil ?_
                refine g_join (fun (o30 : Int64) => g_G X rm_T_allowedBehind c_T_allowedBehind 6 4 (some .long) 73 [(0, .ref 0), (1, .int a1), (4, .int b4_2)] [.long o30, .long b2_1] (HT d_label d_tg d_places t_guesses t_nodes t_all t_np0 t_so t_laters t_waiting t_meanwhile t_goal t_atNext t_steps t_due t_met t_mbs t_reach t_ring t_core t_live)) hs (fun o30 hs => ?_) (fun hs => ?_)
                · refine g_blk 173 [(.land, 0, 0, 0, 0), (.lstore_n 2, 0, 0, 0, 0), (.goto 98, 0, 0, 0, 0)] [] [(2, .long (b2_1 &&& o30)), (0, .ref 0), (1, .int a1), (4, .int b4_2)] [] (HT d_label d_tg d_places t_guesses t_nodes t_all t_np0 t_so t_laters t_waiting t_meanwhile t_goal t_atNext t_steps t_due t_met t_mbs t_reach t_ring t_core t_live) (by decide +kernel) rfl g_nil ?_
                  refine g_loc (L2 := [(0, .ref 0), (1, .int a1), (2, .long (b2_1 &&& o30)), (4, .int b4_2)]) [1, 2, 0, 3] rfl ?_
                  have hq := g_sat_s hs
                  exact hq
                · refine g_br 62 (.ifCond .eq 13) ((F_T_has (t_waiting b4_2.toNatClampNeg) a1) = 0) [.long b2_1] (by decide +kernel) rfl (fun c28 => ?_) (fun c28 => ?_)
                  · have hs := g_sat_t hs c28
                    obtain ⟨h31, hs⟩ := g_sat_c hs
                    refine g_blk 73 [(.aload_n 0, 0, 0, 0, 0), (.getfield 28, 4, 9, 0, 0), (.iload 4, 0, 0, 0, 0), (.laload, 0, 0, 0, 0), (.ldc2_w 111, 0, 0, 0, (-1)), (.lxor, 0, 0, 0, 0)] [vp_in b4_2 3] [(5, .int (F_T_has (t_waiting b4_2.toNatClampNeg) a1)), (0, .ref 0), (1, .int a1), (2, .long b2_1), (4, .int b4_2)] [.long ((t_goal b4_2.toNatClampNeg) ^^^ (-1 : Int64)), .long b2_1] (HT d_label d_tg d_places t_guesses t_nodes t_all t_np0 t_so t_laters t_waiting t_meanwhile t_goal t_atNext t_steps t_due t_met t_mbs t_reach t_ring t_core t_live) (by decide +kernel) rfl (g_and (g_inb_in h31) g_nil) ?_
                    refine g_loc (L2 := [(0, .ref 0), (1, .int a1), (4, .int b4_2)]) [1, 2, 4] rfl ?_
                    have hq := g_sat_s hs
                    exact hq
                  · have hs := g_sat_f hs c28
                    obtain ⟨h32, hs⟩ := g_sat_c hs
                    refine g_blk 73 [(.aload_n 0, 0, 0, 0, 0), (.getfield 28, 4, 9, 0, 0), (.iload 4, 0, 0, 0, 0), (.laload, 0, 0, 0, 0), (.goto 14, 0, 0, 0, 0)] [vp_in b4_2 3] [(5, .int (F_T_has (t_waiting b4_2.toNatClampNeg) a1)), (0, .ref 0), (1, .int a1), (2, .long b2_1), (4, .int b4_2)] [.long (t_goal b4_2.toNatClampNeg), .long b2_1] (HT d_label d_tg d_places t_guesses t_nodes t_all t_np0 t_so t_laters t_waiting t_meanwhile t_goal t_atNext t_steps t_due t_met t_mbs t_reach t_ring t_core t_live) (by decide +kernel) rfl (g_and (g_inb_in h32) g_nil) ?_
                    refine g_loc (L2 := [(0, .ref 0), (1, .int a1), (4, .int b4_2)]) [1, 2, 4] rfl ?_
                    have hq := g_sat_s hs
                    exact hq
    exact hlT_allowedBehind_l1 N _ _ hs
abbrev rm_T_nodesAimedAt : Room := { frames := 1, cells := 0, slots := 0, locals := 21 }
def T_nodesAimedAt_l1 (d_tg : Nat → Nat → Int32) (a1 : Int32) (a2 : Int32) (d_places : Int32) (t_guesses : Int32) (t_np0 : Int64) : Nat → Int64 → Int32 → Option Int64
  | 0, _, _ => none
  | n + 1, b3_5, b6_6 => (if ((d_tg a1.toNatClampNeg) a2.toNatClampNeg) = 0 then (some b3_5) else (if d_places ≤ b6_6 then (some b3_5) else (T_nodesAimedAt_l1 d_tg a1 a2 d_places t_guesses t_np0 n (if ((g_ishr ((d_tg a1.toNatClampNeg) a2.toNatClampNeg) b6_6) &&& (1 : Int32)) = 0 then b3_5 else (b3_5 ||| (F_T_nodesOf d_places t_guesses t_np0 b6_6))) (b6_6 + (1 : Int32)))))
theorem T_nodesAimedAt_l1_s (d_tg : Nat → Nat → Int32) (a1 : Int32) (a2 : Int32) (d_places : Int32) (t_guesses : Int32) (t_np0 : Int64) (n : Nat) (b3_5 : Int64) (b6_6 : Int32) : T_nodesAimedAt_l1 d_tg a1 a2 d_places t_guesses t_np0 (n + 1) b3_5 b6_6 = (if ((d_tg a1.toNatClampNeg) a2.toNatClampNeg) = 0 then (some b3_5) else (if d_places ≤ b6_6 then (some b3_5) else (T_nodesAimedAt_l1 d_tg a1 a2 d_places t_guesses t_np0 n (if ((g_ishr ((d_tg a1.toNatClampNeg) a2.toNatClampNeg) b6_6) &&& (1 : Int32)) = 0 then b3_5 else (b3_5 ||| (F_T_nodesOf d_places t_guesses t_np0 b6_6))) (b6_6 + (1 : Int32))))) := rfl
def F_T_nodesAimedAt (N : Nat) (d_tg : Nat → Nat → Int32) (d_places : Int32) (t_guesses : Int32) (t_np0 : Int64) (a1 : Int32) (a2 : Int32) : Option Int64 := (if a2 < 0 then (some (0 : Int64)) else (if a2 < (8 : Int32) then (g_chk (g_inb a1 3) (g_chk (g_inb a2 8) ((T_nodesAimedAt_l1 d_tg a1 a2 d_places t_guesses t_np0 N (0 : Int64) (0 : Int32)).bind fun o7 => (some o7)))) else (some (0 : Int64))))
set_option maxRecDepth 100000 in
theorem ct_T_nodesAimedAt (N : Nat) (d_label : Nat → Int32) (d_tg : Nat → Nat → Int32) (d_places : Int32) (t_guesses : Int32) (t_nodes : Int32) (t_all : Int64) (t_np0 : Int64) (t_so : Nat → Int64) (t_laters : Int32) (t_waiting : Nat → Int64) (t_meanwhile : Nat → Int64) (t_goal : Nat → Int64) (t_atNext : Nat → Int32) (t_steps : Nat → Nat → Int64) (t_due : Int32) (t_met : Nat → Int32) (t_mbs : Nat → Int32) (t_reach : Nat → Int64) (t_ring : Nat → Int64) (t_core : Int64) (t_live : Int64) (a1 : Int32) (a2 : Int32) : g_F y_T_nodesAimedAt c_T_nodesAimedAt 7 (some .long) rm_T_nodesAimedAt [.ref 0, .int a1, .int a2] (HT d_label d_tg d_places t_guesses t_nodes t_all t_np0 t_so t_laters t_waiting t_meanwhile t_goal t_atNext t_steps t_due t_met t_mbs t_reach t_ring t_core t_live) (F_T_nodesAimedAt N d_tg d_places t_guesses t_np0 a1 a2) (fun o => some (.long o)) (fun _ => (HT d_label d_tg d_places t_guesses t_nodes t_all t_np0 t_so t_laters t_waiting t_meanwhile t_goal t_atNext t_steps t_due t_met t_mbs t_reach t_ring t_core t_live)) := by
  intro l P hs
  refine g_ofG 4 (by decide +kernel) rfl (Nat.le_of_ble_eq_true rfl) (fun X hX => ?_)
  unfold F_T_nodesAimedAt at hs
  refine g_loc (L2 := [(0, .ref 0), (1, .int a1), (2, .int a2)]) [0, 1, 2] rfl ?_
  refine g_blk 3 [(.lconst 0, 0, 0, 0, 0), (.lstore_n 3, 0, 0, 0, 0), (.iload_n 2, 0, 0, 0, 0)] [] [(3, .long (0 : Int64)), (0, .ref 0), (1, .int a1), (2, .int a2)] [.int a2] (HT d_label d_tg d_places t_guesses t_nodes t_all t_np0 t_so t_laters t_waiting t_meanwhile t_goal t_atNext t_steps t_due t_met t_mbs t_reach t_ring t_core t_live) (by decide +kernel) rfl g_nil ?_
  refine g_br 12 (.ifCond .lt 9) (a2 < 0) [] (by decide +kernel) rfl (fun c1 => ?_) (fun c1 => ?_)
  · have hs := g_sat_t hs c1
    refine g_blk 13 [(.lload_n 3, 0, 0, 0, 0)] [] [(3, .long (0 : Int64)), (0, .ref 0), (1, .int a1), (2, .int a2)] [.long (0 : Int64)] (HT d_label d_tg d_places t_guesses t_nodes t_all t_np0 t_so t_laters t_waiting t_meanwhile t_goal t_atNext t_steps t_due t_met t_mbs t_reach t_ring t_core t_live) (by decide +kernel) rfl g_nil ?_
    have hq := g_sat_s hs
    exact g_lret hX (by decide +kernel) rfl hq
  · have hs := g_sat_f hs c1
    refine g_blk 9 [(.iload_n 2, 0, 0, 0, 0), (.bipush 8, 0, 0, 8, 0)] [] [(3, .long (0 : Int64)), (0, .ref 0), (1, .int a1), (2, .int a2)] [.int (8 : Int32), .int a2] (HT d_label d_tg d_places t_guesses t_nodes t_all t_np0 t_so t_laters t_waiting t_meanwhile t_goal t_atNext t_steps t_due t_met t_mbs t_reach t_ring t_core t_live) (by decide +kernel) rfl g_nil ?_
    refine g_br 14 (.if_icmp .lt 5) (a2 < (8 : Int32)) [] (by decide +kernel) rfl (fun c2 => ?_) (fun c2 => ?_)
    · have hs := g_sat_t hs c2
      refine g_blk 22 [(.aload_n 0, 0, 0, 0, 0), (.getfield 12, 4, 0, 0, 0), (.getfield 143, 1, 2, 0, 0), (.iload_n 1, 0, 0, 0, 0)] [] [(3, .long (0 : Int64)), (0, .ref 0), (1, .int a1), (2, .int a2)] [.int a1, .ref 3] (HT d_label d_tg d_places t_guesses t_nodes t_all t_np0 t_so t_laters t_waiting t_meanwhile t_goal t_atNext t_steps t_due t_met t_mbs t_reach t_ring t_core t_live) (by decide +kernel) rfl g_nil ?_
      obtain ⟨h3, hs⟩ := g_sat_c hs
      refine g_blk 23 [(.aaload, 0, 0, 0, 0)] [vp_in a1 3] [(3, .long (0 : Int64)), (0, .ref 0), (1, .int a1), (2, .int a2)] [.ref (4 + a1.toNatClampNeg)] (HT d_label d_tg d_places t_guesses t_nodes t_all t_np0 t_so t_laters t_waiting t_meanwhile t_goal t_atNext t_steps t_due t_met t_mbs t_reach t_ring t_core t_live) (by decide +kernel) (by rcases (g_e3 h3) with z1 | z1 | z1 <;> (rw [z1]; rfl)) (g_and (g_inb_in h3) g_nil) ?_
      obtain ⟨h4, hs⟩ := g_sat_c hs
      refine g_blk 30 [(.iload_n 2, 0, 0, 0, 0), (.iaload, 0, 0, 0, 0), (.istore 5, 0, 0, 0, 0), (.iconst 0, 0, 0, 0, 0), (.istore 6, 0, 0, 0, 0)] [vp_in a2 8] [(6, .int (0 : Int32)), (5, .int ((d_tg a1.toNatClampNeg) a2.toNatClampNeg)), (3, .long (0 : Int64)), (0, .ref 0), (1, .int a1), (2, .int a2)] [] (HT d_label d_tg d_places t_guesses t_nodes t_all t_np0 t_so t_laters t_waiting t_meanwhile t_goal t_atNext t_steps t_due t_met t_mbs t_reach t_ring t_core t_live) (by decide +kernel) (by rcases (g_c3 h3) with z1 | z1 | z1 <;> (rw [z1]; rfl)) (g_and (g_inb_in h4) g_nil) ?_
      refine g_loc (L2 := [(0, .ref 0), (3, .long (0 : Int64)), (5, .int ((d_tg a1.toNatClampNeg) a2.toNatClampNeg)), (6, .int (0 : Int32))]) [3, 2, 1, 0] rfl ?_
      refine g_join (fun (o7 : Int64) => g_G X rm_T_nodesAimedAt c_T_nodesAimedAt 7 4 (some .long) 72 [(3, .long o7)] [] (HT d_label d_tg d_places t_guesses t_nodes t_all t_np0 t_so t_laters t_waiting t_meanwhile t_goal t_atNext t_steps t_due t_met t_mbs t_reach t_ring t_core t_live)) hs (fun o7 hs => ?_) (fun hs => ?_)
      · refine g_blk 73 [(.lload_n 3, 0, 0, 0, 0)] [] [(3, .long o7)] [.long o7] (HT d_label d_tg d_places t_guesses t_nodes t_all t_np0 t_so t_laters t_waiting t_meanwhile t_goal t_atNext t_steps t_due t_met t_mbs t_reach t_ring t_core t_live) (by decide +kernel) rfl g_nil ?_
        have hq := g_sat_s hs
        exact g_lret hX (by decide +kernel) rfl hq
      · have hlT_nodesAimedAt_l1 : ∀ (n : Nat) (b3_5 : Int64) (b6_6 : Int32), g_sat (T_nodesAimedAt_l1 d_tg a1 a2 d_places t_guesses t_np0 n b3_5 b6_6) (fun (o7 : Int64) => g_G X rm_T_nodesAimedAt c_T_nodesAimedAt 7 4 (some .long) 72 [(3, .long o7)] [] (HT d_label d_tg d_places t_guesses t_nodes t_all t_np0 t_so t_laters t_waiting t_meanwhile t_goal t_atNext t_steps t_due t_met t_mbs t_reach t_ring t_core t_live)) → g_G X rm_T_nodesAimedAt c_T_nodesAimedAt 7 4 (some .long) 30 [(0, .ref 0), (3, .long b3_5), (5, .int ((d_tg a1.toNatClampNeg) a2.toNatClampNeg)), (6, .int b6_6)] [] (HT d_label d_tg d_places t_guesses t_nodes t_all t_np0 t_so t_laters t_waiting t_meanwhile t_goal t_atNext t_steps t_due t_met t_mbs t_reach t_ring t_core t_live) := by
          intro n
          induction n with
          | zero =>
            intro b3_5 b6_6 hs
            obtain ⟨_, h0, _⟩ := hs
            cases h0
          | succ n ih =>
            intro b3_5 b6_6 hs
            rw [T_nodesAimedAt_l1_s] at hs
            refine g_blk 32 [(.iload 5, 0, 0, 0, 0)] [] [(0, .ref 0), (3, .long b3_5), (5, .int ((d_tg a1.toNatClampNeg) a2.toNatClampNeg)), (6, .int b6_6)] [.int ((d_tg a1.toNatClampNeg) a2.toNatClampNeg)] (HT d_label d_tg d_places t_guesses t_nodes t_all t_np0 t_so t_laters t_waiting t_meanwhile t_goal t_atNext t_steps t_due t_met t_mbs t_reach t_ring t_core t_live) (by decide +kernel) rfl g_nil ?_
            refine g_br 72 (.ifCond .eq 40) (((d_tg a1.toNatClampNeg) a2.toNatClampNeg) = 0) [] (by decide +kernel) rfl (fun c8 => ?_) (fun c8 => ?_)
            · have hs := g_sat_t hs c8
              refine g_loc (L2 := [(3, .long b3_5)]) [1] rfl ?_
              have hq := g_sat_s hs
              exact hq
            · have hs := g_sat_f hs c8
              refine g_blk 44 [(.iload 6, 0, 0, 0, 0), (.aload_n 0, 0, 0, 0, 0), (.getfield 12, 4, 0, 0, 0), (.getfield 66, 1, 0, 0, 0)] [] [(0, .ref 0), (3, .long b3_5), (5, .int ((d_tg a1.toNatClampNeg) a2.toNatClampNeg)), (6, .int b6_6)] [.int d_places, .int b6_6] (HT d_label d_tg d_places t_guesses t_nodes t_all t_np0 t_so t_laters t_waiting t_meanwhile t_goal t_atNext t_steps t_due t_met t_mbs t_reach t_ring t_core t_live) (by decide +kernel) rfl g_nil ?_
              refine g_br 72 (.if_icmp .ge 28) (d_places ≤ b6_6) [] (by decide +kernel) rfl (fun c9 => ?_) (fun c9 => ?_)
              · have hs := g_sat_t hs c9
                refine g_loc (L2 := [(3, .long b3_5)]) [1] rfl ?_
                have hq := g_sat_s hs
                exact hq
              · have hs := g_sat_f hs c9
                refine g_blk 54 [(.iload 5, 0, 0, 0, 0), (.iload 6, 0, 0, 0, 0), (.ishr, 0, 0, 0, 0), (.iconst 1, 0, 0, 1, 0), (.iand, 0, 0, 0, 0)] [] [(0, .ref 0), (3, .long b3_5), (5, .int ((d_tg a1.toNatClampNeg) a2.toNatClampNeg)), (6, .int b6_6)] [.int ((g_ishr ((d_tg a1.toNatClampNeg) a2.toNatClampNeg) b6_6) &&& (1 : Int32))] (HT d_label d_tg d_places t_guesses t_nodes t_all t_np0 t_so t_laters t_waiting t_meanwhile t_goal t_atNext t_steps t_due t_met t_mbs t_reach t_ring t_core t_live) (by decide +kernel) rfl g_nil ?_
                have hJ11 : ∀ (v11 : Int64) (ev11 : v11 = (if ((g_ishr ((d_tg a1.toNatClampNeg) a2.toNatClampNeg) b6_6) &&& (1 : Int32)) = 0 then b3_5 else (b3_5 ||| (F_T_nodesOf d_places t_guesses t_np0 b6_6)))), g_G X rm_T_nodesAimedAt c_T_nodesAimedAt 7 4 (some .long) 66 [(0, .ref 0), (3, .long v11), (5, .int ((d_tg a1.toNatClampNeg) a2.toNatClampNeg)), (6, .int b6_6)] [] (HT d_label d_tg d_places t_guesses t_nodes t_all t_np0 t_so t_laters t_waiting t_meanwhile t_goal t_atNext t_steps t_due t_met t_mbs t_reach t_ring t_core t_live) := by
                  intro v11 ev11
                  subst ev11
                  refine g_blk 30 [(.iinc 6 1, 0, 0, 1, 0), (.goto (-39), 0, 0, 0, 0)] [] [(6, .int (b6_6 + (1 : Int32))), (0, .ref 0), (3, .long (if ((g_ishr ((d_tg a1.toNatClampNeg) a2.toNatClampNeg) b6_6) &&& (1 : Int32)) = 0 then b3_5 else (b3_5 ||| (F_T_nodesOf d_places t_guesses t_np0 b6_6)))), (5, .int ((d_tg a1.toNatClampNeg) a2.toNatClampNeg))] [] (HT d_label d_tg d_places t_guesses t_nodes t_all t_np0 t_so t_laters t_waiting t_meanwhile t_goal t_atNext t_steps t_due t_met t_mbs t_reach t_ring t_core t_live) (by decide +kernel) rfl g_nil ?_
                  refine g_loc (L2 := [(0, .ref 0), (3, .long (if ((g_ishr ((d_tg a1.toNatClampNeg) a2.toNatClampNeg) b6_6) &&& (1 : Int32)) = 0 then b3_5 else (b3_5 ||| (F_T_nodesOf d_places t_guesses t_np0 b6_6)))), (5, .int ((d_tg a1.toNatClampNeg) a2.toNatClampNeg)), (6, .int (b6_6 + (1 : Int32)))]) [1, 2, 3, 0] rfl ?_
                  exact ih _ _ hs
                refine g_br 66 (.ifCond .eq 12) (((g_ishr ((d_tg a1.toNatClampNeg) a2.toNatClampNeg) b6_6) &&& (1 : Int32)) = 0) [] (by decide +kernel) rfl (fun c13 => ?_) (fun c13 => ?_)
                · exact hJ11 _ (by rw [if_pos c13])
                · refine g_blk 61 [(.lload_n 3, 0, 0, 0, 0), (.aload_n 0, 0, 0, 0, 0), (.iload 6, 0, 0, 0, 0)] [] [(0, .ref 0), (3, .long b3_5), (5, .int ((d_tg a1.toNatClampNeg) a2.toNatClampNeg)), (6, .int b6_6)] [.int b6_6, .ref 0, .long b3_5] (HT d_label d_tg d_places t_guesses t_nodes t_all t_np0 t_so t_laters t_waiting t_meanwhile t_goal t_atNext t_steps t_due t_met t_mbs t_reach t_ring t_core t_live) (by decide +kernel) rfl g_nil ?_
                  refine g_pM (ct_T_nodesOf d_label d_tg d_places t_guesses t_nodes t_all t_np0 t_so t_laters t_waiting t_meanwhile t_goal t_atNext t_steps t_due t_met t_mbs t_reach t_ring t_core t_live b6_6) 133 true 1 lk_4_133 (by decide +kernel) rfl ⟨rfl, rfl, by decide, by decide⟩ [.long b3_5] rfl (Nat.le_of_ble_eq_true rfl) (fun _ => ⟨0, 4, _, rfl, rfl, by decide, rfl⟩) ?_
                  refine g_blk 66 [(.lor, 0, 0, 0, 0), (.lstore_n 3, 0, 0, 0, 0)] [] [(3, .long (b3_5 ||| (F_T_nodesOf d_places t_guesses t_np0 b6_6))), (0, .ref 0), (5, .int ((d_tg a1.toNatClampNeg) a2.toNatClampNeg)), (6, .int b6_6)] [] (HT d_label d_tg d_places t_guesses t_nodes t_all t_np0 t_so t_laters t_waiting t_meanwhile t_goal t_atNext t_steps t_due t_met t_mbs t_reach t_ring t_core t_live) (by decide +kernel) rfl g_nil ?_
                  refine g_loc (L2 := [(0, .ref 0), (3, .long (b3_5 ||| (F_T_nodesOf d_places t_guesses t_np0 b6_6))), (5, .int ((d_tg a1.toNatClampNeg) a2.toNatClampNeg)), (6, .int b6_6)]) [1, 0, 2, 3] rfl ?_
                  exact hJ11 _ (by rw [if_neg c13])
        exact hlT_nodesAimedAt_l1 N _ _ hs
    · have hs := g_sat_f hs c2
      refine g_blk 13 [(.lload_n 3, 0, 0, 0, 0)] [] [(3, .long (0 : Int64)), (0, .ref 0), (1, .int a1), (2, .int a2)] [.long (0 : Int64)] (HT d_label d_tg d_places t_guesses t_nodes t_all t_np0 t_so t_laters t_waiting t_meanwhile t_goal t_atNext t_steps t_due t_met t_mbs t_reach t_ring t_core t_live) (by decide +kernel) rfl g_nil ?_
      have hq := g_sat_s hs
      exact g_lret hX (by decide +kernel) rfl hq
abbrev rm_T_makeSteps : Room := { frames := 2, cells := 0, slots := 0, locals := 47 }
def T_makeSteps_l2 (N : Nat) (o6 : Int64) (d_tg : Nat → Nat → Int32) (d_places : Int32) (t_guesses : Int32) (t_np0 : Int64) (b1_1 : Int32) : Nat → Int32 → (Nat → Nat → Int64) → Option (Nat → Nat → Int64)
  | 0, _, _ => none
  | n + 1, b4_7, w_steps_8 => (if (3 : Int32) ≤ b4_7 then (some w_steps_8) else (g_chk (g_inb b4_7 3) ((if (lg_cmp o6 (0 : Int64)) = 0 then (some (0 : Int64)) else ((F_T_nodesAimedAt N d_tg d_places t_guesses t_np0 b4_7 (g_ishr b1_1 t_guesses)).bind fun o14 => (some (o6 &&& o14)))).bind fun o13 => (g_chk (g_inb b1_1 64) (T_makeSteps_l2 N o6 d_tg d_places t_guesses t_np0 b1_1 n (b4_7 + (1 : Int32)) (va_up w_steps_8 b4_7.toNatClampNeg (vp_updL (w_steps_8 b4_7.toNatClampNeg) b1_1.toNatClampNeg o13)))))))
theorem T_makeSteps_l2_s (N : Nat) (o6 : Int64) (d_tg : Nat → Nat → Int32) (d_places : Int32) (t_guesses : Int32) (t_np0 : Int64) (b1_1 : Int32) (n : Nat) (b4_7 : Int32) (w_steps_8 : Nat → Nat → Int64) : T_makeSteps_l2 N o6 d_tg d_places t_guesses t_np0 b1_1 (n + 1) b4_7 w_steps_8 = (if (3 : Int32) ≤ b4_7 then (some w_steps_8) else (g_chk (g_inb b4_7 3) ((if (lg_cmp o6 (0 : Int64)) = 0 then (some (0 : Int64)) else ((F_T_nodesAimedAt N d_tg d_places t_guesses t_np0 b4_7 (g_ishr b1_1 t_guesses)).bind fun o14 => (some (o6 &&& o14)))).bind fun o13 => (g_chk (g_inb b1_1 64) (T_makeSteps_l2 N o6 d_tg d_places t_guesses t_np0 b1_1 n (b4_7 + (1 : Int32)) (va_up w_steps_8 b4_7.toNatClampNeg (vp_updL (w_steps_8 b4_7.toNatClampNeg) b1_1.toNatClampNeg o13))))))) := rfl
def T_makeSteps_l1 (N : Nat) (t_nodes : Int32) (t_all : Int64) (t_laters : Int32) (t_waiting : Nat → Int64) (t_meanwhile : Nat → Int64) (t_goal : Nat → Int64) (t_atNext : Nat → Int32) (d_tg : Nat → Nat → Int32) (d_places : Int32) (t_guesses : Int32) (t_np0 : Int64) : Nat → Int32 → (Nat → Nat → Int64) → Option (Nat → Nat → Int64)
  | 0, _, _ => none
  | n + 1, b1_1, w_steps_2 => (if t_nodes ≤ b1_1 then (some w_steps_2) else (if (64 : Int32) ≤ b1_1 then (some w_steps_2) else ((F_T_allowedBehind N t_all t_laters t_waiting t_meanwhile t_goal t_atNext b1_1).bind fun o6 => ((T_makeSteps_l2 N o6 d_tg d_places t_guesses t_np0 b1_1 N (0 : Int32) w_steps_2).bind fun o9 => (T_makeSteps_l1 N t_nodes t_all t_laters t_waiting t_meanwhile t_goal t_atNext d_tg d_places t_guesses t_np0 n (b1_1 + (1 : Int32)) o9)))))
theorem T_makeSteps_l1_s (N : Nat) (t_nodes : Int32) (t_all : Int64) (t_laters : Int32) (t_waiting : Nat → Int64) (t_meanwhile : Nat → Int64) (t_goal : Nat → Int64) (t_atNext : Nat → Int32) (d_tg : Nat → Nat → Int32) (d_places : Int32) (t_guesses : Int32) (t_np0 : Int64) (n : Nat) (b1_1 : Int32) (w_steps_2 : Nat → Nat → Int64) : T_makeSteps_l1 N t_nodes t_all t_laters t_waiting t_meanwhile t_goal t_atNext d_tg d_places t_guesses t_np0 (n + 1) b1_1 w_steps_2 = (if t_nodes ≤ b1_1 then (some w_steps_2) else (if (64 : Int32) ≤ b1_1 then (some w_steps_2) else ((F_T_allowedBehind N t_all t_laters t_waiting t_meanwhile t_goal t_atNext b1_1).bind fun o6 => ((T_makeSteps_l2 N o6 d_tg d_places t_guesses t_np0 b1_1 N (0 : Int32) w_steps_2).bind fun o9 => (T_makeSteps_l1 N t_nodes t_all t_laters t_waiting t_meanwhile t_goal t_atNext d_tg d_places t_guesses t_np0 n (b1_1 + (1 : Int32)) o9))))) := rfl
def F_T_makeSteps (N : Nat) (d_tg : Nat → Nat → Int32) (d_places : Int32) (t_guesses : Int32) (t_nodes : Int32) (t_all : Int64) (t_np0 : Int64) (t_laters : Int32) (t_waiting : Nat → Int64) (t_meanwhile : Nat → Int64) (t_goal : Nat → Int64) (t_atNext : Nat → Int32) (t_steps : Nat → Nat → Int64) : Option (Nat → Nat → Int64) := ((T_makeSteps_l1 N t_nodes t_all t_laters t_waiting t_meanwhile t_goal t_atNext d_tg d_places t_guesses t_np0 N (0 : Int32) t_steps).bind fun o3 => (some o3))
set_option maxRecDepth 100000 in
theorem ct_T_makeSteps (N : Nat) (d_label : Nat → Int32) (d_tg : Nat → Nat → Int32) (d_places : Int32) (t_guesses : Int32) (t_nodes : Int32) (t_all : Int64) (t_np0 : Int64) (t_so : Nat → Int64) (t_laters : Int32) (t_waiting : Nat → Int64) (t_meanwhile : Nat → Int64) (t_goal : Nat → Int64) (t_atNext : Nat → Int32) (t_steps : Nat → Nat → Int64) (t_due : Int32) (t_met : Nat → Int32) (t_mbs : Nat → Int32) (t_reach : Nat → Int64) (t_ring : Nat → Int64) (t_core : Int64) (t_live : Int64) : g_F y_T_makeSteps c_T_makeSteps 5 none rm_T_makeSteps [.ref 0] (HT d_label d_tg d_places t_guesses t_nodes t_all t_np0 t_so t_laters t_waiting t_meanwhile t_goal t_atNext t_steps t_due t_met t_mbs t_reach t_ring t_core t_live) (F_T_makeSteps N d_tg d_places t_guesses t_nodes t_all t_np0 t_laters t_waiting t_meanwhile t_goal t_atNext t_steps) (fun o => none) (fun o => (HT d_label d_tg d_places t_guesses t_nodes t_all t_np0 t_so t_laters t_waiting t_meanwhile t_goal t_atNext o t_due t_met t_mbs t_reach t_ring t_core t_live)) := by
  intro l P hs
  refine g_ofG 4 (by decide +kernel) rfl (Nat.le_of_ble_eq_true rfl) (fun X hX => ?_)
  unfold F_T_makeSteps at hs
  refine g_loc (L2 := [(0, .ref 0)]) [0] rfl ?_
  refine g_blk 2 [(.iconst 0, 0, 0, 0, 0), (.istore_n 1, 0, 0, 0, 0)] [] [(1, .int (0 : Int32)), (0, .ref 0)] [] (HT d_label d_tg d_places t_guesses t_nodes t_all t_np0 t_so t_laters t_waiting t_meanwhile t_goal t_atNext t_steps t_due t_met t_mbs t_reach t_ring t_core t_live) (by decide +kernel) rfl g_nil ?_
  refine g_loc (L2 := [(0, .ref 0), (1, .int (0 : Int32))]) [1, 0] rfl ?_
  refine g_join (fun (o3 : Nat → Nat → Int64) => g_G X rm_T_makeSteps c_T_makeSteps 5 4 none 76 [] [] (HT d_label d_tg d_places t_guesses t_nodes t_all t_np0 t_so t_laters t_waiting t_meanwhile t_goal t_atNext o3 t_due t_met t_mbs t_reach t_ring t_core t_live)) hs (fun o3 hs => ?_) (fun hs => ?_)
  · have hq := g_sat_s hs
    exact g_vret hX (by decide +kernel) rfl hq
  · have hlT_makeSteps_l1 : ∀ (n : Nat) (b1_1 : Int32) (w_steps_2 : Nat → Nat → Int64), g_sat (T_makeSteps_l1 N t_nodes t_all t_laters t_waiting t_meanwhile t_goal t_atNext d_tg d_places t_guesses t_np0 n b1_1 w_steps_2) (fun (o3 : Nat → Nat → Int64) => g_G X rm_T_makeSteps c_T_makeSteps 5 4 none 76 [] [] (HT d_label d_tg d_places t_guesses t_nodes t_all t_np0 t_so t_laters t_waiting t_meanwhile t_goal t_atNext o3 t_due t_met t_mbs t_reach t_ring t_core t_live)) → g_G X rm_T_makeSteps c_T_makeSteps 5 4 none 2 [(0, .ref 0), (1, .int b1_1)] [] (HT d_label d_tg d_places t_guesses t_nodes t_all t_np0 t_so t_laters t_waiting t_meanwhile t_goal t_atNext w_steps_2 t_due t_met t_mbs t_reach t_ring t_core t_live) := by
      intro n
      induction n with
      | zero =>
        intro b1_1 w_steps_2 hs
        obtain ⟨_, h0, _⟩ := hs
        cases h0
      | succ n ih =>
        intro b1_1 w_steps_2 hs
        rw [T_makeSteps_l1_s] at hs
        refine g_blk 7 [(.iload_n 1, 0, 0, 0, 0), (.aload_n 0, 0, 0, 0, 0), (.getfield 69, 4, 2, 0, 0)] [] [(0, .ref 0), (1, .int b1_1)] [.int t_nodes, .int b1_1] (HT d_label d_tg d_places t_guesses t_nodes t_all t_np0 t_so t_laters t_waiting t_meanwhile t_goal t_atNext w_steps_2 t_due t_met t_mbs t_reach t_ring t_core t_live) (by decide +kernel) rfl g_nil ?_
        refine g_br 76 (.if_icmp .ge 69) (t_nodes ≤ b1_1) [] (by decide +kernel) rfl (fun c4 => ?_) (fun c4 => ?_)
        · have hs := g_sat_t hs c4
          refine g_loc (L2 := []) [] rfl ?_
          have hq := g_sat_s hs
          exact hq
        · have hs := g_sat_f hs c4
          refine g_blk 13 [(.iload_n 1, 0, 0, 0, 0), (.bipush 64, 0, 0, 64, 0)] [] [(0, .ref 0), (1, .int b1_1)] [.int (64 : Int32), .int b1_1] (HT d_label d_tg d_places t_guesses t_nodes t_all t_np0 t_so t_laters t_waiting t_meanwhile t_goal t_atNext w_steps_2 t_due t_met t_mbs t_reach t_ring t_core t_live) (by decide +kernel) rfl g_nil ?_
          refine g_br 76 (.if_icmp .ge 63) ((64 : Int32) ≤ b1_1) [] (by decide +kernel) rfl (fun c5 => ?_) (fun c5 => ?_)
          · have hs := g_sat_t hs c5
            refine g_loc (L2 := []) [] rfl ?_
            have hq := g_sat_s hs
            exact hq
          · have hs := g_sat_f hs c5
            refine g_blk 18 [(.aload_n 0, 0, 0, 0, 0), (.iload_n 1, 0, 0, 0, 0)] [] [(0, .ref 0), (1, .int b1_1)] [.int b1_1, .ref 0] (HT d_label d_tg d_places t_guesses t_nodes t_all t_np0 t_so t_laters t_waiting t_meanwhile t_goal t_atNext w_steps_2 t_due t_met t_mbs t_reach t_ring t_core t_live) (by decide +kernel) rfl g_nil ?_
            refine g_fM (ct_T_allowedBehind N d_label d_tg d_places t_guesses t_nodes t_all t_np0 t_so t_laters t_waiting t_meanwhile t_goal t_atNext w_steps_2 t_due t_met t_mbs t_reach t_ring t_core t_live b1_1) 136 true 1 lk_4_136 (by decide +kernel) rfl ⟨rfl, rfl, by decide, by decide⟩ [] rfl (Nat.le_of_ble_eq_true rfl) (fun _ => ⟨0, 4, _, rfl, rfl, by decide, rfl⟩) hs (fun o6 hs => ?_)
            refine g_blk 25 [(.lstore_n 2, 0, 0, 0, 0), (.iconst 0, 0, 0, 0, 0), (.istore 4, 0, 0, 0, 0)] [] [(4, .int (0 : Int32)), (2, .long o6), (0, .ref 0), (1, .int b1_1)] [] (HT d_label d_tg d_places t_guesses t_nodes t_all t_np0 t_so t_laters t_waiting t_meanwhile t_goal t_atNext w_steps_2 t_due t_met t_mbs t_reach t_ring t_core t_live) (by decide +kernel) rfl g_nil ?_
            refine g_loc (L2 := [(0, .ref 0), (1, .int b1_1), (2, .long o6), (4, .int (0 : Int32))]) [2, 3, 1, 0] rfl ?_
            refine g_join (fun (o9 : Nat → Nat → Int64) => g_G X rm_T_makeSteps c_T_makeSteps 5 4 none 70 [(0, .ref 0), (1, .int b1_1)] [] (HT d_label d_tg d_places t_guesses t_nodes t_all t_np0 t_so t_laters t_waiting t_meanwhile t_goal t_atNext o9 t_due t_met t_mbs t_reach t_ring t_core t_live)) hs (fun o9 hs => ?_) (fun hs => ?_)
            · refine g_blk 2 [(.iinc 1 1, 0, 0, 1, 0), (.goto (-71), 0, 0, 0, 0)] [] [(1, .int (b1_1 + (1 : Int32))), (0, .ref 0)] [] (HT d_label d_tg d_places t_guesses t_nodes t_all t_np0 t_so t_laters t_waiting t_meanwhile t_goal t_atNext o9 t_due t_met t_mbs t_reach t_ring t_core t_live) (by decide +kernel) rfl g_nil ?_
              refine g_loc (L2 := [(0, .ref 0), (1, .int (b1_1 + (1 : Int32)))]) [1, 0] rfl ?_
              exact ih _ _ hs
            · have hlT_makeSteps_l2 : ∀ (n : Nat) (b4_7 : Int32) (w_steps_8 : Nat → Nat → Int64), g_sat (T_makeSteps_l2 N o6 d_tg d_places t_guesses t_np0 b1_1 n b4_7 w_steps_8) (fun (o9 : Nat → Nat → Int64) => g_G X rm_T_makeSteps c_T_makeSteps 5 4 none 70 [(0, .ref 0), (1, .int b1_1)] [] (HT d_label d_tg d_places t_guesses t_nodes t_all t_np0 t_so t_laters t_waiting t_meanwhile t_goal t_atNext o9 t_due t_met t_mbs t_reach t_ring t_core t_live)) → g_G X rm_T_makeSteps c_T_makeSteps 5 4 none 25 [(0, .ref 0), (1, .int b1_1), (2, .long o6), (4, .int b4_7)] [] (HT d_label d_tg d_places t_guesses t_nodes t_all t_np0 t_so t_laters t_waiting t_meanwhile t_goal t_atNext w_steps_8 t_due t_met t_mbs t_reach t_ring t_core t_live) := by
                intro n
                induction n with
                | zero =>
                  intro b4_7 w_steps_8 hs
                  obtain ⟨_, h0, _⟩ := hs
                  cases h0
                | succ n ih =>
                  intro b4_7 w_steps_8 hs
                  rw [T_makeSteps_l2_s] at hs
                  refine g_blk 28 [(.iload 4, 0, 0, 0, 0), (.iconst 3, 0, 0, 3, 0)] [] [(0, .ref 0), (1, .int b1_1), (2, .long o6), (4, .int b4_7)] [.int (3 : Int32), .int b4_7] (HT d_label d_tg d_places t_guesses t_nodes t_all t_np0 t_so t_laters t_waiting t_meanwhile t_goal t_atNext w_steps_8 t_due t_met t_mbs t_reach t_ring t_core t_live) (by decide +kernel) rfl g_nil ?_
                  refine g_br 70 (.if_icmp .ge 42) ((3 : Int32) ≤ b4_7) [] (by decide +kernel) rfl (fun c10 => ?_) (fun c10 => ?_)
                  · have hs := g_sat_t hs c10
                    refine g_loc (L2 := [(0, .ref 0), (1, .int b1_1)]) [0, 1] rfl ?_
                    have hq := g_sat_s hs
                    exact hq
                  · have hs := g_sat_f hs c10
                    refine g_blk 37 [(.aload_n 0, 0, 0, 0, 0), (.getfield 37, 4, 11, 0, 0), (.iload 4, 0, 0, 0, 0)] [] [(0, .ref 0), (1, .int b1_1), (2, .long o6), (4, .int b4_7)] [.int b4_7, .ref 12] (HT d_label d_tg d_places t_guesses t_nodes t_all t_np0 t_so t_laters t_waiting t_meanwhile t_goal t_atNext w_steps_8 t_due t_met t_mbs t_reach t_ring t_core t_live) (by decide +kernel) rfl g_nil ?_
                    obtain ⟨h11, hs⟩ := g_sat_c hs
                    refine g_blk 38 [(.aaload, 0, 0, 0, 0)] [vp_in b4_7 3] [(0, .ref 0), (1, .int b1_1), (2, .long o6), (4, .int b4_7)] [.ref (13 + b4_7.toNatClampNeg)] (HT d_label d_tg d_places t_guesses t_nodes t_all t_np0 t_so t_laters t_waiting t_meanwhile t_goal t_atNext w_steps_8 t_due t_met t_mbs t_reach t_ring t_core t_live) (by decide +kernel) (by rcases (g_e3 h11) with z1 | z1 | z1 <;> (rw [z1]; rfl)) (g_and (g_inb_in h11) g_nil) ?_
                    refine g_blk 42 [(.iload_n 1, 0, 0, 0, 0), (.lload_n 2, 0, 0, 0, 0), (.lconst 0, 0, 0, 0, 0), (.lcmp, 0, 0, 0, 0)] [] [(0, .ref 0), (1, .int b1_1), (2, .long o6), (4, .int b4_7)] [.int (lg_cmp o6 (0 : Int64)), .int b1_1, .ref (13 + b4_7.toNatClampNeg)] (HT d_label d_tg d_places t_guesses t_nodes t_all t_np0 t_so t_laters t_waiting t_meanwhile t_goal t_atNext w_steps_8 t_due t_met t_mbs t_reach t_ring t_core t_live) (by decide +kernel) rfl g_nil ?_
                    refine g_join (fun (o13 : Int64) => g_G X rm_T_makeSteps c_T_makeSteps 5 4 none 63 [(0, .ref 0), (1, .int b1_1), (2, .long o6), (4, .int b4_7)] [.long o13, .int b1_1, .ref (13 + b4_7.toNatClampNeg)] (HT d_label d_tg d_places t_guesses t_nodes t_all t_np0 t_so t_laters t_waiting t_meanwhile t_goal t_atNext w_steps_8 t_due t_met t_mbs t_reach t_ring t_core t_live)) hs (fun o13 hs => ?_) (fun hs => ?_)
                    · obtain ⟨h15, hs⟩ := g_sat_c hs
                      refine g_blk 25 [(.lastore, 0, 0, 0, 0), (.iinc 4 1, 0, 0, 1, 0), (.goto (-42), 0, 0, 0, 0)] [vp_in b1_1 64] [(4, .int (b4_7 + (1 : Int32))), (0, .ref 0), (1, .int b1_1), (2, .long o6)] [] (HT d_label d_tg d_places t_guesses t_nodes t_all t_np0 t_so t_laters t_waiting t_meanwhile t_goal t_atNext (va_up w_steps_8 b4_7.toNatClampNeg (vp_updL (w_steps_8 b4_7.toNatClampNeg) b1_1.toNatClampNeg o13)) t_due t_met t_mbs t_reach t_ring t_core t_live) (by decide +kernel) (by rcases (g_c3 h11) with z1 | z1 | z1 <;> (rw [z1]; rfl)) (g_and (g_inb_in h15) g_nil) ?_
                      refine g_loc (L2 := [(0, .ref 0), (1, .int b1_1), (2, .long o6), (4, .int (b4_7 + (1 : Int32)))]) [1, 2, 3, 0] rfl ?_
                      exact ih _ _ hs
                    · refine g_brn 49 (.ifCond .ne 7) ((lg_cmp o6 (0 : Int64)) = 0) [.int b1_1, .ref (13 + b4_7.toNatClampNeg)] (by decide +kernel) rfl (fun c12 => ?_) (fun c12 => ?_)
                      · have hs := g_sat_f hs c12
                        refine g_blk 59 [(.lload_n 2, 0, 0, 0, 0), (.aload_n 0, 0, 0, 0, 0), (.iload 4, 0, 0, 0, 0), (.iload_n 1, 0, 0, 0, 0), (.aload_n 0, 0, 0, 0, 0), (.getfield 62, 4, 1, 0, 0), (.ishr, 0, 0, 0, 0)] [] [(0, .ref 0), (1, .int b1_1), (2, .long o6), (4, .int b4_7)] [.int (g_ishr b1_1 t_guesses), .int b4_7, .ref 0, .long o6, .int b1_1, .ref (13 + b4_7.toNatClampNeg)] (HT d_label d_tg d_places t_guesses t_nodes t_all t_np0 t_so t_laters t_waiting t_meanwhile t_goal t_atNext w_steps_8 t_due t_met t_mbs t_reach t_ring t_core t_live) (by decide +kernel) rfl g_nil ?_
                        refine g_fM (ct_T_nodesAimedAt N d_label d_tg d_places t_guesses t_nodes t_all t_np0 t_so t_laters t_waiting t_meanwhile t_goal t_atNext w_steps_8 t_due t_met t_mbs t_reach t_ring t_core t_live b4_7 (g_ishr b1_1 t_guesses)) 139 true 2 lk_4_139 (by decide +kernel) rfl ⟨rfl, rfl, by decide, by decide⟩ [.long o6, .int b1_1, .ref (13 + b4_7.toNatClampNeg)] rfl (Nat.le_of_ble_eq_true rfl) (fun _ => ⟨0, 4, _, rfl, rfl, by decide, rfl⟩) hs (fun o14 hs => ?_)
                        refine g_blk 63 [(.land, 0, 0, 0, 0)] [] [(0, .ref 0), (1, .int b1_1), (2, .long o6), (4, .int b4_7)] [.long (o6 &&& o14), .int b1_1, .ref (13 + b4_7.toNatClampNeg)] (HT d_label d_tg d_places t_guesses t_nodes t_all t_np0 t_so t_laters t_waiting t_meanwhile t_goal t_atNext w_steps_8 t_due t_met t_mbs t_reach t_ring t_core t_live) (by decide +kernel) rfl g_nil ?_
                        have hq := g_sat_s hs
                        exact hq
                      · have hs := g_sat_t hs c12
                        refine g_blk 63 [(.lconst 0, 0, 0, 0, 0), (.goto 17, 0, 0, 0, 0)] [] [(0, .ref 0), (1, .int b1_1), (2, .long o6), (4, .int b4_7)] [.long (0 : Int64), .int b1_1, .ref (13 + b4_7.toNatClampNeg)] (HT d_label d_tg d_places t_guesses t_nodes t_all t_np0 t_so t_laters t_waiting t_meanwhile t_goal t_atNext w_steps_8 t_due t_met t_mbs t_reach t_ring t_core t_live) (by decide +kernel) rfl g_nil ?_
                        have hq := g_sat_s hs
                        exact hq
              exact hlT_makeSteps_l2 N _ _ hs
    exact hlT_makeSteps_l1 N _ _ hs
abbrev rm_T_addDue : Room := { frames := 1, cells := 0, slots := 0, locals := 22 }
def T_addDue_l1 (t_nodes : Int32) (a1 : Int64) (t_due : Int32) : Nat → Int32 → (Nat → Int32) → Option (Nat → Int32)
  | 0, _, _ => none
  | n + 1, b4_1, w_met_2 => (if t_nodes ≤ b4_1 then (some w_met_2) else (if (64 : Int32) ≤ b4_1 then (some w_met_2) else ((if (F_T_has a1 b4_1) = 0 then (some w_met_2) else (g_chk (g_inb b4_1 64) (g_chk (g_inb b4_1 64) (some (upd w_met_2 b4_1.toNatClampNeg ((w_met_2 b4_1.toNatClampNeg) ||| (t_due + (1 : Int32)))))))).bind fun o9 => (T_addDue_l1 t_nodes a1 t_due n (b4_1 + (1 : Int32)) o9))))
theorem T_addDue_l1_s (t_nodes : Int32) (a1 : Int64) (t_due : Int32) (n : Nat) (b4_1 : Int32) (w_met_2 : Nat → Int32) : T_addDue_l1 t_nodes a1 t_due (n + 1) b4_1 w_met_2 = (if t_nodes ≤ b4_1 then (some w_met_2) else (if (64 : Int32) ≤ b4_1 then (some w_met_2) else ((if (F_T_has a1 b4_1) = 0 then (some w_met_2) else (g_chk (g_inb b4_1 64) (g_chk (g_inb b4_1 64) (some (upd w_met_2 b4_1.toNatClampNeg ((w_met_2 b4_1.toNatClampNeg) ||| (t_due + (1 : Int32)))))))).bind fun o9 => (T_addDue_l1 t_nodes a1 t_due n (b4_1 + (1 : Int32)) o9)))) := rfl
def F_T_addDue (N : Nat) (t_nodes : Int32) (t_due : Int32) (t_met : Nat → Int32) (a1 : Int64) : Option (Int32 × Int32 × (Nat → Int32)) := ((T_addDue_l1 t_nodes a1 t_due N (0 : Int32) t_met).bind fun o3 => (some ((t_due + (1 : Int32)), (t_due ||| (t_due + (1 : Int32))), o3)))
set_option maxRecDepth 100000 in
theorem ct_T_addDue (N : Nat) (d_label : Nat → Int32) (d_tg : Nat → Nat → Int32) (d_places : Int32) (t_guesses : Int32) (t_nodes : Int32) (t_all : Int64) (t_np0 : Int64) (t_so : Nat → Int64) (t_laters : Int32) (t_waiting : Nat → Int64) (t_meanwhile : Nat → Int64) (t_goal : Nat → Int64) (t_atNext : Nat → Int32) (t_steps : Nat → Nat → Int64) (t_due : Int32) (t_met : Nat → Int32) (t_mbs : Nat → Int32) (t_reach : Nat → Int64) (t_ring : Nat → Int64) (t_core : Int64) (t_live : Int64) (a1 : Int64) : g_F y_T_addDue c_T_addDue 5 (some .int) rm_T_addDue [.ref 0, .long a1] (HT d_label d_tg d_places t_guesses t_nodes t_all t_np0 t_so t_laters t_waiting t_meanwhile t_goal t_atNext t_steps t_due t_met t_mbs t_reach t_ring t_core t_live) (F_T_addDue N t_nodes t_due t_met a1) (fun o => some (.int o.1)) (fun o => (HT d_label d_tg d_places t_guesses t_nodes t_all t_np0 t_so t_laters t_waiting t_meanwhile t_goal t_atNext t_steps o.2.1 o.2.2 t_mbs t_reach t_ring t_core t_live)) := by
  intro l P hs
  refine g_ofG 4 (by decide +kernel) rfl (Nat.le_of_ble_eq_true rfl) (fun X hX => ?_)
  unfold F_T_addDue at hs
  refine g_loc (L2 := [(0, .ref 0), (1, .long a1)]) [0, 1] rfl ?_
  refine g_blk 10 [(.aload_n 0, 0, 0, 0, 0), (.getfield 151, 4, 12, 0, 0), (.iconst 1, 0, 0, 1, 0), (.iadd, 0, 0, 0, 0), (.istore_n 3, 0, 0, 0, 0), (.iconst 0, 0, 0, 0, 0), (.istore 4, 0, 0, 0, 0)] [] [(4, .int (0 : Int32)), (3, .int (t_due + (1 : Int32))), (0, .ref 0), (1, .long a1)] [] (HT d_label d_tg d_places t_guesses t_nodes t_all t_np0 t_so t_laters t_waiting t_meanwhile t_goal t_atNext t_steps t_due t_met t_mbs t_reach t_ring t_core t_live) (by decide +kernel) rfl g_nil ?_
  refine g_loc (L2 := [(0, .ref 0), (1, .long a1), (3, .int (t_due + (1 : Int32))), (4, .int (0 : Int32))]) [2, 3, 1, 0] rfl ?_
  refine g_join (fun (o3 : Nat → Int32) => g_G X rm_T_addDue c_T_addDue 5 4 (some .int) 52 [(0, .ref 0), (3, .int (t_due + (1 : Int32)))] [] (HT d_label d_tg d_places t_guesses t_nodes t_all t_np0 t_so t_laters t_waiting t_meanwhile t_goal t_atNext t_steps t_due o3 t_mbs t_reach t_ring t_core t_live)) hs (fun o3 hs => ?_) (fun hs => ?_)
  · refine g_blk 63 [(.aload_n 0, 0, 0, 0, 0), (.dup, 0, 0, 0, 0), (.getfield 151, 4, 12, 0, 0), (.iload_n 3, 0, 0, 0, 0), (.ior, 0, 0, 0, 0), (.putfield 151, 4, 12, 1, 0), (.iload_n 3, 0, 0, 0, 0)] [] [(0, .ref 0), (3, .int (t_due + (1 : Int32)))] [.int (t_due + (1 : Int32))] (HT d_label d_tg d_places t_guesses t_nodes t_all t_np0 t_so t_laters t_waiting t_meanwhile t_goal t_atNext t_steps (t_due ||| (t_due + (1 : Int32))) o3 t_mbs t_reach t_ring t_core t_live) (by decide +kernel) rfl g_nil ?_
    have hq := g_sat_s hs
    exact g_iret hX (by decide +kernel) rfl hq
  · have hlT_addDue_l1 : ∀ (n : Nat) (b4_1 : Int32) (w_met_2 : Nat → Int32), g_sat (T_addDue_l1 t_nodes a1 t_due n b4_1 w_met_2) (fun (o3 : Nat → Int32) => g_G X rm_T_addDue c_T_addDue 5 4 (some .int) 52 [(0, .ref 0), (3, .int (t_due + (1 : Int32)))] [] (HT d_label d_tg d_places t_guesses t_nodes t_all t_np0 t_so t_laters t_waiting t_meanwhile t_goal t_atNext t_steps t_due o3 t_mbs t_reach t_ring t_core t_live)) → g_G X rm_T_addDue c_T_addDue 5 4 (some .int) 10 [(0, .ref 0), (1, .long a1), (3, .int (t_due + (1 : Int32))), (4, .int b4_1)] [] (HT d_label d_tg d_places t_guesses t_nodes t_all t_np0 t_so t_laters t_waiting t_meanwhile t_goal t_atNext t_steps t_due w_met_2 t_mbs t_reach t_ring t_core t_live) := by
      intro n
      induction n with
      | zero =>
        intro b4_1 w_met_2 hs
        obtain ⟨_, h0, _⟩ := hs
        cases h0
      | succ n ih =>
        intro b4_1 w_met_2 hs
        rw [T_addDue_l1_s] at hs
        refine g_blk 16 [(.iload 4, 0, 0, 0, 0), (.aload_n 0, 0, 0, 0, 0), (.getfield 69, 4, 2, 0, 0)] [] [(0, .ref 0), (1, .long a1), (3, .int (t_due + (1 : Int32))), (4, .int b4_1)] [.int t_nodes, .int b4_1] (HT d_label d_tg d_places t_guesses t_nodes t_all t_np0 t_so t_laters t_waiting t_meanwhile t_goal t_atNext t_steps t_due w_met_2 t_mbs t_reach t_ring t_core t_live) (by decide +kernel) rfl g_nil ?_
        refine g_br 52 (.if_icmp .ge 36) (t_nodes ≤ b4_1) [] (by decide +kernel) rfl (fun c4 => ?_) (fun c4 => ?_)
        · have hs := g_sat_t hs c4
          refine g_loc (L2 := [(0, .ref 0), (3, .int (t_due + (1 : Int32)))]) [0, 2] rfl ?_
          have hq := g_sat_s hs
          exact hq
        · have hs := g_sat_f hs c4
          refine g_blk 23 [(.iload 4, 0, 0, 0, 0), (.bipush 64, 0, 0, 64, 0)] [] [(0, .ref 0), (1, .long a1), (3, .int (t_due + (1 : Int32))), (4, .int b4_1)] [.int (64 : Int32), .int b4_1] (HT d_label d_tg d_places t_guesses t_nodes t_all t_np0 t_so t_laters t_waiting t_meanwhile t_goal t_atNext t_steps t_due w_met_2 t_mbs t_reach t_ring t_core t_live) (by decide +kernel) rfl g_nil ?_
          refine g_br 52 (.if_icmp .ge 29) ((64 : Int32) ≤ b4_1) [] (by decide +kernel) rfl (fun c5 => ?_) (fun c5 => ?_)
          · have hs := g_sat_t hs c5
            refine g_loc (L2 := [(0, .ref 0), (3, .int (t_due + (1 : Int32)))]) [0, 2] rfl ?_
            have hq := g_sat_s hs
            exact hq
          · have hs := g_sat_f hs c5
            refine g_blk 29 [(.lload_n 1, 0, 0, 0, 0), (.iload 4, 0, 0, 0, 0)] [] [(0, .ref 0), (1, .long a1), (3, .int (t_due + (1 : Int32))), (4, .int b4_1)] [.int b4_1, .long a1] (HT d_label d_tg d_places t_guesses t_nodes t_all t_np0 t_so t_laters t_waiting t_meanwhile t_goal t_atNext t_steps t_due w_met_2 t_mbs t_reach t_ring t_core t_live) (by decide +kernel) rfl g_nil ?_
            refine g_pN (ct_T_has a1 b4_1) 147 2 lk_4_147 (by decide +kernel) rfl ⟨rfl, rfl, by decide, by decide⟩ [] rfl (Nat.le_of_ble_eq_true rfl) ?_
            refine g_join (fun (o9 : Nat → Int32) => g_G X rm_T_addDue c_T_addDue 5 4 (some .int) 46 [(0, .ref 0), (1, .long a1), (3, .int (t_due + (1 : Int32))), (4, .int b4_1)] [] (HT d_label d_tg d_places t_guesses t_nodes t_all t_np0 t_so t_laters t_waiting t_meanwhile t_goal t_atNext t_steps t_due o9 t_mbs t_reach t_ring t_core t_live)) hs (fun o9 hs => ?_) (fun hs => ?_)
            · refine g_blk 10 [(.iinc 4 1, 0, 0, 1, 0), (.goto (-39), 0, 0, 0, 0)] [] [(4, .int (b4_1 + (1 : Int32))), (0, .ref 0), (1, .long a1), (3, .int (t_due + (1 : Int32)))] [] (HT d_label d_tg d_places t_guesses t_nodes t_all t_np0 t_so t_laters t_waiting t_meanwhile t_goal t_atNext t_steps t_due o9 t_mbs t_reach t_ring t_core t_live) (by decide +kernel) rfl g_nil ?_
              refine g_loc (L2 := [(0, .ref 0), (1, .long a1), (3, .int (t_due + (1 : Int32))), (4, .int (b4_1 + (1 : Int32)))]) [1, 2, 3, 0] rfl ?_
              exact ih _ _ hs
            · refine g_br 46 (.ifCond .eq 14) ((F_T_has a1 b4_1) = 0) [] (by decide +kernel) rfl (fun c6 => ?_) (fun c6 => ?_)
              · have hs := g_sat_t hs c6
                have hq := g_sat_s hs
                exact hq
              · have hs := g_sat_f hs c6
                obtain ⟨h10, hs⟩ := g_sat_c hs
                obtain ⟨h11, hs⟩ := g_sat_c hs
                refine g_blk 46 [(.aload_n 0, 0, 0, 0, 0), (.getfield 40, 4, 13, 0, 0), (.iload 4, 0, 0, 0, 0), (.dup2, 0, 0, 0, 0), (.iaload, 0, 0, 0, 0), (.iload_n 3, 0, 0, 0, 0), (.ior, 0, 0, 0, 0), (.iastore, 0, 0, 0, 0)] [vp_in b4_1 64, vp_in b4_1 64] [(0, .ref 0), (1, .long a1), (3, .int (t_due + (1 : Int32))), (4, .int b4_1)] [] (HT d_label d_tg d_places t_guesses t_nodes t_all t_np0 t_so t_laters t_waiting t_meanwhile t_goal t_atNext t_steps t_due (upd w_met_2 b4_1.toNatClampNeg ((w_met_2 b4_1.toNatClampNeg) ||| (t_due + (1 : Int32)))) t_mbs t_reach t_ring t_core t_live) (by decide +kernel) rfl (g_and (g_inb_in h10) (g_and (g_inb_in h11) g_nil)) ?_
                have hq := g_sat_s hs
                exact hq
    exact hlT_addDue_l1 N _ _ hs
abbrev rm_T_nodesWithoutMoves : Room := { frames := 1, cells := 0, slots := 0, locals := 21 }
def T_nodesWithoutMoves_l1 (d_places : Int32) (a1 : Int32) (d_tg : Nat → Nat → Int32) (t_guesses : Int32) (t_np0 : Int64) : Nat → Int64 → Int32 → Option Int64
  | 0, _, _ => none
  | n + 1, b2_1, b4_2 => (if d_places ≤ b4_2 then (some b2_1) else (if (8 : Int32) ≤ b4_2 then (some b2_1) else (g_chk (g_inb a1 3) (g_chk (g_inb b4_2 8) (T_nodesWithoutMoves_l1 d_places a1 d_tg t_guesses t_np0 n (if ((d_tg a1.toNatClampNeg) b4_2.toNatClampNeg) = 0 then (b2_1 ||| (F_T_nodesOf d_places t_guesses t_np0 b4_2)) else b2_1) (b4_2 + (1 : Int32)))))))
theorem T_nodesWithoutMoves_l1_s (d_places : Int32) (a1 : Int32) (d_tg : Nat → Nat → Int32) (t_guesses : Int32) (t_np0 : Int64) (n : Nat) (b2_1 : Int64) (b4_2 : Int32) : T_nodesWithoutMoves_l1 d_places a1 d_tg t_guesses t_np0 (n + 1) b2_1 b4_2 = (if d_places ≤ b4_2 then (some b2_1) else (if (8 : Int32) ≤ b4_2 then (some b2_1) else (g_chk (g_inb a1 3) (g_chk (g_inb b4_2 8) (T_nodesWithoutMoves_l1 d_places a1 d_tg t_guesses t_np0 n (if ((d_tg a1.toNatClampNeg) b4_2.toNatClampNeg) = 0 then (b2_1 ||| (F_T_nodesOf d_places t_guesses t_np0 b4_2)) else b2_1) (b4_2 + (1 : Int32))))))) := rfl
def F_T_nodesWithoutMoves (N : Nat) (d_tg : Nat → Nat → Int32) (d_places : Int32) (t_guesses : Int32) (t_np0 : Int64) (a1 : Int32) : Option Int64 := ((T_nodesWithoutMoves_l1 d_places a1 d_tg t_guesses t_np0 N (0 : Int64) (0 : Int32)).bind fun o3 => (some o3))
set_option maxRecDepth 100000 in
theorem ct_T_nodesWithoutMoves (N : Nat) (d_label : Nat → Int32) (d_tg : Nat → Nat → Int32) (d_places : Int32) (t_guesses : Int32) (t_nodes : Int32) (t_all : Int64) (t_np0 : Int64) (t_so : Nat → Int64) (t_laters : Int32) (t_waiting : Nat → Int64) (t_meanwhile : Nat → Int64) (t_goal : Nat → Int64) (t_atNext : Nat → Int32) (t_steps : Nat → Nat → Int64) (t_due : Int32) (t_met : Nat → Int32) (t_mbs : Nat → Int32) (t_reach : Nat → Int64) (t_ring : Nat → Int64) (t_core : Int64) (t_live : Int64) (a1 : Int32) : g_F y_T_nodesWithoutMoves c_T_nodesWithoutMoves 5 (some .long) rm_T_nodesWithoutMoves [.ref 0, .int a1] (HT d_label d_tg d_places t_guesses t_nodes t_all t_np0 t_so t_laters t_waiting t_meanwhile t_goal t_atNext t_steps t_due t_met t_mbs t_reach t_ring t_core t_live) (F_T_nodesWithoutMoves N d_tg d_places t_guesses t_np0 a1) (fun o => some (.long o)) (fun _ => (HT d_label d_tg d_places t_guesses t_nodes t_all t_np0 t_so t_laters t_waiting t_meanwhile t_goal t_atNext t_steps t_due t_met t_mbs t_reach t_ring t_core t_live)) := by
  intro l P hs
  refine g_ofG 4 (by decide +kernel) rfl (Nat.le_of_ble_eq_true rfl) (fun X hX => ?_)
  unfold F_T_nodesWithoutMoves at hs
  refine g_loc (L2 := [(0, .ref 0), (1, .int a1)]) [0, 1] rfl ?_
  refine g_blk 5 [(.lconst 0, 0, 0, 0, 0), (.lstore_n 2, 0, 0, 0, 0), (.iconst 0, 0, 0, 0, 0), (.istore 4, 0, 0, 0, 0)] [] [(4, .int (0 : Int32)), (2, .long (0 : Int64)), (0, .ref 0), (1, .int a1)] [] (HT d_label d_tg d_places t_guesses t_nodes t_all t_np0 t_so t_laters t_waiting t_meanwhile t_goal t_atNext t_steps t_due t_met t_mbs t_reach t_ring t_core t_live) (by decide +kernel) rfl g_nil ?_
  refine g_loc (L2 := [(0, .ref 0), (1, .int a1), (2, .long (0 : Int64)), (4, .int (0 : Int32))]) [2, 3, 1, 0] rfl ?_
  refine g_join (fun (o3 : Int64) => g_G X rm_T_nodesWithoutMoves c_T_nodesWithoutMoves 5 4 (some .long) 54 [(2, .long o3)] [] (HT d_label d_tg d_places t_guesses t_nodes t_all t_np0 t_so t_laters t_waiting t_meanwhile t_goal t_atNext t_steps t_due t_met t_mbs t_reach t_ring t_core t_live)) hs (fun o3 hs => ?_) (fun hs => ?_)
  · refine g_blk 55 [(.lload_n 2, 0, 0, 0, 0)] [] [(2, .long o3)] [.long o3] (HT d_label d_tg d_places t_guesses t_nodes t_all t_np0 t_so t_laters t_waiting t_meanwhile t_goal t_atNext t_steps t_due t_met t_mbs t_reach t_ring t_core t_live) (by decide +kernel) rfl g_nil ?_
    have hq := g_sat_s hs
    exact g_lret hX (by decide +kernel) rfl hq
  · have hlT_nodesWithoutMoves_l1 : ∀ (n : Nat) (b2_1 : Int64) (b4_2 : Int32), g_sat (T_nodesWithoutMoves_l1 d_places a1 d_tg t_guesses t_np0 n b2_1 b4_2) (fun (o3 : Int64) => g_G X rm_T_nodesWithoutMoves c_T_nodesWithoutMoves 5 4 (some .long) 54 [(2, .long o3)] [] (HT d_label d_tg d_places t_guesses t_nodes t_all t_np0 t_so t_laters t_waiting t_meanwhile t_goal t_atNext t_steps t_due t_met t_mbs t_reach t_ring t_core t_live)) → g_G X rm_T_nodesWithoutMoves c_T_nodesWithoutMoves 5 4 (some .long) 5 [(0, .ref 0), (1, .int a1), (2, .long b2_1), (4, .int b4_2)] [] (HT d_label d_tg d_places t_guesses t_nodes t_all t_np0 t_so t_laters t_waiting t_meanwhile t_goal t_atNext t_steps t_due t_met t_mbs t_reach t_ring t_core t_live) := by
      intro n
      induction n with
      | zero =>
        intro b2_1 b4_2 hs
        obtain ⟨_, h0, _⟩ := hs
        cases h0
      | succ n ih =>
        intro b2_1 b4_2 hs
        rw [T_nodesWithoutMoves_l1_s] at hs
        refine g_blk 14 [(.iload 4, 0, 0, 0, 0), (.aload_n 0, 0, 0, 0, 0), (.getfield 12, 4, 0, 0, 0), (.getfield 66, 1, 0, 0, 0)] [] [(0, .ref 0), (1, .int a1), (2, .long b2_1), (4, .int b4_2)] [.int d_places, .int b4_2] (HT d_label d_tg d_places t_guesses t_nodes t_all t_np0 t_so t_laters t_waiting t_meanwhile t_goal t_atNext t_steps t_due t_met t_mbs t_reach t_ring t_core t_live) (by decide +kernel) rfl g_nil ?_
        refine g_br 54 (.if_icmp .ge 40) (d_places ≤ b4_2) [] (by decide +kernel) rfl (fun c4 => ?_) (fun c4 => ?_)
        · have hs := g_sat_t hs c4
          refine g_loc (L2 := [(2, .long b2_1)]) [2] rfl ?_
          have hq := g_sat_s hs
          exact hq
        · have hs := g_sat_f hs c4
          refine g_blk 21 [(.iload 4, 0, 0, 0, 0), (.bipush 8, 0, 0, 8, 0)] [] [(0, .ref 0), (1, .int a1), (2, .long b2_1), (4, .int b4_2)] [.int (8 : Int32), .int b4_2] (HT d_label d_tg d_places t_guesses t_nodes t_all t_np0 t_so t_laters t_waiting t_meanwhile t_goal t_atNext t_steps t_due t_met t_mbs t_reach t_ring t_core t_live) (by decide +kernel) rfl g_nil ?_
          refine g_br 54 (.if_icmp .ge 33) ((8 : Int32) ≤ b4_2) [] (by decide +kernel) rfl (fun c5 => ?_) (fun c5 => ?_)
          · have hs := g_sat_t hs c5
            refine g_loc (L2 := [(2, .long b2_1)]) [2] rfl ?_
            have hq := g_sat_s hs
            exact hq
          · have hs := g_sat_f hs c5
            refine g_blk 32 [(.aload_n 0, 0, 0, 0, 0), (.getfield 12, 4, 0, 0, 0), (.getfield 143, 1, 2, 0, 0), (.iload_n 1, 0, 0, 0, 0)] [] [(0, .ref 0), (1, .int a1), (2, .long b2_1), (4, .int b4_2)] [.int a1, .ref 3] (HT d_label d_tg d_places t_guesses t_nodes t_all t_np0 t_so t_laters t_waiting t_meanwhile t_goal t_atNext t_steps t_due t_met t_mbs t_reach t_ring t_core t_live) (by decide +kernel) rfl g_nil ?_
            obtain ⟨h6, hs⟩ := g_sat_c hs
            refine g_blk 33 [(.aaload, 0, 0, 0, 0)] [vp_in a1 3] [(0, .ref 0), (1, .int a1), (2, .long b2_1), (4, .int b4_2)] [.ref (4 + a1.toNatClampNeg)] (HT d_label d_tg d_places t_guesses t_nodes t_all t_np0 t_so t_laters t_waiting t_meanwhile t_goal t_atNext t_steps t_due t_met t_mbs t_reach t_ring t_core t_live) (by decide +kernel) (by rcases (g_e3 h6) with z1 | z1 | z1 <;> (rw [z1]; rfl)) (g_and (g_inb_in h6) g_nil) ?_
            obtain ⟨h7, hs⟩ := g_sat_c hs
            refine g_blk 36 [(.iload 4, 0, 0, 0, 0), (.iaload, 0, 0, 0, 0)] [vp_in b4_2 8] [(0, .ref 0), (1, .int a1), (2, .long b2_1), (4, .int b4_2)] [.int ((d_tg a1.toNatClampNeg) b4_2.toNatClampNeg)] (HT d_label d_tg d_places t_guesses t_nodes t_all t_np0 t_so t_laters t_waiting t_meanwhile t_goal t_atNext t_steps t_due t_met t_mbs t_reach t_ring t_core t_live) (by decide +kernel) (by rcases (g_c3 h6) with z1 | z1 | z1 <;> (rw [z1]; rfl)) (g_and (g_inb_in h7) g_nil) ?_
            have hJ9 : ∀ (v9 : Int64) (ev9 : v9 = (if ((d_tg a1.toNatClampNeg) b4_2.toNatClampNeg) = 0 then (b2_1 ||| (F_T_nodesOf d_places t_guesses t_np0 b4_2)) else b2_1)), g_G X rm_T_nodesWithoutMoves c_T_nodesWithoutMoves 5 4 (some .long) 48 [(0, .ref 0), (1, .int a1), (2, .long v9), (4, .int b4_2)] [] (HT d_label d_tg d_places t_guesses t_nodes t_all t_np0 t_so t_laters t_waiting t_meanwhile t_goal t_atNext t_steps t_due t_met t_mbs t_reach t_ring t_core t_live) := by
              intro v9 ev9
              subst ev9
              refine g_blk 5 [(.iinc 4 1, 0, 0, 1, 0), (.goto (-46), 0, 0, 0, 0)] [] [(4, .int (b4_2 + (1 : Int32))), (0, .ref 0), (1, .int a1), (2, .long (if ((d_tg a1.toNatClampNeg) b4_2.toNatClampNeg) = 0 then (b2_1 ||| (F_T_nodesOf d_places t_guesses t_np0 b4_2)) else b2_1))] [] (HT d_label d_tg d_places t_guesses t_nodes t_all t_np0 t_so t_laters t_waiting t_meanwhile t_goal t_atNext t_steps t_due t_met t_mbs t_reach t_ring t_core t_live) (by decide +kernel) rfl g_nil ?_
              refine g_loc (L2 := [(0, .ref 0), (1, .int a1), (2, .long (if ((d_tg a1.toNatClampNeg) b4_2.toNatClampNeg) = 0 then (b2_1 ||| (F_T_nodesOf d_places t_guesses t_np0 b4_2)) else b2_1)), (4, .int (b4_2 + (1 : Int32)))]) [1, 2, 3, 0] rfl ?_
              exact ih _ _ hs
            refine g_brn 48 (.ifCond .ne 12) (((d_tg a1.toNatClampNeg) b4_2.toNatClampNeg) = 0) [] (by decide +kernel) rfl (fun c11 => ?_) (fun c11 => ?_)
            · exact hJ9 _ (by rw [if_neg c11])
            · refine g_blk 43 [(.lload_n 2, 0, 0, 0, 0), (.aload_n 0, 0, 0, 0, 0), (.iload 4, 0, 0, 0, 0)] [] [(0, .ref 0), (1, .int a1), (2, .long b2_1), (4, .int b4_2)] [.int b4_2, .ref 0, .long b2_1] (HT d_label d_tg d_places t_guesses t_nodes t_all t_np0 t_so t_laters t_waiting t_meanwhile t_goal t_atNext t_steps t_due t_met t_mbs t_reach t_ring t_core t_live) (by decide +kernel) rfl g_nil ?_
              refine g_pM (ct_T_nodesOf d_label d_tg d_places t_guesses t_nodes t_all t_np0 t_so t_laters t_waiting t_meanwhile t_goal t_atNext t_steps t_due t_met t_mbs t_reach t_ring t_core t_live b4_2) 133 true 1 lk_4_133 (by decide +kernel) rfl ⟨rfl, rfl, by decide, by decide⟩ [.long b2_1] rfl (Nat.le_of_ble_eq_true rfl) (fun _ => ⟨0, 4, _, rfl, rfl, by decide, rfl⟩) ?_
              refine g_blk 48 [(.lor, 0, 0, 0, 0), (.lstore_n 2, 0, 0, 0, 0)] [] [(2, .long (b2_1 ||| (F_T_nodesOf d_places t_guesses t_np0 b4_2))), (0, .ref 0), (1, .int a1), (4, .int b4_2)] [] (HT d_label d_tg d_places t_guesses t_nodes t_all t_np0 t_so t_laters t_waiting t_meanwhile t_goal t_atNext t_steps t_due t_met t_mbs t_reach t_ring t_core t_live) (by decide +kernel) rfl g_nil ?_
              refine g_loc (L2 := [(0, .ref 0), (1, .int a1), (2, .long (b2_1 ||| (F_T_nodesOf d_places t_guesses t_np0 b4_2))), (4, .int b4_2)]) [1, 2, 0, 3] rfl ?_
              exact hJ9 _ (by rw [if_pos c11])
    exact hlT_nodesWithoutMoves_l1 N _ _ hs
abbrev rm_T_makeDue : Room := { frames := 2, cells := 0, slots := 0, locals := 46 }
def T_makeDue_l1 (t_nodes : Int32) : Nat → Int32 → (Nat → Int32) → Option (Nat → Int32)
  | 0, _, _ => none
  | n + 1, b2_1, w_met_2 => (if t_nodes ≤ b2_1 then (some w_met_2) else (if (64 : Int32) ≤ b2_1 then (some w_met_2) else (g_chk (g_inb b2_1 64) (T_makeDue_l1 t_nodes n (b2_1 + (1 : Int32)) (upd w_met_2 b2_1.toNatClampNeg (0 : Int32))))))
theorem T_makeDue_l1_s (t_nodes : Int32) (n : Nat) (b2_1 : Int32) (w_met_2 : Nat → Int32) : T_makeDue_l1 t_nodes (n + 1) b2_1 w_met_2 = (if t_nodes ≤ b2_1 then (some w_met_2) else (if (64 : Int32) ≤ b2_1 then (some w_met_2) else (g_chk (g_inb b2_1 64) (T_makeDue_l1 t_nodes n (b2_1 + (1 : Int32)) (upd w_met_2 b2_1.toNatClampNeg (0 : Int32)))))) := rfl
def T_makeDue_l2 : Nat → Int32 → (Nat → Int32) → Option (Nat → Int32)
  | 0, _, _ => none
  | n + 1, b2_7, w_mbs_8 => (if (3 : Int32) ≤ b2_7 then (some w_mbs_8) else (g_chk (g_inb b2_7 3) (T_makeDue_l2 n (b2_7 + (1 : Int32)) (upd w_mbs_8 b2_7.toNatClampNeg (0 : Int32)))))
theorem T_makeDue_l2_s (n : Nat) (b2_7 : Int32) (w_mbs_8 : Nat → Int32) : T_makeDue_l2 (n + 1) b2_7 w_mbs_8 = (if (3 : Int32) ≤ b2_7 then (some w_mbs_8) else (g_chk (g_inb b2_7 3) (T_makeDue_l2 n (b2_7 + (1 : Int32)) (upd w_mbs_8 b2_7.toNatClampNeg (0 : Int32))))) := rfl
def T_makeDue_l3 (N : Nat) (t_laters : Int32) (t_atNext : Nat → Int32) (t_nodes : Int32) (t_waiting : Nat → Int64) (t_goal : Nat → Int64) : Nat → Int32 → Int32 → (Nat → Int32) → Option (Int32 × (Nat → Int32))
  | 0, _, _, _ => none
  | n + 1, b2_12, w_due_13, w_met_14 => (if t_laters ≤ b2_12 then (some (w_due_13, w_met_14)) else (if (3 : Int32) ≤ b2_12 then (some (w_due_13, w_met_14)) else (g_chk (g_inb b2_12 3) ((if (t_atNext b2_12.toNatClampNeg) = 0 then (g_chk (g_inb b2_12 3) (g_chk (g_inb b2_12 3) ((F_T_addDue N t_nodes w_due_13 w_met_14 (((t_waiting b2_12.toNatClampNeg) ^^^ (-1 : Int64)) ||| (t_goal b2_12.toNatClampNeg))).bind fun o25 => (some (o25.2.1, o25.2.2))))) else (some (w_due_13, w_met_14))).bind fun o22 => (T_makeDue_l3 N t_laters t_atNext t_nodes t_waiting t_goal n (b2_12 + (1 : Int32)) o22.1 o22.2)))))
theorem T_makeDue_l3_s (N : Nat) (t_laters : Int32) (t_atNext : Nat → Int32) (t_nodes : Int32) (t_waiting : Nat → Int64) (t_goal : Nat → Int64) (n : Nat) (b2_12 : Int32) (w_due_13 : Int32) (w_met_14 : Nat → Int32) : T_makeDue_l3 N t_laters t_atNext t_nodes t_waiting t_goal (n + 1) b2_12 w_due_13 w_met_14 = (if t_laters ≤ b2_12 then (some (w_due_13, w_met_14)) else (if (3 : Int32) ≤ b2_12 then (some (w_due_13, w_met_14)) else (g_chk (g_inb b2_12 3) ((if (t_atNext b2_12.toNatClampNeg) = 0 then (g_chk (g_inb b2_12 3) (g_chk (g_inb b2_12 3) ((F_T_addDue N t_nodes w_due_13 w_met_14 (((t_waiting b2_12.toNatClampNeg) ^^^ (-1 : Int64)) ||| (t_goal b2_12.toNatClampNeg))).bind fun o25 => (some (o25.2.1, o25.2.2))))) else (some (w_due_13, w_met_14))).bind fun o22 => (T_makeDue_l3 N t_laters t_atNext t_nodes t_waiting t_goal n (b2_12 + (1 : Int32)) o22.1 o22.2))))) := rfl
def T_makeDue_l4 (N : Nat) (a1 : Int32) (d_tg : Nat → Nat → Int32) (d_places : Int32) (t_guesses : Int32) (t_np0 : Int64) (t_nodes : Int32) : Nat → Int32 → Int32 → (Nat → Int32) → (Nat → Int32) → Option (Int32 × (Nat → Int32) × (Nat → Int32))
  | 0, _, _, _, _ => none
  | n + 1, b2_26, w_due_27, w_met_28, w_mbs_29 => (if a1 = 0 then (some (w_due_27, w_met_28, w_mbs_29)) else (if (2 : Int32) ≤ b2_26 then (some (w_due_27, w_met_28, w_mbs_29)) else ((F_T_nodesWithoutMoves N d_tg d_places t_guesses t_np0 b2_26).bind fun o33 => ((F_T_addDue N t_nodes w_due_27 w_met_28 o33).bind fun o34 => (g_chk (g_inb b2_26 3) (T_makeDue_l4 N a1 d_tg d_places t_guesses t_np0 t_nodes n (b2_26 + (1 : Int32)) o34.2.1 o34.2.2 (upd w_mbs_29 b2_26.toNatClampNeg o34.1)))))))
theorem T_makeDue_l4_s (N : Nat) (a1 : Int32) (d_tg : Nat → Nat → Int32) (d_places : Int32) (t_guesses : Int32) (t_np0 : Int64) (t_nodes : Int32) (n : Nat) (b2_26 : Int32) (w_due_27 : Int32) (w_met_28 : Nat → Int32) (w_mbs_29 : Nat → Int32) : T_makeDue_l4 N a1 d_tg d_places t_guesses t_np0 t_nodes (n + 1) b2_26 w_due_27 w_met_28 w_mbs_29 = (if a1 = 0 then (some (w_due_27, w_met_28, w_mbs_29)) else (if (2 : Int32) ≤ b2_26 then (some (w_due_27, w_met_28, w_mbs_29)) else ((F_T_nodesWithoutMoves N d_tg d_places t_guesses t_np0 b2_26).bind fun o33 => ((F_T_addDue N t_nodes w_due_27 w_met_28 o33).bind fun o34 => (g_chk (g_inb b2_26 3) (T_makeDue_l4 N a1 d_tg d_places t_guesses t_np0 t_nodes n (b2_26 + (1 : Int32)) o34.2.1 o34.2.2 (upd w_mbs_29 b2_26.toNatClampNeg o34.1))))))) := rfl
def F_T_makeDue (N : Nat) (d_tg : Nat → Nat → Int32) (d_places : Int32) (t_guesses : Int32) (t_nodes : Int32) (t_np0 : Int64) (t_laters : Int32) (t_waiting : Nat → Int64) (t_goal : Nat → Int64) (t_atNext : Nat → Int32) (t_met : Nat → Int32) (t_mbs : Nat → Int32) (a1 : Int32) : Option (Int32 × (Nat → Int32) × (Nat → Int32)) := ((T_makeDue_l1 t_nodes N (0 : Int32) t_met).bind fun o3 => ((T_makeDue_l2 N (0 : Int32) t_mbs).bind fun o9 => ((T_makeDue_l3 N t_laters t_atNext t_nodes t_waiting t_goal N (0 : Int32) (0 : Int32) o3).bind fun o15 => ((T_makeDue_l4 N a1 d_tg d_places t_guesses t_np0 t_nodes N (0 : Int32) o15.1 o15.2 o9).bind fun o30 => (some (o30.1, o30.2.1, o30.2.2))))))
set_option maxRecDepth 100000 in
theorem ct_T_makeDue (N : Nat) (d_label : Nat → Int32) (d_tg : Nat → Nat → Int32) (d_places : Int32) (t_guesses : Int32) (t_nodes : Int32) (t_all : Int64) (t_np0 : Int64) (t_so : Nat → Int64) (t_laters : Int32) (t_waiting : Nat → Int64) (t_meanwhile : Nat → Int64) (t_goal : Nat → Int64) (t_atNext : Nat → Int32) (t_steps : Nat → Nat → Int64) (t_due : Int32) (t_met : Nat → Int32) (t_mbs : Nat → Int32) (t_reach : Nat → Int64) (t_ring : Nat → Int64) (t_core : Int64) (t_live : Int64) (a1 : Int32) : g_F y_T_makeDue c_T_makeDue 3 none rm_T_makeDue [.ref 0, .int a1] (HT d_label d_tg d_places t_guesses t_nodes t_all t_np0 t_so t_laters t_waiting t_meanwhile t_goal t_atNext t_steps t_due t_met t_mbs t_reach t_ring t_core t_live) (F_T_makeDue N d_tg d_places t_guesses t_nodes t_np0 t_laters t_waiting t_goal t_atNext t_met t_mbs a1) (fun o => none) (fun o => (HT d_label d_tg d_places t_guesses t_nodes t_all t_np0 t_so t_laters t_waiting t_meanwhile t_goal t_atNext t_steps o.1 o.2.1 o.2.2 t_reach t_ring t_core t_live)) := by
  intro l P hs
  refine g_ofG 4 (by decide +kernel) rfl (Nat.le_of_ble_eq_true rfl) (fun X hX => ?_)
  unfold F_T_makeDue at hs
  refine g_loc (L2 := [(0, .ref 0), (1, .int a1)]) [0, 1] rfl ?_
  refine g_blk 2 [(.iconst 0, 0, 0, 0, 0), (.istore_n 2, 0, 0, 0, 0)] [] [(2, .int (0 : Int32)), (0, .ref 0), (1, .int a1)] [] (HT d_label d_tg d_places t_guesses t_nodes t_all t_np0 t_so t_laters t_waiting t_meanwhile t_goal t_atNext t_steps t_due t_met t_mbs t_reach t_ring t_core t_live) (by decide +kernel) rfl g_nil ?_
  refine g_loc (L2 := [(0, .ref 0), (1, .int a1), (2, .int (0 : Int32))]) [1, 2, 0] rfl ?_
  refine g_join (fun (o3 : Nat → Int32) => g_G X rm_T_makeDue c_T_makeDue 3 4 none 29 [(0, .ref 0), (1, .int a1)] [] (HT d_label d_tg d_places t_guesses t_nodes t_all t_np0 t_so t_laters t_waiting t_meanwhile t_goal t_atNext t_steps t_due o3 t_mbs t_reach t_ring t_core t_live)) hs (fun o3 hs => ?_) (fun hs => ?_)
  · refine g_blk 31 [(.iconst 0, 0, 0, 0, 0), (.istore_n 2, 0, 0, 0, 0)] [] [(2, .int (0 : Int32)), (0, .ref 0), (1, .int a1)] [] (HT d_label d_tg d_places t_guesses t_nodes t_all t_np0 t_so t_laters t_waiting t_meanwhile t_goal t_atNext t_steps t_due o3 t_mbs t_reach t_ring t_core t_live) (by decide +kernel) rfl g_nil ?_
    refine g_loc (L2 := [(0, .ref 0), (1, .int a1), (2, .int (0 : Int32))]) [1, 2, 0] rfl ?_
    refine g_join (fun (o9 : Nat → Int32) => g_G X rm_T_makeDue c_T_makeDue 3 4 none 49 [(0, .ref 0), (1, .int a1)] [] (HT d_label d_tg d_places t_guesses t_nodes t_all t_np0 t_so t_laters t_waiting t_meanwhile t_goal t_atNext t_steps t_due o3 o9 t_reach t_ring t_core t_live)) hs (fun o9 hs => ?_) (fun hs => ?_)
    · refine g_blk 56 [(.aload_n 0, 0, 0, 0, 0), (.iconst 0, 0, 0, 0, 0), (.putfield 151, 4, 12, 1, 0), (.iconst 0, 0, 0, 0, 0), (.istore_n 2, 0, 0, 0, 0)] [] [(2, .int (0 : Int32)), (0, .ref 0), (1, .int a1)] [] (HT d_label d_tg d_places t_guesses t_nodes t_all t_np0 t_so t_laters t_waiting t_meanwhile t_goal t_atNext t_steps (0 : Int32) o3 o9 t_reach t_ring t_core t_live) (by decide +kernel) rfl g_nil ?_
      refine g_loc (L2 := [(0, .ref 0), (1, .int a1), (2, .int (0 : Int32))]) [1, 2, 0] rfl ?_
      refine g_join (fun (o15 : Int32 × (Nat → Int32)) => g_G X rm_T_makeDue c_T_makeDue 3 4 none 106 [(0, .ref 0), (1, .int a1)] [] (HT d_label d_tg d_places t_guesses t_nodes t_all t_np0 t_so t_laters t_waiting t_meanwhile t_goal t_atNext t_steps o15.1 o15.2 o9 t_reach t_ring t_core t_live)) hs (fun o15 hs => ?_) (fun hs => ?_)
      · refine g_blk 108 [(.iconst 0, 0, 0, 0, 0), (.istore_n 2, 0, 0, 0, 0)] [] [(2, .int (0 : Int32)), (0, .ref 0), (1, .int a1)] [] (HT d_label d_tg d_places t_guesses t_nodes t_all t_np0 t_so t_laters t_waiting t_meanwhile t_goal t_atNext t_steps o15.1 o15.2 o9 t_reach t_ring t_core t_live) (by decide +kernel) rfl g_nil ?_
        refine g_loc (L2 := [(0, .ref 0), (1, .int a1), (2, .int (0 : Int32))]) [1, 2, 0] rfl ?_
        refine g_join (fun (o30 : Int32 × (Nat → Int32) × (Nat → Int32)) => g_G X rm_T_makeDue c_T_makeDue 3 4 none 138 [] [] (HT d_label d_tg d_places t_guesses t_nodes t_all t_np0 t_so t_laters t_waiting t_meanwhile t_goal t_atNext t_steps o30.1 o30.2.1 o30.2.2 t_reach t_ring t_core t_live)) hs (fun o30 hs => ?_) (fun hs => ?_)
        · have hq := g_sat_s hs
          exact g_vret hX (by decide +kernel) rfl hq
        · have hlT_makeDue_l4 : ∀ (n : Nat) (b2_26 : Int32) (w_due_27 : Int32) (w_met_28 : Nat → Int32) (w_mbs_29 : Nat → Int32), g_sat (T_makeDue_l4 N a1 d_tg d_places t_guesses t_np0 t_nodes n b2_26 w_due_27 w_met_28 w_mbs_29) (fun (o30 : Int32 × (Nat → Int32) × (Nat → Int32)) => g_G X rm_T_makeDue c_T_makeDue 3 4 none 138 [] [] (HT d_label d_tg d_places t_guesses t_nodes t_all t_np0 t_so t_laters t_waiting t_meanwhile t_goal t_atNext t_steps o30.1 o30.2.1 o30.2.2 t_reach t_ring t_core t_live)) → g_G X rm_T_makeDue c_T_makeDue 3 4 none 108 [(0, .ref 0), (1, .int a1), (2, .int b2_26)] [] (HT d_label d_tg d_places t_guesses t_nodes t_all t_np0 t_so t_laters t_waiting t_meanwhile t_goal t_atNext t_steps w_due_27 w_met_28 w_mbs_29 t_reach t_ring t_core t_live) := by
            intro n
            induction n with
            | zero =>
              intro b2_26 w_due_27 w_met_28 w_mbs_29 hs
              obtain ⟨_, h0, _⟩ := hs
              cases h0
            | succ n ih =>
              intro b2_26 w_due_27 w_met_28 w_mbs_29 hs
              rw [T_makeDue_l4_s] at hs
              refine g_blk 109 [(.iload_n 1, 0, 0, 0, 0)] [] [(0, .ref 0), (1, .int a1), (2, .int b2_26)] [.int a1] (HT d_label d_tg d_places t_guesses t_nodes t_all t_np0 t_so t_laters t_waiting t_meanwhile t_goal t_atNext t_steps w_due_27 w_met_28 w_mbs_29 t_reach t_ring t_core t_live) (by decide +kernel) rfl g_nil ?_
              refine g_br 138 (.ifCond .eq 29) (a1 = 0) [] (by decide +kernel) rfl (fun c31 => ?_) (fun c31 => ?_)
              · have hs := g_sat_t hs c31
                refine g_loc (L2 := []) [] rfl ?_
                have hq := g_sat_s hs
                exact hq
              · have hs := g_sat_f hs c31
                refine g_blk 114 [(.iload_n 2, 0, 0, 0, 0), (.iconst 2, 0, 0, 2, 0)] [] [(0, .ref 0), (1, .int a1), (2, .int b2_26)] [.int (2 : Int32), .int b2_26] (HT d_label d_tg d_places t_guesses t_nodes t_all t_np0 t_so t_laters t_waiting t_meanwhile t_goal t_atNext t_steps w_due_27 w_met_28 w_mbs_29 t_reach t_ring t_core t_live) (by decide +kernel) rfl g_nil ?_
                refine g_br 138 (.if_icmp .ge 24) ((2 : Int32) ≤ b2_26) [] (by decide +kernel) rfl (fun c32 => ?_) (fun c32 => ?_)
                · have hs := g_sat_t hs c32
                  refine g_loc (L2 := []) [] rfl ?_
                  have hq := g_sat_s hs
                  exact hq
                · have hs := g_sat_f hs c32
                  refine g_blk 125 [(.aload_n 0, 0, 0, 0, 0), (.getfield 44, 4, 14, 0, 0), (.iload_n 2, 0, 0, 0, 0), (.aload_n 0, 0, 0, 0, 0), (.aload_n 0, 0, 0, 0, 0), (.iload_n 2, 0, 0, 0, 0)] [] [(0, .ref 0), (1, .int a1), (2, .int b2_26)] [.int b2_26, .ref 0, .ref 0, .int b2_26, .ref 17] (HT d_label d_tg d_places t_guesses t_nodes t_all t_np0 t_so t_laters t_waiting t_meanwhile t_goal t_atNext t_steps w_due_27 w_met_28 w_mbs_29 t_reach t_ring t_core t_live) (by decide +kernel) rfl g_nil ?_
                  refine g_fM (ct_T_nodesWithoutMoves N d_label d_tg d_places t_guesses t_nodes t_all t_np0 t_so t_laters t_waiting t_meanwhile t_goal t_atNext t_steps w_due_27 w_met_28 w_mbs_29 t_reach t_ring t_core t_live b2_26) 158 true 1 lk_4_158 (by decide +kernel) rfl ⟨rfl, rfl, by decide, by decide⟩ [.ref 0, .int b2_26, .ref 17] rfl (Nat.le_of_ble_eq_true rfl) (fun _ => ⟨0, 4, _, rfl, rfl, by decide, rfl⟩) hs (fun o33 hs => ?_)
                  refine g_fM (ct_T_addDue N d_label d_tg d_places t_guesses t_nodes t_all t_np0 t_so t_laters t_waiting t_meanwhile t_goal t_atNext t_steps w_due_27 w_met_28 w_mbs_29 t_reach t_ring t_core t_live o33) 154 true 1 lk_4_154 (by decide +kernel) rfl ⟨rfl, rfl, by decide, by decide⟩ [.int b2_26, .ref 17] rfl (Nat.le_of_ble_eq_true rfl) (fun _ => ⟨0, 4, _, rfl, rfl, by decide, rfl⟩) hs (fun o34 hs => ?_)
                  obtain ⟨h35, hs⟩ := g_sat_c hs
                  refine g_blk 108 [(.iastore, 0, 0, 0, 0), (.iinc 2 1, 0, 0, 1, 0), (.goto (-27), 0, 0, 0, 0)] [vp_in b2_26 3] [(2, .int (b2_26 + (1 : Int32))), (0, .ref 0), (1, .int a1)] [] (HT d_label d_tg d_places t_guesses t_nodes t_all t_np0 t_so t_laters t_waiting t_meanwhile t_goal t_atNext t_steps o34.2.1 o34.2.2 (upd w_mbs_29 b2_26.toNatClampNeg o34.1) t_reach t_ring t_core t_live) (by decide +kernel) rfl (g_and (g_inb_in h35) g_nil) ?_
                  refine g_loc (L2 := [(0, .ref 0), (1, .int a1), (2, .int (b2_26 + (1 : Int32)))]) [1, 2, 0] rfl ?_
                  exact ih _ _ _ _ hs
          exact hlT_makeDue_l4 N _ _ _ _ hs
      · have hlT_makeDue_l3 : ∀ (n : Nat) (b2_12 : Int32) (w_due_13 : Int32) (w_met_14 : Nat → Int32), g_sat (T_makeDue_l3 N t_laters t_atNext t_nodes t_waiting t_goal n b2_12 w_due_13 w_met_14) (fun (o15 : Int32 × (Nat → Int32)) => g_G X rm_T_makeDue c_T_makeDue 3 4 none 106 [(0, .ref 0), (1, .int a1)] [] (HT d_label d_tg d_places t_guesses t_nodes t_all t_np0 t_so t_laters t_waiting t_meanwhile t_goal t_atNext t_steps o15.1 o15.2 o9 t_reach t_ring t_core t_live)) → g_G X rm_T_makeDue c_T_makeDue 3 4 none 56 [(0, .ref 0), (1, .int a1), (2, .int b2_12)] [] (HT d_label d_tg d_places t_guesses t_nodes t_all t_np0 t_so t_laters t_waiting t_meanwhile t_goal t_atNext t_steps w_due_13 w_met_14 o9 t_reach t_ring t_core t_live) := by
          intro n
          induction n with
          | zero =>
            intro b2_12 w_due_13 w_met_14 hs
            obtain ⟨_, h0, _⟩ := hs
            cases h0
          | succ n ih =>
            intro b2_12 w_due_13 w_met_14 hs
            rw [T_makeDue_l3_s] at hs
            refine g_blk 61 [(.iload_n 2, 0, 0, 0, 0), (.aload_n 0, 0, 0, 0, 0), (.getfield 83, 4, 6, 0, 0)] [] [(0, .ref 0), (1, .int a1), (2, .int b2_12)] [.int t_laters, .int b2_12] (HT d_label d_tg d_places t_guesses t_nodes t_all t_np0 t_so t_laters t_waiting t_meanwhile t_goal t_atNext t_steps w_due_13 w_met_14 o9 t_reach t_ring t_core t_live) (by decide +kernel) rfl g_nil ?_
            refine g_br 106 (.if_icmp .ge 45) (t_laters ≤ b2_12) [] (by decide +kernel) rfl (fun c16 => ?_) (fun c16 => ?_)
            · have hs := g_sat_t hs c16
              refine g_loc (L2 := [(0, .ref 0), (1, .int a1)]) [0, 1] rfl ?_
              have hq := g_sat_s hs
              exact hq
            · have hs := g_sat_f hs c16
              refine g_blk 66 [(.iload_n 2, 0, 0, 0, 0), (.iconst 3, 0, 0, 3, 0)] [] [(0, .ref 0), (1, .int a1), (2, .int b2_12)] [.int (3 : Int32), .int b2_12] (HT d_label d_tg d_places t_guesses t_nodes t_all t_np0 t_so t_laters t_waiting t_meanwhile t_goal t_atNext t_steps w_due_13 w_met_14 o9 t_reach t_ring t_core t_live) (by decide +kernel) rfl g_nil ?_
              refine g_br 106 (.if_icmp .ge 40) ((3 : Int32) ≤ b2_12) [] (by decide +kernel) rfl (fun c17 => ?_) (fun c17 => ?_)
              · have hs := g_sat_t hs c17
                refine g_loc (L2 := [(0, .ref 0), (1, .int a1)]) [0, 1] rfl ?_
                have hq := g_sat_s hs
                exact hq
              · have hs := g_sat_f hs c17
                obtain ⟨h18, hs⟩ := g_sat_c hs
                refine g_blk 75 [(.aload_n 0, 0, 0, 0, 0), (.getfield 31, 4, 10, 0, 0), (.iload_n 2, 0, 0, 0, 0), (.baload, 0, 0, 0, 0)] [vp_in b2_12 3] [(0, .ref 0), (1, .int a1), (2, .int b2_12)] [.int (t_atNext b2_12.toNatClampNeg)] (HT d_label d_tg d_places t_guesses t_nodes t_all t_np0 t_so t_laters t_waiting t_meanwhile t_goal t_atNext t_steps w_due_13 w_met_14 o9 t_reach t_ring t_core t_live) (by decide +kernel) rfl (g_and (g_inb_in h18) g_nil) ?_
                refine g_join (fun (o22 : Int32 × (Nat → Int32)) => g_G X rm_T_makeDue c_T_makeDue 3 4 none 100 [(0, .ref 0), (1, .int a1), (2, .int b2_12)] [] (HT d_label d_tg d_places t_guesses t_nodes t_all t_np0 t_so t_laters t_waiting t_meanwhile t_goal t_atNext t_steps o22.1 o22.2 o9 t_reach t_ring t_core t_live)) hs (fun o22 hs => ?_) (fun hs => ?_)
                · refine g_blk 56 [(.iinc 2 1, 0, 0, 1, 0), (.goto (-47), 0, 0, 0, 0)] [] [(2, .int (b2_12 + (1 : Int32))), (0, .ref 0), (1, .int a1)] [] (HT d_label d_tg d_places t_guesses t_nodes t_all t_np0 t_so t_laters t_waiting t_meanwhile t_goal t_atNext t_steps o22.1 o22.2 o9 t_reach t_ring t_core t_live) (by decide +kernel) rfl g_nil ?_
                  refine g_loc (L2 := [(0, .ref 0), (1, .int a1), (2, .int (b2_12 + (1 : Int32)))]) [1, 2, 0] rfl ?_
                  exact ih _ _ _ hs
                · refine g_brn 100 (.ifCond .ne 25) ((t_atNext b2_12.toNatClampNeg) = 0) [] (by decide +kernel) rfl (fun c19 => ?_) (fun c19 => ?_)
                  · have hs := g_sat_f hs c19
                    have hq := g_sat_s hs
                    exact hq
                  · have hs := g_sat_t hs c19
                    obtain ⟨h23, hs⟩ := g_sat_c hs
                    obtain ⟨h24, hs⟩ := g_sat_c hs
                    refine g_blk 96 [(.aload_n 0, 0, 0, 0, 0), (.aload_n 0, 0, 0, 0, 0), (.getfield 22, 4, 7, 0, 0), (.iload_n 2, 0, 0, 0, 0), (.laload, 0, 0, 0, 0), (.ldc2_w 111, 0, 0, 0, (-1)), (.lxor, 0, 0, 0, 0), (.aload_n 0, 0, 0, 0, 0), (.getfield 28, 4, 9, 0, 0), (.iload_n 2, 0, 0, 0, 0), (.laload, 0, 0, 0, 0), (.lor, 0, 0, 0, 0)] [vp_in b2_12 3, vp_in b2_12 3] [(0, .ref 0), (1, .int a1), (2, .int b2_12)] [.long (((t_waiting b2_12.toNatClampNeg) ^^^ (-1 : Int64)) ||| (t_goal b2_12.toNatClampNeg)), .ref 0] (HT d_label d_tg d_places t_guesses t_nodes t_all t_np0 t_so t_laters t_waiting t_meanwhile t_goal t_atNext t_steps w_due_13 w_met_14 o9 t_reach t_ring t_core t_live) (by decide +kernel) rfl (g_and (g_inb_in h23) (g_and (g_inb_in h24) g_nil)) ?_
                    refine g_fM (ct_T_addDue N d_label d_tg d_places t_guesses t_nodes t_all t_np0 t_so t_laters t_waiting t_meanwhile t_goal t_atNext t_steps w_due_13 w_met_14 o9 t_reach t_ring t_core t_live (((t_waiting b2_12.toNatClampNeg) ^^^ (-1 : Int64)) ||| (t_goal b2_12.toNatClampNeg))) 154 true 1 lk_4_154 (by decide +kernel) rfl ⟨rfl, rfl, by decide, by decide⟩ [] rfl (Nat.le_of_ble_eq_true rfl) (fun _ => ⟨0, 4, _, rfl, rfl, by decide, rfl⟩) hs (fun o25 hs => ?_)
                    refine g_blk 100 [(.pop, 0, 0, 0, 0)] [] [(0, .ref 0), (1, .int a1), (2, .int b2_12)] [] (HT d_label d_tg d_places t_guesses t_nodes t_all t_np0 t_so t_laters t_waiting t_meanwhile t_goal t_atNext t_steps o25.2.1 o25.2.2 o9 t_reach t_ring t_core t_live) (by decide +kernel) rfl g_nil ?_
                    have hq := g_sat_s hs
                    exact hq
        exact hlT_makeDue_l3 N _ _ _ hs
    · have hlT_makeDue_l2 : ∀ (n : Nat) (b2_7 : Int32) (w_mbs_8 : Nat → Int32), g_sat (T_makeDue_l2 n b2_7 w_mbs_8) (fun (o9 : Nat → Int32) => g_G X rm_T_makeDue c_T_makeDue 3 4 none 49 [(0, .ref 0), (1, .int a1)] [] (HT d_label d_tg d_places t_guesses t_nodes t_all t_np0 t_so t_laters t_waiting t_meanwhile t_goal t_atNext t_steps t_due o3 o9 t_reach t_ring t_core t_live)) → g_G X rm_T_makeDue c_T_makeDue 3 4 none 31 [(0, .ref 0), (1, .int a1), (2, .int b2_7)] [] (HT d_label d_tg d_places t_guesses t_nodes t_all t_np0 t_so t_laters t_waiting t_meanwhile t_goal t_atNext t_steps t_due o3 w_mbs_8 t_reach t_ring t_core t_live) := by
        intro n
        induction n with
        | zero =>
          intro b2_7 w_mbs_8 hs
          obtain ⟨_, h0, _⟩ := hs
          cases h0
        | succ n ih =>
          intro b2_7 w_mbs_8 hs
          rw [T_makeDue_l2_s] at hs
          refine g_blk 33 [(.iload_n 2, 0, 0, 0, 0), (.iconst 3, 0, 0, 3, 0)] [] [(0, .ref 0), (1, .int a1), (2, .int b2_7)] [.int (3 : Int32), .int b2_7] (HT d_label d_tg d_places t_guesses t_nodes t_all t_np0 t_so t_laters t_waiting t_meanwhile t_goal t_atNext t_steps t_due o3 w_mbs_8 t_reach t_ring t_core t_live) (by decide +kernel) rfl g_nil ?_
          refine g_br 49 (.if_icmp .ge 16) ((3 : Int32) ≤ b2_7) [] (by decide +kernel) rfl (fun c10 => ?_) (fun c10 => ?_)
          · have hs := g_sat_t hs c10
            refine g_loc (L2 := [(0, .ref 0), (1, .int a1)]) [0, 1] rfl ?_
            have hq := g_sat_s hs
            exact hq
          · have hs := g_sat_f hs c10
            obtain ⟨h11, hs⟩ := g_sat_c hs
            refine g_blk 31 [(.aload_n 0, 0, 0, 0, 0), (.getfield 44, 4, 14, 0, 0), (.iload_n 2, 0, 0, 0, 0), (.iconst 0, 0, 0, 0, 0), (.iastore, 0, 0, 0, 0), (.iinc 2 1, 0, 0, 1, 0), (.goto (-15), 0, 0, 0, 0)] [vp_in b2_7 3] [(2, .int (b2_7 + (1 : Int32))), (0, .ref 0), (1, .int a1)] [] (HT d_label d_tg d_places t_guesses t_nodes t_all t_np0 t_so t_laters t_waiting t_meanwhile t_goal t_atNext t_steps t_due o3 (upd w_mbs_8 b2_7.toNatClampNeg (0 : Int32)) t_reach t_ring t_core t_live) (by decide +kernel) rfl (g_and (g_inb_in h11) g_nil) ?_
            refine g_loc (L2 := [(0, .ref 0), (1, .int a1), (2, .int (b2_7 + (1 : Int32)))]) [1, 2, 0] rfl ?_
            exact ih _ _ hs
      exact hlT_makeDue_l2 N _ _ hs
  · have hlT_makeDue_l1 : ∀ (n : Nat) (b2_1 : Int32) (w_met_2 : Nat → Int32), g_sat (T_makeDue_l1 t_nodes n b2_1 w_met_2) (fun (o3 : Nat → Int32) => g_G X rm_T_makeDue c_T_makeDue 3 4 none 29 [(0, .ref 0), (1, .int a1)] [] (HT d_label d_tg d_places t_guesses t_nodes t_all t_np0 t_so t_laters t_waiting t_meanwhile t_goal t_atNext t_steps t_due o3 t_mbs t_reach t_ring t_core t_live)) → g_G X rm_T_makeDue c_T_makeDue 3 4 none 2 [(0, .ref 0), (1, .int a1), (2, .int b2_1)] [] (HT d_label d_tg d_places t_guesses t_nodes t_all t_np0 t_so t_laters t_waiting t_meanwhile t_goal t_atNext t_steps t_due w_met_2 t_mbs t_reach t_ring t_core t_live) := by
      intro n
      induction n with
      | zero =>
        intro b2_1 w_met_2 hs
        obtain ⟨_, h0, _⟩ := hs
        cases h0
      | succ n ih =>
        intro b2_1 w_met_2 hs
        rw [T_makeDue_l1_s] at hs
        refine g_blk 7 [(.iload_n 2, 0, 0, 0, 0), (.aload_n 0, 0, 0, 0, 0), (.getfield 69, 4, 2, 0, 0)] [] [(0, .ref 0), (1, .int a1), (2, .int b2_1)] [.int t_nodes, .int b2_1] (HT d_label d_tg d_places t_guesses t_nodes t_all t_np0 t_so t_laters t_waiting t_meanwhile t_goal t_atNext t_steps t_due w_met_2 t_mbs t_reach t_ring t_core t_live) (by decide +kernel) rfl g_nil ?_
        refine g_br 29 (.if_icmp .ge 22) (t_nodes ≤ b2_1) [] (by decide +kernel) rfl (fun c4 => ?_) (fun c4 => ?_)
        · have hs := g_sat_t hs c4
          refine g_loc (L2 := [(0, .ref 0), (1, .int a1)]) [0, 1] rfl ?_
          have hq := g_sat_s hs
          exact hq
        · have hs := g_sat_f hs c4
          refine g_blk 13 [(.iload_n 2, 0, 0, 0, 0), (.bipush 64, 0, 0, 64, 0)] [] [(0, .ref 0), (1, .int a1), (2, .int b2_1)] [.int (64 : Int32), .int b2_1] (HT d_label d_tg d_places t_guesses t_nodes t_all t_np0 t_so t_laters t_waiting t_meanwhile t_goal t_atNext t_steps t_due w_met_2 t_mbs t_reach t_ring t_core t_live) (by decide +kernel) rfl g_nil ?_
          refine g_br 29 (.if_icmp .ge 16) ((64 : Int32) ≤ b2_1) [] (by decide +kernel) rfl (fun c5 => ?_) (fun c5 => ?_)
          · have hs := g_sat_t hs c5
            refine g_loc (L2 := [(0, .ref 0), (1, .int a1)]) [0, 1] rfl ?_
            have hq := g_sat_s hs
            exact hq
          · have hs := g_sat_f hs c5
            obtain ⟨h6, hs⟩ := g_sat_c hs
            refine g_blk 2 [(.aload_n 0, 0, 0, 0, 0), (.getfield 40, 4, 13, 0, 0), (.iload_n 2, 0, 0, 0, 0), (.iconst 0, 0, 0, 0, 0), (.iastore, 0, 0, 0, 0), (.iinc 2 1, 0, 0, 1, 0), (.goto (-24), 0, 0, 0, 0)] [vp_in b2_1 64] [(2, .int (b2_1 + (1 : Int32))), (0, .ref 0), (1, .int a1)] [] (HT d_label d_tg d_places t_guesses t_nodes t_all t_np0 t_so t_laters t_waiting t_meanwhile t_goal t_atNext t_steps t_due (upd w_met_2 b2_1.toNatClampNeg (0 : Int32)) t_mbs t_reach t_ring t_core t_live) (by decide +kernel) rfl (g_and (g_inb_in h6) g_nil) ?_
            refine g_loc (L2 := [(0, .ref 0), (1, .int a1), (2, .int (b2_1 + (1 : Int32)))]) [1, 2, 0] rfl ?_
            exact ih _ _ hs
    exact hlT_makeDue_l1 N _ _ hs
abbrev rm_T_behind : Room := { frames := 0, cells := 0, slots := 0, locals := 0 }
def F_T_behind (t_steps : Nat → Nat → Int64) (a1 : Int32) : Option Int64 := (g_chk (g_inb a1 64) (g_chk (g_inb a1 64) (g_chk (g_inb a1 64) (some ((((t_steps 0) a1.toNatClampNeg) ||| ((t_steps 1) a1.toNatClampNeg)) ||| ((t_steps 2) a1.toNatClampNeg))))))
set_option maxRecDepth 100000 in
theorem ct_T_behind (d_label : Nat → Int32) (d_tg : Nat → Nat → Int32) (d_places : Int32) (t_guesses : Int32) (t_nodes : Int32) (t_all : Int64) (t_np0 : Int64) (t_so : Nat → Int64) (t_laters : Int32) (t_waiting : Nat → Int64) (t_meanwhile : Nat → Int64) (t_goal : Nat → Int64) (t_atNext : Nat → Int32) (t_steps : Nat → Nat → Int64) (t_due : Int32) (t_met : Nat → Int32) (t_mbs : Nat → Int32) (t_reach : Nat → Int64) (t_ring : Nat → Int64) (t_core : Int64) (t_live : Int64) (a1 : Int32) : g_F y_T_behind c_T_behind 2 (some .long) rm_T_behind [.ref 0, .int a1] (HT d_label d_tg d_places t_guesses t_nodes t_all t_np0 t_so t_laters t_waiting t_meanwhile t_goal t_atNext t_steps t_due t_met t_mbs t_reach t_ring t_core t_live) (F_T_behind t_steps a1) (fun o => some (.long o)) (fun _ => (HT d_label d_tg d_places t_guesses t_nodes t_all t_np0 t_so t_laters t_waiting t_meanwhile t_goal t_atNext t_steps t_due t_met t_mbs t_reach t_ring t_core t_live)) := by
  intro l P hs
  refine g_ofG 4 (by decide +kernel) rfl (Nat.le_of_ble_eq_true rfl) (fun X hX => ?_)
  unfold F_T_behind at hs
  refine g_loc (L2 := [(0, .ref 0), (1, .int a1)]) [0, 1] rfl ?_
  refine g_blk 5 [(.aload_n 0, 0, 0, 0, 0), (.getfield 37, 4, 11, 0, 0), (.iconst 0, 0, 0, 0, 0)] [] [(0, .ref 0), (1, .int a1)] [.int (0 : Int32), .ref 12] (HT d_label d_tg d_places t_guesses t_nodes t_all t_np0 t_so t_laters t_waiting t_meanwhile t_goal t_atNext t_steps t_due t_met t_mbs t_reach t_ring t_core t_live) (by decide +kernel) rfl g_nil ?_
  obtain ⟨h1, hs⟩ := g_sat_c hs
  refine g_blk 13 [(.aaload, 0, 0, 0, 0), (.iload_n 1, 0, 0, 0, 0), (.laload, 0, 0, 0, 0), (.aload_n 0, 0, 0, 0, 0), (.getfield 37, 4, 11, 0, 0), (.iconst 1, 0, 0, 1, 0)] [vp_in (0 : Int32) 3, vp_in a1 64] [(0, .ref 0), (1, .int a1)] [.int (1 : Int32), .ref 12, .long ((t_steps 0) a1.toNatClampNeg)] (HT d_label d_tg d_places t_guesses t_nodes t_all t_np0 t_so t_laters t_waiting t_meanwhile t_goal t_atNext t_steps t_due t_met t_mbs t_reach t_ring t_core t_live) (by decide +kernel) rfl (g_and (g_inb_in (by decide +kernel)) (g_and (g_inb_in h1) g_nil)) ?_
  obtain ⟨h2, hs⟩ := g_sat_c hs
  refine g_blk 22 [(.aaload, 0, 0, 0, 0), (.iload_n 1, 0, 0, 0, 0), (.laload, 0, 0, 0, 0), (.lor, 0, 0, 0, 0), (.aload_n 0, 0, 0, 0, 0), (.getfield 37, 4, 11, 0, 0), (.iconst 2, 0, 0, 2, 0)] [vp_in (1 : Int32) 3, vp_in a1 64] [(0, .ref 0), (1, .int a1)] [.int (2 : Int32), .ref 12, .long (((t_steps 0) a1.toNatClampNeg) ||| ((t_steps 1) a1.toNatClampNeg))] (HT d_label d_tg d_places t_guesses t_nodes t_all t_np0 t_so t_laters t_waiting t_meanwhile t_goal t_atNext t_steps t_due t_met t_mbs t_reach t_ring t_core t_live) (by decide +kernel) rfl (g_and (g_inb_in (by decide +kernel)) (g_and (g_inb_in h2) g_nil)) ?_
  obtain ⟨h3, hs⟩ := g_sat_c hs
  refine g_blk 26 [(.aaload, 0, 0, 0, 0), (.iload_n 1, 0, 0, 0, 0), (.laload, 0, 0, 0, 0), (.lor, 0, 0, 0, 0)] [vp_in (2 : Int32) 3, vp_in a1 64] [(0, .ref 0), (1, .int a1)] [.long ((((t_steps 0) a1.toNatClampNeg) ||| ((t_steps 1) a1.toNatClampNeg)) ||| ((t_steps 2) a1.toNatClampNeg))] (HT d_label d_tg d_places t_guesses t_nodes t_all t_np0 t_so t_laters t_waiting t_meanwhile t_goal t_atNext t_steps t_due t_met t_mbs t_reach t_ring t_core t_live) (by decide +kernel) rfl (g_and (g_inb_in (by decide +kernel)) (g_and (g_inb_in h3) g_nil)) ?_
  have hq := g_sat_s hs
  exact g_lret hX (by decide +kernel) rfl hq
abbrev rm_T_makeReach : Room := { frames := 1, cells := 0, slots := 0, locals := 21 }
def T_makeReach_l1 (t_nodes : Int32) (t_steps : Nat → Nat → Int64) : Nat → Int32 → (Nat → Int64) → Option (Nat → Int64)
  | 0, _, _ => none
  | n + 1, b1_1, w_reach_2 => (if t_nodes ≤ b1_1 then (some w_reach_2) else (if (64 : Int32) ≤ b1_1 then (some w_reach_2) else ((F_T_behind t_steps b1_1).bind fun o6 => (g_chk (g_inb b1_1 64) (T_makeReach_l1 t_nodes t_steps n (b1_1 + (1 : Int32)) (vp_updL w_reach_2 b1_1.toNatClampNeg o6))))))
theorem T_makeReach_l1_s (t_nodes : Int32) (t_steps : Nat → Nat → Int64) (n : Nat) (b1_1 : Int32) (w_reach_2 : Nat → Int64) : T_makeReach_l1 t_nodes t_steps (n + 1) b1_1 w_reach_2 = (if t_nodes ≤ b1_1 then (some w_reach_2) else (if (64 : Int32) ≤ b1_1 then (some w_reach_2) else ((F_T_behind t_steps b1_1).bind fun o6 => (g_chk (g_inb b1_1 64) (T_makeReach_l1 t_nodes t_steps n (b1_1 + (1 : Int32)) (vp_updL w_reach_2 b1_1.toNatClampNeg o6)))))) := rfl
def T_makeReach_l3 (w_reach_9 : Nat → Int64) (b1_8 : Int32) (t_nodes : Int32) : Nat → Int32 → (Nat → Int64) → Option (Nat → Int64)
  | 0, _, _ => none
  | n + 1, b6_14, w_reach_15 => (if (lg_cmp (w_reach_9 b1_8.toNatClampNeg) (0 : Int64)) = 0 then (some w_reach_15) else (if t_nodes ≤ b6_14 then (some w_reach_15) else (if (64 : Int32) ≤ b6_14 then (some w_reach_15) else (g_chk (g_inb b6_14 64) ((if (lg_cmp ((w_reach_15 b6_14.toNatClampNeg) &&& (g_lshl (1 : Int64) b1_8)) (0 : Int64)) = 0 then (some w_reach_15) else (g_chk (g_inb b6_14 64) (g_chk (g_inb b6_14 64) (some (vp_updL w_reach_15 b6_14.toNatClampNeg ((w_reach_15 b6_14.toNatClampNeg) ||| (w_reach_9 b1_8.toNatClampNeg))))))).bind fun o24 => (T_makeReach_l3 w_reach_9 b1_8 t_nodes n (b6_14 + (1 : Int32)) o24))))))
theorem T_makeReach_l3_s (w_reach_9 : Nat → Int64) (b1_8 : Int32) (t_nodes : Int32) (n : Nat) (b6_14 : Int32) (w_reach_15 : Nat → Int64) : T_makeReach_l3 w_reach_9 b1_8 t_nodes (n + 1) b6_14 w_reach_15 = (if (lg_cmp (w_reach_9 b1_8.toNatClampNeg) (0 : Int64)) = 0 then (some w_reach_15) else (if t_nodes ≤ b6_14 then (some w_reach_15) else (if (64 : Int32) ≤ b6_14 then (some w_reach_15) else (g_chk (g_inb b6_14 64) ((if (lg_cmp ((w_reach_15 b6_14.toNatClampNeg) &&& (g_lshl (1 : Int64) b1_8)) (0 : Int64)) = 0 then (some w_reach_15) else (g_chk (g_inb b6_14 64) (g_chk (g_inb b6_14 64) (some (vp_updL w_reach_15 b6_14.toNatClampNeg ((w_reach_15 b6_14.toNatClampNeg) ||| (w_reach_9 b1_8.toNatClampNeg))))))).bind fun o24 => (T_makeReach_l3 w_reach_9 b1_8 t_nodes n (b6_14 + (1 : Int32)) o24)))))) := rfl
def T_makeReach_l2 (N : Nat) (t_nodes : Int32) : Nat → Int32 → (Nat → Int64) → Option (Nat → Int64)
  | 0, _, _ => none
  | n + 1, b1_8, w_reach_9 => (if t_nodes ≤ b1_8 then (some w_reach_9) else (if (64 : Int32) ≤ b1_8 then (some w_reach_9) else (g_chk (g_inb b1_8 64) ((T_makeReach_l3 w_reach_9 b1_8 t_nodes N (0 : Int32) w_reach_9).bind fun o16 => (T_makeReach_l2 N t_nodes n (b1_8 + (1 : Int32)) o16)))))
theorem T_makeReach_l2_s (N : Nat) (t_nodes : Int32) (n : Nat) (b1_8 : Int32) (w_reach_9 : Nat → Int64) : T_makeReach_l2 N t_nodes (n + 1) b1_8 w_reach_9 = (if t_nodes ≤ b1_8 then (some w_reach_9) else (if (64 : Int32) ≤ b1_8 then (some w_reach_9) else (g_chk (g_inb b1_8 64) ((T_makeReach_l3 w_reach_9 b1_8 t_nodes N (0 : Int32) w_reach_9).bind fun o16 => (T_makeReach_l2 N t_nodes n (b1_8 + (1 : Int32)) o16))))) := rfl
def F_T_makeReach (N : Nat) (t_nodes : Int32) (t_steps : Nat → Nat → Int64) (t_reach : Nat → Int64) : Option (Nat → Int64) := ((T_makeReach_l1 t_nodes t_steps N (0 : Int32) t_reach).bind fun o3 => ((T_makeReach_l2 N t_nodes N (0 : Int32) o3).bind fun o10 => (some o10)))
set_option maxRecDepth 100000 in
theorem ct_T_makeReach (N : Nat) (d_label : Nat → Int32) (d_tg : Nat → Nat → Int32) (d_places : Int32) (t_guesses : Int32) (t_nodes : Int32) (t_all : Int64) (t_np0 : Int64) (t_so : Nat → Int64) (t_laters : Int32) (t_waiting : Nat → Int64) (t_meanwhile : Nat → Int64) (t_goal : Nat → Int64) (t_atNext : Nat → Int32) (t_steps : Nat → Nat → Int64) (t_due : Int32) (t_met : Nat → Int32) (t_mbs : Nat → Int32) (t_reach : Nat → Int64) (t_ring : Nat → Int64) (t_core : Int64) (t_live : Int64) : g_F y_T_makeReach c_T_makeReach 7 none rm_T_makeReach [.ref 0] (HT d_label d_tg d_places t_guesses t_nodes t_all t_np0 t_so t_laters t_waiting t_meanwhile t_goal t_atNext t_steps t_due t_met t_mbs t_reach t_ring t_core t_live) (F_T_makeReach N t_nodes t_steps t_reach) (fun o => none) (fun o => (HT d_label d_tg d_places t_guesses t_nodes t_all t_np0 t_so t_laters t_waiting t_meanwhile t_goal t_atNext t_steps t_due t_met t_mbs o t_ring t_core t_live)) := by
  intro l P hs
  refine g_ofG 4 (by decide +kernel) rfl (Nat.le_of_ble_eq_true rfl) (fun X hX => ?_)
  unfold F_T_makeReach at hs
  refine g_loc (L2 := [(0, .ref 0)]) [0] rfl ?_
  refine g_blk 2 [(.iconst 0, 0, 0, 0, 0), (.istore_n 1, 0, 0, 0, 0)] [] [(1, .int (0 : Int32)), (0, .ref 0)] [] (HT d_label d_tg d_places t_guesses t_nodes t_all t_np0 t_so t_laters t_waiting t_meanwhile t_goal t_atNext t_steps t_due t_met t_mbs t_reach t_ring t_core t_live) (by decide +kernel) rfl g_nil ?_
  refine g_loc (L2 := [(0, .ref 0), (1, .int (0 : Int32))]) [1, 0] rfl ?_
  refine g_join (fun (o3 : Nat → Int64) => g_G X rm_T_makeReach c_T_makeReach 7 4 none 33 [(0, .ref 0)] [] (HT d_label d_tg d_places t_guesses t_nodes t_all t_np0 t_so t_laters t_waiting t_meanwhile t_goal t_atNext t_steps t_due t_met t_mbs o3 t_ring t_core t_live)) hs (fun o3 hs => ?_) (fun hs => ?_)
  · refine g_blk 35 [(.iconst 0, 0, 0, 0, 0), (.istore_n 1, 0, 0, 0, 0)] [] [(1, .int (0 : Int32)), (0, .ref 0)] [] (HT d_label d_tg d_places t_guesses t_nodes t_all t_np0 t_so t_laters t_waiting t_meanwhile t_goal t_atNext t_steps t_due t_met t_mbs o3 t_ring t_core t_live) (by decide +kernel) rfl g_nil ?_
    refine g_loc (L2 := [(0, .ref 0), (1, .int (0 : Int32))]) [1, 0] rfl ?_
    refine g_join (fun (o10 : Nat → Int64) => g_G X rm_T_makeReach c_T_makeReach 7 4 none 124 [] [] (HT d_label d_tg d_places t_guesses t_nodes t_all t_np0 t_so t_laters t_waiting t_meanwhile t_goal t_atNext t_steps t_due t_met t_mbs o10 t_ring t_core t_live)) hs (fun o10 hs => ?_) (fun hs => ?_)
    · have hq := g_sat_s hs
      exact g_vret hX (by decide +kernel) rfl hq
    · have hlT_makeReach_l2 : ∀ (n : Nat) (b1_8 : Int32) (w_reach_9 : Nat → Int64), g_sat (T_makeReach_l2 N t_nodes n b1_8 w_reach_9) (fun (o10 : Nat → Int64) => g_G X rm_T_makeReach c_T_makeReach 7 4 none 124 [] [] (HT d_label d_tg d_places t_guesses t_nodes t_all t_np0 t_so t_laters t_waiting t_meanwhile t_goal t_atNext t_steps t_due t_met t_mbs o10 t_ring t_core t_live)) → g_G X rm_T_makeReach c_T_makeReach 7 4 none 35 [(0, .ref 0), (1, .int b1_8)] [] (HT d_label d_tg d_places t_guesses t_nodes t_all t_np0 t_so t_laters t_waiting t_meanwhile t_goal t_atNext t_steps t_due t_met t_mbs w_reach_9 t_ring t_core t_live) := by
        intro n
        induction n with
        | zero =>
          intro b1_8 w_reach_9 hs
          obtain ⟨_, h0, _⟩ := hs
          cases h0
        | succ n ih =>
          intro b1_8 w_reach_9 hs
          rw [T_makeReach_l2_s] at hs
          refine g_blk 40 [(.iload_n 1, 0, 0, 0, 0), (.aload_n 0, 0, 0, 0, 0), (.getfield 69, 4, 2, 0, 0)] [] [(0, .ref 0), (1, .int b1_8)] [.int t_nodes, .int b1_8] (HT d_label d_tg d_places t_guesses t_nodes t_all t_np0 t_so t_laters t_waiting t_meanwhile t_goal t_atNext t_steps t_due t_met t_mbs w_reach_9 t_ring t_core t_live) (by decide +kernel) rfl g_nil ?_
          refine g_br 124 (.if_icmp .ge 84) (t_nodes ≤ b1_8) [] (by decide +kernel) rfl (fun c11 => ?_) (fun c11 => ?_)
          · have hs := g_sat_t hs c11
            refine g_loc (L2 := []) [] rfl ?_
            have hq := g_sat_s hs
            exact hq
          · have hs := g_sat_f hs c11
            refine g_blk 46 [(.iload_n 1, 0, 0, 0, 0), (.bipush 64, 0, 0, 64, 0)] [] [(0, .ref 0), (1, .int b1_8)] [.int (64 : Int32), .int b1_8] (HT d_label d_tg d_places t_guesses t_nodes t_all t_np0 t_so t_laters t_waiting t_meanwhile t_goal t_atNext t_steps t_due t_met t_mbs w_reach_9 t_ring t_core t_live) (by decide +kernel) rfl g_nil ?_
            refine g_br 124 (.if_icmp .ge 78) ((64 : Int32) ≤ b1_8) [] (by decide +kernel) rfl (fun c12 => ?_) (fun c12 => ?_)
            · have hs := g_sat_t hs c12
              refine g_loc (L2 := []) [] rfl ?_
              have hq := g_sat_s hs
              exact hq
            · have hs := g_sat_f hs c12
              obtain ⟨h13, hs⟩ := g_sat_c hs
              refine g_blk 64 [(.aload_n 0, 0, 0, 0, 0), (.getfield 47, 4, 15, 0, 0), (.iload_n 1, 0, 0, 0, 0), (.laload, 0, 0, 0, 0), (.lstore_n 2, 0, 0, 0, 0), (.lconst 1, 0, 0, 0, 1), (.iload_n 1, 0, 0, 0, 0), (.lshl, 0, 0, 0, 0), (.lstore 4, 0, 0, 0, 0), (.iconst 0, 0, 0, 0, 0), (.istore 6, 0, 0, 0, 0)] [vp_in b1_8 64] [(6, .int (0 : Int32)), (4, .long (g_lshl (1 : Int64) b1_8)), (2, .long (w_reach_9 b1_8.toNatClampNeg)), (0, .ref 0), (1, .int b1_8)] [] (HT d_label d_tg d_places t_guesses t_nodes t_all t_np0 t_so t_laters t_waiting t_meanwhile t_goal t_atNext t_steps t_due t_met t_mbs w_reach_9 t_ring t_core t_live) (by decide +kernel) rfl (g_and (g_inb_in h13) g_nil) ?_
              refine g_loc (L2 := [(0, .ref 0), (1, .int b1_8), (2, .long (w_reach_9 b1_8.toNatClampNeg)), (4, .long (g_lshl (1 : Int64) b1_8)), (6, .int (0 : Int32))]) [3, 4, 2, 1, 0] rfl ?_
              refine g_join (fun (o16 : Nat → Int64) => g_G X rm_T_makeReach c_T_makeReach 7 4 none 118 [(0, .ref 0), (1, .int b1_8)] [] (HT d_label d_tg d_places t_guesses t_nodes t_all t_np0 t_so t_laters t_waiting t_meanwhile t_goal t_atNext t_steps t_due t_met t_mbs o16 t_ring t_core t_live)) hs (fun o16 hs => ?_) (fun hs => ?_)
              · refine g_blk 35 [(.iinc 1 1, 0, 0, 1, 0), (.goto (-86), 0, 0, 0, 0)] [] [(1, .int (b1_8 + (1 : Int32))), (0, .ref 0)] [] (HT d_label d_tg d_places t_guesses t_nodes t_all t_np0 t_so t_laters t_waiting t_meanwhile t_goal t_atNext t_steps t_due t_met t_mbs o16 t_ring t_core t_live) (by decide +kernel) rfl g_nil ?_
                refine g_loc (L2 := [(0, .ref 0), (1, .int (b1_8 + (1 : Int32)))]) [1, 0] rfl ?_
                exact ih _ _ hs
              · have hlT_makeReach_l3 : ∀ (n : Nat) (b6_14 : Int32) (w_reach_15 : Nat → Int64), g_sat (T_makeReach_l3 w_reach_9 b1_8 t_nodes n b6_14 w_reach_15) (fun (o16 : Nat → Int64) => g_G X rm_T_makeReach c_T_makeReach 7 4 none 118 [(0, .ref 0), (1, .int b1_8)] [] (HT d_label d_tg d_places t_guesses t_nodes t_all t_np0 t_so t_laters t_waiting t_meanwhile t_goal t_atNext t_steps t_due t_met t_mbs o16 t_ring t_core t_live)) → g_G X rm_T_makeReach c_T_makeReach 7 4 none 64 [(0, .ref 0), (1, .int b1_8), (2, .long (w_reach_9 b1_8.toNatClampNeg)), (4, .long (g_lshl (1 : Int64) b1_8)), (6, .int b6_14)] [] (HT d_label d_tg d_places t_guesses t_nodes t_all t_np0 t_so t_laters t_waiting t_meanwhile t_goal t_atNext t_steps t_due t_met t_mbs w_reach_15 t_ring t_core t_live) := by
                  intro n
                  induction n with
                  | zero =>
                    intro b6_14 w_reach_15 hs
                    obtain ⟨_, h0, _⟩ := hs
                    cases h0
                  | succ n ih =>
                    intro b6_14 w_reach_15 hs
                    rw [T_makeReach_l3_s] at hs
                    refine g_blk 67 [(.lload_n 2, 0, 0, 0, 0), (.lconst 0, 0, 0, 0, 0), (.lcmp, 0, 0, 0, 0)] [] [(0, .ref 0), (1, .int b1_8), (2, .long (w_reach_9 b1_8.toNatClampNeg)), (4, .long (g_lshl (1 : Int64) b1_8)), (6, .int b6_14)] [.int (lg_cmp (w_reach_9 b1_8.toNatClampNeg) (0 : Int64))] (HT d_label d_tg d_places t_guesses t_nodes t_all t_np0 t_so t_laters t_waiting t_meanwhile t_goal t_atNext t_steps t_due t_met t_mbs w_reach_15 t_ring t_core t_live) (by decide +kernel) rfl g_nil ?_
                    refine g_br 118 (.ifCond .eq 51) ((lg_cmp (w_reach_9 b1_8.toNatClampNeg) (0 : Int64)) = 0) [] (by decide +kernel) rfl (fun c17 => ?_) (fun c17 => ?_)
                    · have hs := g_sat_t hs c17
                      refine g_loc (L2 := [(0, .ref 0), (1, .int b1_8)]) [0, 1] rfl ?_
                      have hq := g_sat_s hs
                      exact hq
                    · have hs := g_sat_f hs c17
                      refine g_blk 76 [(.iload 6, 0, 0, 0, 0), (.aload_n 0, 0, 0, 0, 0), (.getfield 69, 4, 2, 0, 0)] [] [(0, .ref 0), (1, .int b1_8), (2, .long (w_reach_9 b1_8.toNatClampNeg)), (4, .long (g_lshl (1 : Int64) b1_8)), (6, .int b6_14)] [.int t_nodes, .int b6_14] (HT d_label d_tg d_places t_guesses t_nodes t_all t_np0 t_so t_laters t_waiting t_meanwhile t_goal t_atNext t_steps t_due t_met t_mbs w_reach_15 t_ring t_core t_live) (by decide +kernel) rfl g_nil ?_
                      refine g_br 118 (.if_icmp .ge 42) (t_nodes ≤ b6_14) [] (by decide +kernel) rfl (fun c18 => ?_) (fun c18 => ?_)
                      · have hs := g_sat_t hs c18
                        refine g_loc (L2 := [(0, .ref 0), (1, .int b1_8)]) [0, 1] rfl ?_
                        have hq := g_sat_s hs
                        exact hq
                      · have hs := g_sat_f hs c18
                        refine g_blk 83 [(.iload 6, 0, 0, 0, 0), (.bipush 64, 0, 0, 64, 0)] [] [(0, .ref 0), (1, .int b1_8), (2, .long (w_reach_9 b1_8.toNatClampNeg)), (4, .long (g_lshl (1 : Int64) b1_8)), (6, .int b6_14)] [.int (64 : Int32), .int b6_14] (HT d_label d_tg d_places t_guesses t_nodes t_all t_np0 t_so t_laters t_waiting t_meanwhile t_goal t_atNext t_steps t_due t_met t_mbs w_reach_15 t_ring t_core t_live) (by decide +kernel) rfl g_nil ?_
                        refine g_br 118 (.if_icmp .ge 35) ((64 : Int32) ≤ b6_14) [] (by decide +kernel) rfl (fun c19 => ?_) (fun c19 => ?_)
                        · have hs := g_sat_t hs c19
                          refine g_loc (L2 := [(0, .ref 0), (1, .int b1_8)]) [0, 1] rfl ?_
                          have hq := g_sat_s hs
                          exact hq
                        · have hs := g_sat_f hs c19
                          obtain ⟨h20, hs⟩ := g_sat_c hs
                          refine g_blk 98 [(.aload_n 0, 0, 0, 0, 0), (.getfield 47, 4, 15, 0, 0), (.iload 6, 0, 0, 0, 0), (.laload, 0, 0, 0, 0), (.lload 4, 0, 0, 0, 0), (.land, 0, 0, 0, 0), (.lconst 0, 0, 0, 0, 0), (.lcmp, 0, 0, 0, 0)] [vp_in b6_14 64] [(0, .ref 0), (1, .int b1_8), (2, .long (w_reach_9 b1_8.toNatClampNeg)), (4, .long (g_lshl (1 : Int64) b1_8)), (6, .int b6_14)] [.int (lg_cmp ((w_reach_15 b6_14.toNatClampNeg) &&& (g_lshl (1 : Int64) b1_8)) (0 : Int64))] (HT d_label d_tg d_places t_guesses t_nodes t_all t_np0 t_so t_laters t_waiting t_meanwhile t_goal t_atNext t_steps t_due t_met t_mbs w_reach_15 t_ring t_core t_live) (by decide +kernel) rfl (g_and (g_inb_in h20) g_nil) ?_
                          refine g_join (fun (o24 : Nat → Int64) => g_G X rm_T_makeReach c_T_makeReach 7 4 none 112 [(0, .ref 0), (1, .int b1_8), (2, .long (w_reach_9 b1_8.toNatClampNeg)), (4, .long (g_lshl (1 : Int64) b1_8)), (6, .int b6_14)] [] (HT d_label d_tg d_places t_guesses t_nodes t_all t_np0 t_so t_laters t_waiting t_meanwhile t_goal t_atNext t_steps t_due t_met t_mbs o24 t_ring t_core t_live)) hs (fun o24 hs => ?_) (fun hs => ?_)
                          · refine g_blk 64 [(.iinc 6 1, 0, 0, 1, 0), (.goto (-51), 0, 0, 0, 0)] [] [(6, .int (b6_14 + (1 : Int32))), (0, .ref 0), (1, .int b1_8), (2, .long (w_reach_9 b1_8.toNatClampNeg)), (4, .long (g_lshl (1 : Int64) b1_8))] [] (HT d_label d_tg d_places t_guesses t_nodes t_all t_np0 t_so t_laters t_waiting t_meanwhile t_goal t_atNext t_steps t_due t_met t_mbs o24 t_ring t_core t_live) (by decide +kernel) rfl g_nil ?_
                            refine g_loc (L2 := [(0, .ref 0), (1, .int b1_8), (2, .long (w_reach_9 b1_8.toNatClampNeg)), (4, .long (g_lshl (1 : Int64) b1_8)), (6, .int (b6_14 + (1 : Int32)))]) [1, 2, 3, 4, 0] rfl ?_
                            exact ih _ _ hs
                          · refine g_br 112 (.ifCond .eq 14) ((lg_cmp ((w_reach_15 b6_14.toNatClampNeg) &&& (g_lshl (1 : Int64) b1_8)) (0 : Int64)) = 0) [] (by decide +kernel) rfl (fun c21 => ?_) (fun c21 => ?_)
                            · have hs := g_sat_t hs c21
                              have hq := g_sat_s hs
                              exact hq
                            · have hs := g_sat_f hs c21
                              obtain ⟨h25, hs⟩ := g_sat_c hs
                              obtain ⟨h26, hs⟩ := g_sat_c hs
                              refine g_blk 112 [(.aload_n 0, 0, 0, 0, 0), (.getfield 47, 4, 15, 0, 0), (.iload 6, 0, 0, 0, 0), (.dup2, 0, 0, 0, 0), (.laload, 0, 0, 0, 0), (.lload_n 2, 0, 0, 0, 0), (.lor, 0, 0, 0, 0), (.lastore, 0, 0, 0, 0)] [vp_in b6_14 64, vp_in b6_14 64] [(0, .ref 0), (1, .int b1_8), (2, .long (w_reach_9 b1_8.toNatClampNeg)), (4, .long (g_lshl (1 : Int64) b1_8)), (6, .int b6_14)] [] (HT d_label d_tg d_places t_guesses t_nodes t_all t_np0 t_so t_laters t_waiting t_meanwhile t_goal t_atNext t_steps t_due t_met t_mbs (vp_updL w_reach_15 b6_14.toNatClampNeg ((w_reach_15 b6_14.toNatClampNeg) ||| (w_reach_9 b1_8.toNatClampNeg))) t_ring t_core t_live) (by decide +kernel) rfl (g_and (g_inb_in h25) (g_and (g_inb_in h26) g_nil)) ?_
                              have hq := g_sat_s hs
                              exact hq
                exact hlT_makeReach_l3 N _ _ hs
      exact hlT_makeReach_l2 N _ _ hs
  · have hlT_makeReach_l1 : ∀ (n : Nat) (b1_1 : Int32) (w_reach_2 : Nat → Int64), g_sat (T_makeReach_l1 t_nodes t_steps n b1_1 w_reach_2) (fun (o3 : Nat → Int64) => g_G X rm_T_makeReach c_T_makeReach 7 4 none 33 [(0, .ref 0)] [] (HT d_label d_tg d_places t_guesses t_nodes t_all t_np0 t_so t_laters t_waiting t_meanwhile t_goal t_atNext t_steps t_due t_met t_mbs o3 t_ring t_core t_live)) → g_G X rm_T_makeReach c_T_makeReach 7 4 none 2 [(0, .ref 0), (1, .int b1_1)] [] (HT d_label d_tg d_places t_guesses t_nodes t_all t_np0 t_so t_laters t_waiting t_meanwhile t_goal t_atNext t_steps t_due t_met t_mbs w_reach_2 t_ring t_core t_live) := by
      intro n
      induction n with
      | zero =>
        intro b1_1 w_reach_2 hs
        obtain ⟨_, h0, _⟩ := hs
        cases h0
      | succ n ih =>
        intro b1_1 w_reach_2 hs
        rw [T_makeReach_l1_s] at hs
        refine g_blk 7 [(.iload_n 1, 0, 0, 0, 0), (.aload_n 0, 0, 0, 0, 0), (.getfield 69, 4, 2, 0, 0)] [] [(0, .ref 0), (1, .int b1_1)] [.int t_nodes, .int b1_1] (HT d_label d_tg d_places t_guesses t_nodes t_all t_np0 t_so t_laters t_waiting t_meanwhile t_goal t_atNext t_steps t_due t_met t_mbs w_reach_2 t_ring t_core t_live) (by decide +kernel) rfl g_nil ?_
        refine g_br 33 (.if_icmp .ge 26) (t_nodes ≤ b1_1) [] (by decide +kernel) rfl (fun c4 => ?_) (fun c4 => ?_)
        · have hs := g_sat_t hs c4
          refine g_loc (L2 := [(0, .ref 0)]) [0] rfl ?_
          have hq := g_sat_s hs
          exact hq
        · have hs := g_sat_f hs c4
          refine g_blk 13 [(.iload_n 1, 0, 0, 0, 0), (.bipush 64, 0, 0, 64, 0)] [] [(0, .ref 0), (1, .int b1_1)] [.int (64 : Int32), .int b1_1] (HT d_label d_tg d_places t_guesses t_nodes t_all t_np0 t_so t_laters t_waiting t_meanwhile t_goal t_atNext t_steps t_due t_met t_mbs w_reach_2 t_ring t_core t_live) (by decide +kernel) rfl g_nil ?_
          refine g_br 33 (.if_icmp .ge 20) ((64 : Int32) ≤ b1_1) [] (by decide +kernel) rfl (fun c5 => ?_) (fun c5 => ?_)
          · have hs := g_sat_t hs c5
            refine g_loc (L2 := [(0, .ref 0)]) [0] rfl ?_
            have hq := g_sat_s hs
            exact hq
          · have hs := g_sat_f hs c5
            refine g_blk 23 [(.aload_n 0, 0, 0, 0, 0), (.getfield 47, 4, 15, 0, 0), (.iload_n 1, 0, 0, 0, 0), (.aload_n 0, 0, 0, 0, 0), (.iload_n 1, 0, 0, 0, 0)] [] [(0, .ref 0), (1, .int b1_1)] [.int b1_1, .ref 0, .int b1_1, .ref 18] (HT d_label d_tg d_places t_guesses t_nodes t_all t_np0 t_so t_laters t_waiting t_meanwhile t_goal t_atNext t_steps t_due t_met t_mbs w_reach_2 t_ring t_core t_live) (by decide +kernel) rfl g_nil ?_
            refine g_fM (ct_T_behind d_label d_tg d_places t_guesses t_nodes t_all t_np0 t_so t_laters t_waiting t_meanwhile t_goal t_atNext t_steps t_due t_met t_mbs w_reach_2 t_ring t_core t_live b1_1) 161 true 1 lk_4_161 (by decide +kernel) rfl ⟨rfl, rfl, by decide, by decide⟩ [.int b1_1, .ref 18] rfl (Nat.le_of_ble_eq_true rfl) (fun _ => ⟨0, 4, _, rfl, rfl, by decide, rfl⟩) hs (fun o6 hs => ?_)
            obtain ⟨h7, hs⟩ := g_sat_c hs
            refine g_blk 2 [(.lastore, 0, 0, 0, 0), (.iinc 1 1, 0, 0, 1, 0), (.goto (-28), 0, 0, 0, 0)] [vp_in b1_1 64] [(1, .int (b1_1 + (1 : Int32))), (0, .ref 0)] [] (HT d_label d_tg d_places t_guesses t_nodes t_all t_np0 t_so t_laters t_waiting t_meanwhile t_goal t_atNext t_steps t_due t_met t_mbs (vp_updL w_reach_2 b1_1.toNatClampNeg o6) t_ring t_core t_live) (by decide +kernel) rfl (g_and (g_inb_in h7) g_nil) ?_
            refine g_loc (L2 := [(0, .ref 0), (1, .int (b1_1 + (1 : Int32)))]) [1, 0] rfl ?_
            exact ih _ _ hs
    exact hlT_makeReach_l1 N _ _ hs
abbrev rm_T_ringOf : Room := { frames := 1, cells := 0, slots := 0, locals := 22 }
def T_ringOf_l1 (t_nodes : Int32) (a1 : Int32) (t_reach : Nat → Int64) : Nat → Int64 → Int32 → Option Int64
  | 0, _, _ => none
  | n + 1, b2_1, b4_2 => (if t_nodes ≤ b4_2 then (some b2_1) else (if (64 : Int32) ≤ b4_2 then (some b2_1) else (g_chk (g_inb a1 64) ((if (F_T_has (t_reach a1.toNatClampNeg) b4_2) = 0 then (some b2_1) else (g_chk (g_inb b4_2 64) (if (F_T_has (t_reach b4_2.toNatClampNeg) a1) = 0 then (some b2_1) else (some (b2_1 ||| (g_lshl (1 : Int64) b4_2)))))).bind fun o9 => (T_ringOf_l1 t_nodes a1 t_reach n o9 (b4_2 + (1 : Int32)))))))
theorem T_ringOf_l1_s (t_nodes : Int32) (a1 : Int32) (t_reach : Nat → Int64) (n : Nat) (b2_1 : Int64) (b4_2 : Int32) : T_ringOf_l1 t_nodes a1 t_reach (n + 1) b2_1 b4_2 = (if t_nodes ≤ b4_2 then (some b2_1) else (if (64 : Int32) ≤ b4_2 then (some b2_1) else (g_chk (g_inb a1 64) ((if (F_T_has (t_reach a1.toNatClampNeg) b4_2) = 0 then (some b2_1) else (g_chk (g_inb b4_2 64) (if (F_T_has (t_reach b4_2.toNatClampNeg) a1) = 0 then (some b2_1) else (some (b2_1 ||| (g_lshl (1 : Int64) b4_2)))))).bind fun o9 => (T_ringOf_l1 t_nodes a1 t_reach n o9 (b4_2 + (1 : Int32))))))) := rfl
def T_ringOf_l2 (t_nodes : Int32) (o3 : Int64) : Nat → Int32 → (Nat → Int64) → Option (Nat → Int64)
  | 0, _, _ => none
  | n + 1, b4_12, w_ring_13 => (if t_nodes ≤ b4_12 then (some w_ring_13) else (if (64 : Int32) ≤ b4_12 then (some w_ring_13) else ((if (F_T_has o3 b4_12) = 0 then (some w_ring_13) else (g_chk (g_inb b4_12 64) (some (vp_updL w_ring_13 b4_12.toNatClampNeg o3)))).bind fun o19 => (T_ringOf_l2 t_nodes o3 n (b4_12 + (1 : Int32)) o19))))
theorem T_ringOf_l2_s (t_nodes : Int32) (o3 : Int64) (n : Nat) (b4_12 : Int32) (w_ring_13 : Nat → Int64) : T_ringOf_l2 t_nodes o3 (n + 1) b4_12 w_ring_13 = (if t_nodes ≤ b4_12 then (some w_ring_13) else (if (64 : Int32) ≤ b4_12 then (some w_ring_13) else ((if (F_T_has o3 b4_12) = 0 then (some w_ring_13) else (g_chk (g_inb b4_12 64) (some (vp_updL w_ring_13 b4_12.toNatClampNeg o3)))).bind fun o19 => (T_ringOf_l2 t_nodes o3 n (b4_12 + (1 : Int32)) o19)))) := rfl
def F_T_ringOf (N : Nat) (t_nodes : Int32) (t_reach : Nat → Int64) (t_ring : Nat → Int64) (a1 : Int32) : Option (Int64 × (Nat → Int64)) := ((T_ringOf_l1 t_nodes a1 t_reach N (0 : Int64) a1).bind fun o3 => ((T_ringOf_l2 t_nodes o3 N a1 t_ring).bind fun o14 => (some (o3, o14))))
set_option maxRecDepth 100000 in
theorem ct_T_ringOf (N : Nat) (d_label : Nat → Int32) (d_tg : Nat → Nat → Int32) (d_places : Int32) (t_guesses : Int32) (t_nodes : Int32) (t_all : Int64) (t_np0 : Int64) (t_so : Nat → Int64) (t_laters : Int32) (t_waiting : Nat → Int64) (t_meanwhile : Nat → Int64) (t_goal : Nat → Int64) (t_atNext : Nat → Int32) (t_steps : Nat → Nat → Int64) (t_due : Int32) (t_met : Nat → Int32) (t_mbs : Nat → Int32) (t_reach : Nat → Int64) (t_ring : Nat → Int64) (t_core : Int64) (t_live : Int64) (a1 : Int32) : g_F y_T_ringOf c_T_ringOf 5 (some .long) rm_T_ringOf [.ref 0, .int a1] (HT d_label d_tg d_places t_guesses t_nodes t_all t_np0 t_so t_laters t_waiting t_meanwhile t_goal t_atNext t_steps t_due t_met t_mbs t_reach t_ring t_core t_live) (F_T_ringOf N t_nodes t_reach t_ring a1) (fun o => some (.long o.1)) (fun o => (HT d_label d_tg d_places t_guesses t_nodes t_all t_np0 t_so t_laters t_waiting t_meanwhile t_goal t_atNext t_steps t_due t_met t_mbs t_reach o.2 t_core t_live)) := by
  intro l P hs
  refine g_ofG 4 (by decide +kernel) rfl (Nat.le_of_ble_eq_true rfl) (fun X hX => ?_)
  unfold F_T_ringOf at hs
  refine g_loc (L2 := [(0, .ref 0), (1, .int a1)]) [0, 1] rfl ?_
  refine g_blk 5 [(.lconst 0, 0, 0, 0, 0), (.lstore_n 2, 0, 0, 0, 0), (.iload_n 1, 0, 0, 0, 0), (.istore 4, 0, 0, 0, 0)] [] [(4, .int a1), (2, .long (0 : Int64)), (0, .ref 0), (1, .int a1)] [] (HT d_label d_tg d_places t_guesses t_nodes t_all t_np0 t_so t_laters t_waiting t_meanwhile t_goal t_atNext t_steps t_due t_met t_mbs t_reach t_ring t_core t_live) (by decide +kernel) rfl g_nil ?_
  refine g_loc (L2 := [(0, .ref 0), (1, .int a1), (2, .long (0 : Int64)), (4, .int a1)]) [2, 3, 1, 0] rfl ?_
  refine g_join (fun (o3 : Int64) => g_G X rm_T_ringOf c_T_ringOf 5 4 (some .long) 62 [(0, .ref 0), (1, .int a1), (2, .long o3)] [] (HT d_label d_tg d_places t_guesses t_nodes t_all t_np0 t_so t_laters t_waiting t_meanwhile t_goal t_atNext t_steps t_due t_met t_mbs t_reach t_ring t_core t_live)) hs (fun o3 hs => ?_) (fun hs => ?_)
  · refine g_blk 65 [(.iload_n 1, 0, 0, 0, 0), (.istore 4, 0, 0, 0, 0)] [] [(4, .int a1), (0, .ref 0), (1, .int a1), (2, .long o3)] [] (HT d_label d_tg d_places t_guesses t_nodes t_all t_np0 t_so t_laters t_waiting t_meanwhile t_goal t_atNext t_steps t_due t_met t_mbs t_reach t_ring t_core t_live) (by decide +kernel) rfl g_nil ?_
    refine g_loc (L2 := [(0, .ref 0), (2, .long o3), (4, .int a1)]) [1, 3, 0] rfl ?_
    refine g_join (fun (o14 : Nat → Int64) => g_G X rm_T_ringOf c_T_ringOf 5 4 (some .long) 104 [(2, .long o3)] [] (HT d_label d_tg d_places t_guesses t_nodes t_all t_np0 t_so t_laters t_waiting t_meanwhile t_goal t_atNext t_steps t_due t_met t_mbs t_reach o14 t_core t_live)) hs (fun o14 hs => ?_) (fun hs => ?_)
    · refine g_blk 105 [(.lload_n 2, 0, 0, 0, 0)] [] [(2, .long o3)] [.long o3] (HT d_label d_tg d_places t_guesses t_nodes t_all t_np0 t_so t_laters t_waiting t_meanwhile t_goal t_atNext t_steps t_due t_met t_mbs t_reach o14 t_core t_live) (by decide +kernel) rfl g_nil ?_
      have hq := g_sat_s hs
      exact g_lret hX (by decide +kernel) rfl hq
    · have hlT_ringOf_l2 : ∀ (n : Nat) (b4_12 : Int32) (w_ring_13 : Nat → Int64), g_sat (T_ringOf_l2 t_nodes o3 n b4_12 w_ring_13) (fun (o14 : Nat → Int64) => g_G X rm_T_ringOf c_T_ringOf 5 4 (some .long) 104 [(2, .long o3)] [] (HT d_label d_tg d_places t_guesses t_nodes t_all t_np0 t_so t_laters t_waiting t_meanwhile t_goal t_atNext t_steps t_due t_met t_mbs t_reach o14 t_core t_live)) → g_G X rm_T_ringOf c_T_ringOf 5 4 (some .long) 65 [(0, .ref 0), (2, .long o3), (4, .int b4_12)] [] (HT d_label d_tg d_places t_guesses t_nodes t_all t_np0 t_so t_laters t_waiting t_meanwhile t_goal t_atNext t_steps t_due t_met t_mbs t_reach w_ring_13 t_core t_live) := by
        intro n
        induction n with
        | zero =>
          intro b4_12 w_ring_13 hs
          obtain ⟨_, h0, _⟩ := hs
          cases h0
        | succ n ih =>
          intro b4_12 w_ring_13 hs
          rw [T_ringOf_l2_s] at hs
          refine g_blk 71 [(.iload 4, 0, 0, 0, 0), (.aload_n 0, 0, 0, 0, 0), (.getfield 69, 4, 2, 0, 0)] [] [(0, .ref 0), (2, .long o3), (4, .int b4_12)] [.int t_nodes, .int b4_12] (HT d_label d_tg d_places t_guesses t_nodes t_all t_np0 t_so t_laters t_waiting t_meanwhile t_goal t_atNext t_steps t_due t_met t_mbs t_reach w_ring_13 t_core t_live) (by decide +kernel) rfl g_nil ?_
          refine g_br 104 (.if_icmp .ge 33) (t_nodes ≤ b4_12) [] (by decide +kernel) rfl (fun c15 => ?_) (fun c15 => ?_)
          · have hs := g_sat_t hs c15
            refine g_loc (L2 := [(2, .long o3)]) [1] rfl ?_
            have hq := g_sat_s hs
            exact hq
          · have hs := g_sat_f hs c15
            refine g_blk 78 [(.iload 4, 0, 0, 0, 0), (.bipush 64, 0, 0, 64, 0)] [] [(0, .ref 0), (2, .long o3), (4, .int b4_12)] [.int (64 : Int32), .int b4_12] (HT d_label d_tg d_places t_guesses t_nodes t_all t_np0 t_so t_laters t_waiting t_meanwhile t_goal t_atNext t_steps t_due t_met t_mbs t_reach w_ring_13 t_core t_live) (by decide +kernel) rfl g_nil ?_
            refine g_br 104 (.if_icmp .ge 26) ((64 : Int32) ≤ b4_12) [] (by decide +kernel) rfl (fun c16 => ?_) (fun c16 => ?_)
            · have hs := g_sat_t hs c16
              refine g_loc (L2 := [(2, .long o3)]) [1] rfl ?_
              have hq := g_sat_s hs
              exact hq
            · have hs := g_sat_f hs c16
              refine g_blk 84 [(.lload_n 2, 0, 0, 0, 0), (.iload 4, 0, 0, 0, 0)] [] [(0, .ref 0), (2, .long o3), (4, .int b4_12)] [.int b4_12, .long o3] (HT d_label d_tg d_places t_guesses t_nodes t_all t_np0 t_so t_laters t_waiting t_meanwhile t_goal t_atNext t_steps t_due t_met t_mbs t_reach w_ring_13 t_core t_live) (by decide +kernel) rfl g_nil ?_
              refine g_pN (ct_T_has o3 b4_12) 147 2 lk_4_147 (by decide +kernel) rfl ⟨rfl, rfl, by decide, by decide⟩ [] rfl (Nat.le_of_ble_eq_true rfl) ?_
              refine g_join (fun (o19 : Nat → Int64) => g_G X rm_T_ringOf c_T_ringOf 5 4 (some .long) 98 [(0, .ref 0), (2, .long o3), (4, .int b4_12)] [] (HT d_label d_tg d_places t_guesses t_nodes t_all t_np0 t_so t_laters t_waiting t_meanwhile t_goal t_atNext t_steps t_due t_met t_mbs t_reach o19 t_core t_live)) hs (fun o19 hs => ?_) (fun hs => ?_)
              · refine g_blk 65 [(.iinc 4 1, 0, 0, 1, 0), (.goto (-36), 0, 0, 0, 0)] [] [(4, .int (b4_12 + (1 : Int32))), (0, .ref 0), (2, .long o3)] [] (HT d_label d_tg d_places t_guesses t_nodes t_all t_np0 t_so t_laters t_waiting t_meanwhile t_goal t_atNext t_steps t_due t_met t_mbs t_reach o19 t_core t_live) (by decide +kernel) rfl g_nil ?_
                refine g_loc (L2 := [(0, .ref 0), (2, .long o3), (4, .int (b4_12 + (1 : Int32)))]) [1, 2, 0] rfl ?_
                exact ih _ _ hs
              · refine g_br 98 (.ifCond .eq 11) ((F_T_has o3 b4_12) = 0) [] (by decide +kernel) rfl (fun c17 => ?_) (fun c17 => ?_)
                · have hs := g_sat_t hs c17
                  have hq := g_sat_s hs
                  exact hq
                · have hs := g_sat_f hs c17
                  obtain ⟨h20, hs⟩ := g_sat_c hs
                  refine g_blk 98 [(.aload_n 0, 0, 0, 0, 0), (.getfield 50, 4, 16, 0, 0), (.iload 4, 0, 0, 0, 0), (.lload_n 2, 0, 0, 0, 0), (.lastore, 0, 0, 0, 0)] [vp_in b4_12 64] [(0, .ref 0), (2, .long o3), (4, .int b4_12)] [] (HT d_label d_tg d_places t_guesses t_nodes t_all t_np0 t_so t_laters t_waiting t_meanwhile t_goal t_atNext t_steps t_due t_met t_mbs t_reach (vp_updL w_ring_13 b4_12.toNatClampNeg o3) t_core t_live) (by decide +kernel) rfl (g_and (g_inb_in h20) g_nil) ?_
                  have hq := g_sat_s hs
                  exact hq
      exact hlT_ringOf_l2 N _ _ hs
  · have hlT_ringOf_l1 : ∀ (n : Nat) (b2_1 : Int64) (b4_2 : Int32), g_sat (T_ringOf_l1 t_nodes a1 t_reach n b2_1 b4_2) (fun (o3 : Int64) => g_G X rm_T_ringOf c_T_ringOf 5 4 (some .long) 62 [(0, .ref 0), (1, .int a1), (2, .long o3)] [] (HT d_label d_tg d_places t_guesses t_nodes t_all t_np0 t_so t_laters t_waiting t_meanwhile t_goal t_atNext t_steps t_due t_met t_mbs t_reach t_ring t_core t_live)) → g_G X rm_T_ringOf c_T_ringOf 5 4 (some .long) 5 [(0, .ref 0), (1, .int a1), (2, .long b2_1), (4, .int b4_2)] [] (HT d_label d_tg d_places t_guesses t_nodes t_all t_np0 t_so t_laters t_waiting t_meanwhile t_goal t_atNext t_steps t_due t_met t_mbs t_reach t_ring t_core t_live) := by
      intro n
      induction n with
      | zero =>
        intro b2_1 b4_2 hs
        obtain ⟨_, h0, _⟩ := hs
        cases h0
      | succ n ih =>
        intro b2_1 b4_2 hs
        rw [T_ringOf_l1_s] at hs
        refine g_blk 11 [(.iload 4, 0, 0, 0, 0), (.aload_n 0, 0, 0, 0, 0), (.getfield 69, 4, 2, 0, 0)] [] [(0, .ref 0), (1, .int a1), (2, .long b2_1), (4, .int b4_2)] [.int t_nodes, .int b4_2] (HT d_label d_tg d_places t_guesses t_nodes t_all t_np0 t_so t_laters t_waiting t_meanwhile t_goal t_atNext t_steps t_due t_met t_mbs t_reach t_ring t_core t_live) (by decide +kernel) rfl g_nil ?_
        refine g_br 62 (.if_icmp .ge 51) (t_nodes ≤ b4_2) [] (by decide +kernel) rfl (fun c4 => ?_) (fun c4 => ?_)
        · have hs := g_sat_t hs c4
          refine g_loc (L2 := [(0, .ref 0), (1, .int a1), (2, .long b2_1)]) [0, 1, 2] rfl ?_
          have hq := g_sat_s hs
          exact hq
        · have hs := g_sat_f hs c4
          refine g_blk 18 [(.iload 4, 0, 0, 0, 0), (.bipush 64, 0, 0, 64, 0)] [] [(0, .ref 0), (1, .int a1), (2, .long b2_1), (4, .int b4_2)] [.int (64 : Int32), .int b4_2] (HT d_label d_tg d_places t_guesses t_nodes t_all t_np0 t_so t_laters t_waiting t_meanwhile t_goal t_atNext t_steps t_due t_met t_mbs t_reach t_ring t_core t_live) (by decide +kernel) rfl g_nil ?_
          refine g_br 62 (.if_icmp .ge 44) ((64 : Int32) ≤ b4_2) [] (by decide +kernel) rfl (fun c5 => ?_) (fun c5 => ?_)
          · have hs := g_sat_t hs c5
            refine g_loc (L2 := [(0, .ref 0), (1, .int a1), (2, .long b2_1)]) [0, 1, 2] rfl ?_
            have hq := g_sat_s hs
            exact hq
          · have hs := g_sat_f hs c5
            obtain ⟨h6, hs⟩ := g_sat_c hs
            refine g_blk 29 [(.aload_n 0, 0, 0, 0, 0), (.getfield 47, 4, 15, 0, 0), (.iload_n 1, 0, 0, 0, 0), (.laload, 0, 0, 0, 0), (.iload 4, 0, 0, 0, 0)] [vp_in a1 64] [(0, .ref 0), (1, .int a1), (2, .long b2_1), (4, .int b4_2)] [.int b4_2, .long (t_reach a1.toNatClampNeg)] (HT d_label d_tg d_places t_guesses t_nodes t_all t_np0 t_so t_laters t_waiting t_meanwhile t_goal t_atNext t_steps t_due t_met t_mbs t_reach t_ring t_core t_live) (by decide +kernel) rfl (g_and (g_inb_in h6) g_nil) ?_
            refine g_pN (ct_T_has (t_reach a1.toNatClampNeg) b4_2) 147 2 lk_4_147 (by decide +kernel) rfl ⟨rfl, rfl, by decide, by decide⟩ [] rfl (Nat.le_of_ble_eq_true rfl) ?_
            refine g_join (fun (o9 : Int64) => g_G X rm_T_ringOf c_T_ringOf 5 4 (some .long) 56 [(0, .ref 0), (1, .int a1), (2, .long o9), (4, .int b4_2)] [] (HT d_label d_tg d_places t_guesses t_nodes t_all t_np0 t_so t_laters t_waiting t_meanwhile t_goal t_atNext t_steps t_due t_met t_mbs t_reach t_ring t_core t_live)) hs (fun o9 hs => ?_) (fun hs => ?_)
            · refine g_blk 5 [(.iinc 4 1, 0, 0, 1, 0), (.goto (-54), 0, 0, 0, 0)] [] [(4, .int (b4_2 + (1 : Int32))), (0, .ref 0), (1, .int a1), (2, .long o9)] [] (HT d_label d_tg d_places t_guesses t_nodes t_all t_np0 t_so t_laters t_waiting t_meanwhile t_goal t_atNext t_steps t_due t_met t_mbs t_reach t_ring t_core t_live) (by decide +kernel) rfl g_nil ?_
              refine g_loc (L2 := [(0, .ref 0), (1, .int a1), (2, .long o9), (4, .int (b4_2 + (1 : Int32)))]) [1, 2, 3, 0] rfl ?_
              exact ih _ _ hs
            · refine g_br 56 (.ifCond .eq 24) ((F_T_has (t_reach a1.toNatClampNeg) b4_2) = 0) [] (by decide +kernel) rfl (fun c7 => ?_) (fun c7 => ?_)
              · have hs := g_sat_t hs c7
                have hq := g_sat_s hs
                exact hq
              · have hs := g_sat_f hs c7
                obtain ⟨h10, hs⟩ := g_sat_c hs
                refine g_blk 43 [(.aload_n 0, 0, 0, 0, 0), (.getfield 47, 4, 15, 0, 0), (.iload 4, 0, 0, 0, 0), (.laload, 0, 0, 0, 0), (.iload_n 1, 0, 0, 0, 0)] [vp_in b4_2 64] [(0, .ref 0), (1, .int a1), (2, .long b2_1), (4, .int b4_2)] [.int a1, .long (t_reach b4_2.toNatClampNeg)] (HT d_label d_tg d_places t_guesses t_nodes t_all t_np0 t_so t_laters t_waiting t_meanwhile t_goal t_atNext t_steps t_due t_met t_mbs t_reach t_ring t_core t_live) (by decide +kernel) rfl (g_and (g_inb_in h10) g_nil) ?_
                refine g_pN (ct_T_has (t_reach b4_2.toNatClampNeg) a1) 147 2 lk_4_147 (by decide +kernel) rfl ⟨rfl, rfl, by decide, by decide⟩ [] rfl (Nat.le_of_ble_eq_true rfl) ?_
                refine g_br 56 (.ifCond .eq 10) ((F_T_has (t_reach b4_2.toNatClampNeg) a1) = 0) [] (by decide +kernel) rfl (fun c11 => ?_) (fun c11 => ?_)
                · have hs := g_sat_t hs c11
                  have hq := g_sat_s hs
                  exact hq
                · have hs := g_sat_f hs c11
                  refine g_blk 56 [(.lload_n 2, 0, 0, 0, 0), (.lconst 1, 0, 0, 0, 1), (.iload 4, 0, 0, 0, 0), (.lshl, 0, 0, 0, 0), (.lor, 0, 0, 0, 0), (.lstore_n 2, 0, 0, 0, 0)] [] [(2, .long (b2_1 ||| (g_lshl (1 : Int64) b4_2))), (0, .ref 0), (1, .int a1), (4, .int b4_2)] [] (HT d_label d_tg d_places t_guesses t_nodes t_all t_np0 t_so t_laters t_waiting t_meanwhile t_goal t_atNext t_steps t_due t_met t_mbs t_reach t_ring t_core t_live) (by decide +kernel) rfl g_nil ?_
                  refine g_loc (L2 := [(0, .ref 0), (1, .int a1), (2, .long (b2_1 ||| (g_lshl (1 : Int64) b4_2))), (4, .int b4_2)]) [1, 2, 0, 3] rfl ?_
                  have hq := g_sat_s hs
                  exact hq
    exact hlT_ringOf_l1 N _ _ hs
abbrev rm_T_metIn : Room := { frames := 1, cells := 0, slots := 0, locals := 22 }
def T_metIn_l2 (b4_2 : Int32) (t_steps : Nat → Nat → Int64) (a1 : Int64) (t_mbs : Nat → Int32) : Nat → Int32 → Int32 → Option Int32
  | 0, _, _ => none
  | n + 1, b3_10, b5_11 => (if (3 : Int32) ≤ b5_11 then (some b3_10) else (g_chk (g_inb b5_11 3) (g_chk (g_inb b4_2 64) ((if (lg_cmp (((t_steps b5_11.toNatClampNeg) b4_2.toNatClampNeg) &&& a1) (0 : Int64)) = 0 then (some b3_10) else (g_chk (g_inb b5_11 3) (some (b3_10 ||| (t_mbs b5_11.toNatClampNeg))))).bind fun o18 => (T_metIn_l2 b4_2 t_steps a1 t_mbs n o18 (b5_11 + (1 : Int32)))))))
theorem T_metIn_l2_s (b4_2 : Int32) (t_steps : Nat → Nat → Int64) (a1 : Int64) (t_mbs : Nat → Int32) (n : Nat) (b3_10 : Int32) (b5_11 : Int32) : T_metIn_l2 b4_2 t_steps a1 t_mbs (n + 1) b3_10 b5_11 = (if (3 : Int32) ≤ b5_11 then (some b3_10) else (g_chk (g_inb b5_11 3) (g_chk (g_inb b4_2 64) ((if (lg_cmp (((t_steps b5_11.toNatClampNeg) b4_2.toNatClampNeg) &&& a1) (0 : Int64)) = 0 then (some b3_10) else (g_chk (g_inb b5_11 3) (some (b3_10 ||| (t_mbs b5_11.toNatClampNeg))))).bind fun o18 => (T_metIn_l2 b4_2 t_steps a1 t_mbs n o18 (b5_11 + (1 : Int32))))))) := rfl
def T_metIn_l1 (N : Nat) (t_nodes : Int32) (a1 : Int64) (t_steps : Nat → Nat → Int64) (t_mbs : Nat → Int32) (t_met : Nat → Int32) : Nat → Int32 → Int32 → Option Int32
  | 0, _, _ => none
  | n + 1, b3_1, b4_2 => (if t_nodes ≤ b4_2 then (some b3_1) else (if (64 : Int32) ≤ b4_2 then (some b3_1) else ((if (F_T_has a1 b4_2) = 0 then (some b3_1) else (g_chk (g_inb b4_2 64) ((T_metIn_l2 b4_2 t_steps a1 t_mbs N (b3_1 ||| (t_met b4_2.toNatClampNeg)) (0 : Int32)).bind fun o12 => (some o12)))).bind fun o8 => (T_metIn_l1 N t_nodes a1 t_steps t_mbs t_met n o8 (b4_2 + (1 : Int32))))))
theorem T_metIn_l1_s (N : Nat) (t_nodes : Int32) (a1 : Int64) (t_steps : Nat → Nat → Int64) (t_mbs : Nat → Int32) (t_met : Nat → Int32) (n : Nat) (b3_1 : Int32) (b4_2 : Int32) : T_metIn_l1 N t_nodes a1 t_steps t_mbs t_met (n + 1) b3_1 b4_2 = (if t_nodes ≤ b4_2 then (some b3_1) else (if (64 : Int32) ≤ b4_2 then (some b3_1) else ((if (F_T_has a1 b4_2) = 0 then (some b3_1) else (g_chk (g_inb b4_2 64) ((T_metIn_l2 b4_2 t_steps a1 t_mbs N (b3_1 ||| (t_met b4_2.toNatClampNeg)) (0 : Int32)).bind fun o12 => (some o12)))).bind fun o8 => (T_metIn_l1 N t_nodes a1 t_steps t_mbs t_met n o8 (b4_2 + (1 : Int32)))))) := rfl
def F_T_metIn (N : Nat) (t_nodes : Int32) (t_steps : Nat → Nat → Int64) (t_met : Nat → Int32) (t_mbs : Nat → Int32) (a1 : Int64) : Option Int32 := ((T_metIn_l1 N t_nodes a1 t_steps t_mbs t_met N (0 : Int32) (0 : Int32)).bind fun o3 => (some o3))
set_option maxRecDepth 100000 in
theorem ct_T_metIn (N : Nat) (d_label : Nat → Int32) (d_tg : Nat → Nat → Int32) (d_places : Int32) (t_guesses : Int32) (t_nodes : Int32) (t_all : Int64) (t_np0 : Int64) (t_so : Nat → Int64) (t_laters : Int32) (t_waiting : Nat → Int64) (t_meanwhile : Nat → Int64) (t_goal : Nat → Int64) (t_atNext : Nat → Int32) (t_steps : Nat → Nat → Int64) (t_due : Int32) (t_met : Nat → Int32) (t_mbs : Nat → Int32) (t_reach : Nat → Int64) (t_ring : Nat → Int64) (t_core : Int64) (t_live : Int64) (a1 : Int64) : g_F y_T_metIn c_T_metIn 6 (some .int) rm_T_metIn [.ref 0, .long a1] (HT d_label d_tg d_places t_guesses t_nodes t_all t_np0 t_so t_laters t_waiting t_meanwhile t_goal t_atNext t_steps t_due t_met t_mbs t_reach t_ring t_core t_live) (F_T_metIn N t_nodes t_steps t_met t_mbs a1) (fun o => some (.int o)) (fun _ => (HT d_label d_tg d_places t_guesses t_nodes t_all t_np0 t_so t_laters t_waiting t_meanwhile t_goal t_atNext t_steps t_due t_met t_mbs t_reach t_ring t_core t_live)) := by
  intro l P hs
  refine g_ofG 4 (by decide +kernel) rfl (Nat.le_of_ble_eq_true rfl) (fun X hX => ?_)
  unfold F_T_metIn at hs
  refine g_loc (L2 := [(0, .ref 0), (1, .long a1)]) [0, 1] rfl ?_
  refine g_blk 5 [(.iconst 0, 0, 0, 0, 0), (.istore_n 3, 0, 0, 0, 0), (.iconst 0, 0, 0, 0, 0), (.istore 4, 0, 0, 0, 0)] [] [(4, .int (0 : Int32)), (3, .int (0 : Int32)), (0, .ref 0), (1, .long a1)] [] (HT d_label d_tg d_places t_guesses t_nodes t_all t_np0 t_so t_laters t_waiting t_meanwhile t_goal t_atNext t_steps t_due t_met t_mbs t_reach t_ring t_core t_live) (by decide +kernel) rfl g_nil ?_
  refine g_loc (L2 := [(0, .ref 0), (1, .long a1), (3, .int (0 : Int32)), (4, .int (0 : Int32))]) [2, 3, 1, 0] rfl ?_
  refine g_join (fun (o3 : Int32) => g_G X rm_T_metIn c_T_metIn 6 4 (some .int) 91 [(3, .int o3)] [] (HT d_label d_tg d_places t_guesses t_nodes t_all t_np0 t_so t_laters t_waiting t_meanwhile t_goal t_atNext t_steps t_due t_met t_mbs t_reach t_ring t_core t_live)) hs (fun o3 hs => ?_) (fun hs => ?_)
  · refine g_blk 92 [(.iload_n 3, 0, 0, 0, 0)] [] [(3, .int o3)] [.int o3] (HT d_label d_tg d_places t_guesses t_nodes t_all t_np0 t_so t_laters t_waiting t_meanwhile t_goal t_atNext t_steps t_due t_met t_mbs t_reach t_ring t_core t_live) (by decide +kernel) rfl g_nil ?_
    have hq := g_sat_s hs
    exact g_iret hX (by decide +kernel) rfl hq
  · have hlT_metIn_l1 : ∀ (n : Nat) (b3_1 : Int32) (b4_2 : Int32), g_sat (T_metIn_l1 N t_nodes a1 t_steps t_mbs t_met n b3_1 b4_2) (fun (o3 : Int32) => g_G X rm_T_metIn c_T_metIn 6 4 (some .int) 91 [(3, .int o3)] [] (HT d_label d_tg d_places t_guesses t_nodes t_all t_np0 t_so t_laters t_waiting t_meanwhile t_goal t_atNext t_steps t_due t_met t_mbs t_reach t_ring t_core t_live)) → g_G X rm_T_metIn c_T_metIn 6 4 (some .int) 5 [(0, .ref 0), (1, .long a1), (3, .int b3_1), (4, .int b4_2)] [] (HT d_label d_tg d_places t_guesses t_nodes t_all t_np0 t_so t_laters t_waiting t_meanwhile t_goal t_atNext t_steps t_due t_met t_mbs t_reach t_ring t_core t_live) := by
      intro n
      induction n with
      | zero =>
        intro b3_1 b4_2 hs
        obtain ⟨_, h0, _⟩ := hs
        cases h0
      | succ n ih =>
        intro b3_1 b4_2 hs
        rw [T_metIn_l1_s] at hs
        refine g_blk 11 [(.iload 4, 0, 0, 0, 0), (.aload_n 0, 0, 0, 0, 0), (.getfield 69, 4, 2, 0, 0)] [] [(0, .ref 0), (1, .long a1), (3, .int b3_1), (4, .int b4_2)] [.int t_nodes, .int b4_2] (HT d_label d_tg d_places t_guesses t_nodes t_all t_np0 t_so t_laters t_waiting t_meanwhile t_goal t_atNext t_steps t_due t_met t_mbs t_reach t_ring t_core t_live) (by decide +kernel) rfl g_nil ?_
        refine g_br 91 (.if_icmp .ge 80) (t_nodes ≤ b4_2) [] (by decide +kernel) rfl (fun c4 => ?_) (fun c4 => ?_)
        · have hs := g_sat_t hs c4
          refine g_loc (L2 := [(3, .int b3_1)]) [2] rfl ?_
          have hq := g_sat_s hs
          exact hq
        · have hs := g_sat_f hs c4
          refine g_blk 18 [(.iload 4, 0, 0, 0, 0), (.bipush 64, 0, 0, 64, 0)] [] [(0, .ref 0), (1, .long a1), (3, .int b3_1), (4, .int b4_2)] [.int (64 : Int32), .int b4_2] (HT d_label d_tg d_places t_guesses t_nodes t_all t_np0 t_so t_laters t_waiting t_meanwhile t_goal t_atNext t_steps t_due t_met t_mbs t_reach t_ring t_core t_live) (by decide +kernel) rfl g_nil ?_
          refine g_br 91 (.if_icmp .ge 73) ((64 : Int32) ≤ b4_2) [] (by decide +kernel) rfl (fun c5 => ?_) (fun c5 => ?_)
          · have hs := g_sat_t hs c5
            refine g_loc (L2 := [(3, .int b3_1)]) [2] rfl ?_
            have hq := g_sat_s hs
            exact hq
          · have hs := g_sat_f hs c5
            refine g_blk 24 [(.lload_n 1, 0, 0, 0, 0), (.iload 4, 0, 0, 0, 0)] [] [(0, .ref 0), (1, .long a1), (3, .int b3_1), (4, .int b4_2)] [.int b4_2, .long a1] (HT d_label d_tg d_places t_guesses t_nodes t_all t_np0 t_so t_laters t_waiting t_meanwhile t_goal t_atNext t_steps t_due t_met t_mbs t_reach t_ring t_core t_live) (by decide +kernel) rfl g_nil ?_
            refine g_pN (ct_T_has a1 b4_2) 147 2 lk_4_147 (by decide +kernel) rfl ⟨rfl, rfl, by decide, by decide⟩ [] rfl (Nat.le_of_ble_eq_true rfl) ?_
            refine g_join (fun (o8 : Int32) => g_G X rm_T_metIn c_T_metIn 6 4 (some .int) 85 [(0, .ref 0), (1, .long a1), (3, .int o8), (4, .int b4_2)] [] (HT d_label d_tg d_places t_guesses t_nodes t_all t_np0 t_so t_laters t_waiting t_meanwhile t_goal t_atNext t_steps t_due t_met t_mbs t_reach t_ring t_core t_live)) hs (fun o8 hs => ?_) (fun hs => ?_)
            · refine g_blk 5 [(.iinc 4 1, 0, 0, 1, 0), (.goto (-83), 0, 0, 0, 0)] [] [(4, .int (b4_2 + (1 : Int32))), (0, .ref 0), (1, .long a1), (3, .int o8)] [] (HT d_label d_tg d_places t_guesses t_nodes t_all t_np0 t_so t_laters t_waiting t_meanwhile t_goal t_atNext t_steps t_due t_met t_mbs t_reach t_ring t_core t_live) (by decide +kernel) rfl g_nil ?_
              refine g_loc (L2 := [(0, .ref 0), (1, .long a1), (3, .int o8), (4, .int (b4_2 + (1 : Int32)))]) [1, 2, 3, 0] rfl ?_
              exact ih _ _ hs
            · refine g_brn 33 (.ifCond .ne 6) ((F_T_has a1 b4_2) = 0) [] (by decide +kernel) rfl (fun c6 => ?_) (fun c6 => ?_)
              · have hs := g_sat_f hs c6
                obtain ⟨h9, hs⟩ := g_sat_c hs
                refine g_blk 46 [(.iload_n 3, 0, 0, 0, 0), (.aload_n 0, 0, 0, 0, 0), (.getfield 40, 4, 13, 0, 0), (.iload 4, 0, 0, 0, 0), (.iaload, 0, 0, 0, 0), (.ior, 0, 0, 0, 0), (.istore_n 3, 0, 0, 0, 0), (.iconst 0, 0, 0, 0, 0), (.istore 5, 0, 0, 0, 0)] [vp_in b4_2 64] [(5, .int (0 : Int32)), (3, .int (b3_1 ||| (t_met b4_2.toNatClampNeg))), (0, .ref 0), (1, .long a1), (4, .int b4_2)] [] (HT d_label d_tg d_places t_guesses t_nodes t_all t_np0 t_so t_laters t_waiting t_meanwhile t_goal t_atNext t_steps t_due t_met t_mbs t_reach t_ring t_core t_live) (by decide +kernel) rfl (g_and (g_inb_in h9) g_nil) ?_
                refine g_loc (L2 := [(0, .ref 0), (1, .long a1), (3, .int (b3_1 ||| (t_met b4_2.toNatClampNeg))), (4, .int b4_2), (5, .int (0 : Int32))]) [2, 3, 1, 4, 0] rfl ?_
                refine g_join (fun (o12 : Int32) => g_G X rm_T_metIn c_T_metIn 6 4 (some .int) 85 [(0, .ref 0), (1, .long a1), (3, .int o12), (4, .int b4_2)] [] (HT d_label d_tg d_places t_guesses t_nodes t_all t_np0 t_so t_laters t_waiting t_meanwhile t_goal t_atNext t_steps t_due t_met t_mbs t_reach t_ring t_core t_live)) hs (fun o12 hs => ?_) (fun hs => ?_)
                · have hq := g_sat_s hs
                  exact hq
                · have hlT_metIn_l2 : ∀ (n : Nat) (b3_10 : Int32) (b5_11 : Int32), g_sat (T_metIn_l2 b4_2 t_steps a1 t_mbs n b3_10 b5_11) (fun (o12 : Int32) => g_G X rm_T_metIn c_T_metIn 6 4 (some .int) 85 [(0, .ref 0), (1, .long a1), (3, .int o12), (4, .int b4_2)] [] (HT d_label d_tg d_places t_guesses t_nodes t_all t_np0 t_so t_laters t_waiting t_meanwhile t_goal t_atNext t_steps t_due t_met t_mbs t_reach t_ring t_core t_live)) → g_G X rm_T_metIn c_T_metIn 6 4 (some .int) 46 [(0, .ref 0), (1, .long a1), (3, .int b3_10), (4, .int b4_2), (5, .int b5_11)] [] (HT d_label d_tg d_places t_guesses t_nodes t_all t_np0 t_so t_laters t_waiting t_meanwhile t_goal t_atNext t_steps t_due t_met t_mbs t_reach t_ring t_core t_live) := by
                    intro n
                    induction n with
                    | zero =>
                      intro b3_10 b5_11 hs
                      obtain ⟨_, h0, _⟩ := hs
                      cases h0
                    | succ n ih =>
                      intro b3_10 b5_11 hs
                      rw [T_metIn_l2_s] at hs
                      refine g_blk 49 [(.iload 5, 0, 0, 0, 0), (.iconst 3, 0, 0, 3, 0)] [] [(0, .ref 0), (1, .long a1), (3, .int b3_10), (4, .int b4_2), (5, .int b5_11)] [.int (3 : Int32), .int b5_11] (HT d_label d_tg d_places t_guesses t_nodes t_all t_np0 t_so t_laters t_waiting t_meanwhile t_goal t_atNext t_steps t_due t_met t_mbs t_reach t_ring t_core t_live) (by decide +kernel) rfl g_nil ?_
                      refine g_br 85 (.if_icmp .ge 36) ((3 : Int32) ≤ b5_11) [] (by decide +kernel) rfl (fun c13 => ?_) (fun c13 => ?_)
                      · have hs := g_sat_t hs c13
                        refine g_loc (L2 := [(0, .ref 0), (1, .long a1), (3, .int b3_10), (4, .int b4_2)]) [0, 1, 2, 3] rfl ?_
                        have hq := g_sat_s hs
                        exact hq
                      · have hs := g_sat_f hs c13
                        refine g_blk 58 [(.aload_n 0, 0, 0, 0, 0), (.getfield 37, 4, 11, 0, 0), (.iload 5, 0, 0, 0, 0)] [] [(0, .ref 0), (1, .long a1), (3, .int b3_10), (4, .int b4_2), (5, .int b5_11)] [.int b5_11, .ref 12] (HT d_label d_tg d_places t_guesses t_nodes t_all t_np0 t_so t_laters t_waiting t_meanwhile t_goal t_atNext t_steps t_due t_met t_mbs t_reach t_ring t_core t_live) (by decide +kernel) rfl g_nil ?_
                        obtain ⟨h14, hs⟩ := g_sat_c hs
                        refine g_blk 59 [(.aaload, 0, 0, 0, 0)] [vp_in b5_11 3] [(0, .ref 0), (1, .long a1), (3, .int b3_10), (4, .int b4_2), (5, .int b5_11)] [.ref (13 + b5_11.toNatClampNeg)] (HT d_label d_tg d_places t_guesses t_nodes t_all t_np0 t_so t_laters t_waiting t_meanwhile t_goal t_atNext t_steps t_due t_met t_mbs t_reach t_ring t_core t_live) (by decide +kernel) (by rcases (g_e3 h14) with z1 | z1 | z1 <;> (rw [z1]; rfl)) (g_and (g_inb_in h14) g_nil) ?_
                        obtain ⟨h15, hs⟩ := g_sat_c hs
                        refine g_blk 66 [(.iload 4, 0, 0, 0, 0), (.laload, 0, 0, 0, 0), (.lload_n 1, 0, 0, 0, 0), (.land, 0, 0, 0, 0), (.lconst 0, 0, 0, 0, 0), (.lcmp, 0, 0, 0, 0)] [vp_in b4_2 64] [(0, .ref 0), (1, .long a1), (3, .int b3_10), (4, .int b4_2), (5, .int b5_11)] [.int (lg_cmp (((t_steps b5_11.toNatClampNeg) b4_2.toNatClampNeg) &&& a1) (0 : Int64))] (HT d_label d_tg d_places t_guesses t_nodes t_all t_np0 t_so t_laters t_waiting t_meanwhile t_goal t_atNext t_steps t_due t_met t_mbs t_reach t_ring t_core t_live) (by decide +kernel) (by rcases (g_c3 h14) with z1 | z1 | z1 <;> (rw [z1]; rfl)) (g_and (g_inb_in h15) g_nil) ?_
                        refine g_join (fun (o18 : Int32) => g_G X rm_T_metIn c_T_metIn 6 4 (some .int) 79 [(0, .ref 0), (1, .long a1), (3, .int o18), (4, .int b4_2), (5, .int b5_11)] [] (HT d_label d_tg d_places t_guesses t_nodes t_all t_np0 t_so t_laters t_waiting t_meanwhile t_goal t_atNext t_steps t_due t_met t_mbs t_reach t_ring t_core t_live)) hs (fun o18 hs => ?_) (fun hs => ?_)
                        · refine g_blk 46 [(.iinc 5 1, 0, 0, 1, 0), (.goto (-36), 0, 0, 0, 0)] [] [(5, .int (b5_11 + (1 : Int32))), (0, .ref 0), (1, .long a1), (3, .int o18), (4, .int b4_2)] [] (HT d_label d_tg d_places t_guesses t_nodes t_all t_np0 t_so t_laters t_waiting t_meanwhile t_goal t_atNext t_steps t_due t_met t_mbs t_reach t_ring t_core t_live) (by decide +kernel) rfl g_nil ?_
                          refine g_loc (L2 := [(0, .ref 0), (1, .long a1), (3, .int o18), (4, .int b4_2), (5, .int (b5_11 + (1 : Int32)))]) [1, 2, 3, 4, 0] rfl ?_
                          exact ih _ _ hs
                        · refine g_br 79 (.ifCond .eq 13) ((lg_cmp (((t_steps b5_11.toNatClampNeg) b4_2.toNatClampNeg) &&& a1) (0 : Int64)) = 0) [] (by decide +kernel) rfl (fun c16 => ?_) (fun c16 => ?_)
                          · have hs := g_sat_t hs c16
                            have hq := g_sat_s hs
                            exact hq
                          · have hs := g_sat_f hs c16
                            obtain ⟨h19, hs⟩ := g_sat_c hs
                            refine g_blk 79 [(.iload_n 3, 0, 0, 0, 0), (.aload_n 0, 0, 0, 0, 0), (.getfield 44, 4, 14, 0, 0), (.iload 5, 0, 0, 0, 0), (.iaload, 0, 0, 0, 0), (.ior, 0, 0, 0, 0), (.istore_n 3, 0, 0, 0, 0)] [vp_in b5_11 3] [(3, .int (b3_10 ||| (t_mbs b5_11.toNatClampNeg))), (0, .ref 0), (1, .long a1), (4, .int b4_2), (5, .int b5_11)] [] (HT d_label d_tg d_places t_guesses t_nodes t_all t_np0 t_so t_laters t_waiting t_meanwhile t_goal t_atNext t_steps t_due t_met t_mbs t_reach t_ring t_core t_live) (by decide +kernel) rfl (g_and (g_inb_in h19) g_nil) ?_
                            refine g_loc (L2 := [(0, .ref 0), (1, .long a1), (3, .int (b3_10 ||| (t_mbs b5_11.toNatClampNeg))), (4, .int b4_2), (5, .int b5_11)]) [1, 2, 0, 3, 4] rfl ?_
                            have hq := g_sat_s hs
                            exact hq
                  exact hlT_metIn_l2 N _ _ hs
              · have hs := g_sat_t hs c6
                refine g_blk 85 [(.goto 55, 0, 0, 0, 0)] [] [(0, .ref 0), (1, .long a1), (3, .int b3_1), (4, .int b4_2)] [] (HT d_label d_tg d_places t_guesses t_nodes t_all t_np0 t_so t_laters t_waiting t_meanwhile t_goal t_atNext t_steps t_due t_met t_mbs t_reach t_ring t_core t_live) (by decide +kernel) rfl g_nil ?_
                have hq := g_sat_s hs
                exact hq
    exact hlT_metIn_l1 N _ _ hs
abbrev rm_T_makeRings : Room := { frames := 2, cells := 0, slots := 0, locals := 47 }
def T_makeRings_l1 (N : Nat) (t_nodes : Int32) (t_reach : Nat → Int64) (t_steps : Nat → Nat → Int64) (t_met : Nat → Int32) (t_mbs : Nat → Int32) (t_due : Int32) : Nat → Int64 → Int32 → (Nat → Int64) → Int64 → Option ((Nat → Int64) × Int64)
  | 0, _, _, _, _ => none
  | n + 1, b1_1, b3_2, w_ring_3, w_core_4 => (if t_nodes ≤ b3_2 then (some (w_ring_3, w_core_4)) else (if (64 : Int32) ≤ b3_2 then (some (w_ring_3, w_core_4)) else (g_chk (g_inb b3_2 64) ((if (F_T_has (t_reach b3_2.toNatClampNeg) b3_2) = 0 then (some (b1_1, w_ring_3, w_core_4)) else (if (F_T_has b1_1 b3_2) = 0 then ((F_T_ringOf N t_nodes t_reach w_ring_3 b3_2).bind fun o12 => ((F_T_metIn N t_nodes t_steps t_met t_mbs o12.1).bind fun o13 => (if o13 = t_due then (some ((b1_1 ||| o12.1), o12.2, (w_core_4 ||| o12.1))) else (some ((b1_1 ||| o12.1), o12.2, w_core_4))))) else (some (b1_1, w_ring_3, w_core_4)))).bind fun o10 => (T_makeRings_l1 N t_nodes t_reach t_steps t_met t_mbs t_due n o10.1 (b3_2 + (1 : Int32)) o10.2.1 o10.2.2)))))
theorem T_makeRings_l1_s (N : Nat) (t_nodes : Int32) (t_reach : Nat → Int64) (t_steps : Nat → Nat → Int64) (t_met : Nat → Int32) (t_mbs : Nat → Int32) (t_due : Int32) (n : Nat) (b1_1 : Int64) (b3_2 : Int32) (w_ring_3 : Nat → Int64) (w_core_4 : Int64) : T_makeRings_l1 N t_nodes t_reach t_steps t_met t_mbs t_due (n + 1) b1_1 b3_2 w_ring_3 w_core_4 = (if t_nodes ≤ b3_2 then (some (w_ring_3, w_core_4)) else (if (64 : Int32) ≤ b3_2 then (some (w_ring_3, w_core_4)) else (g_chk (g_inb b3_2 64) ((if (F_T_has (t_reach b3_2.toNatClampNeg) b3_2) = 0 then (some (b1_1, w_ring_3, w_core_4)) else (if (F_T_has b1_1 b3_2) = 0 then ((F_T_ringOf N t_nodes t_reach w_ring_3 b3_2).bind fun o12 => ((F_T_metIn N t_nodes t_steps t_met t_mbs o12.1).bind fun o13 => (if o13 = t_due then (some ((b1_1 ||| o12.1), o12.2, (w_core_4 ||| o12.1))) else (some ((b1_1 ||| o12.1), o12.2, w_core_4))))) else (some (b1_1, w_ring_3, w_core_4)))).bind fun o10 => (T_makeRings_l1 N t_nodes t_reach t_steps t_met t_mbs t_due n o10.1 (b3_2 + (1 : Int32)) o10.2.1 o10.2.2))))) := rfl
def F_T_makeRings (N : Nat) (t_nodes : Int32) (t_steps : Nat → Nat → Int64) (t_due : Int32) (t_met : Nat → Int32) (t_mbs : Nat → Int32) (t_reach : Nat → Int64) (t_ring : Nat → Int64) : Option ((Nat → Int64) × Int64) := ((T_makeRings_l1 N t_nodes t_reach t_steps t_met t_mbs t_due N (0 : Int64) (0 : Int32) t_ring (0 : Int64)).bind fun o5 => (some (o5.1, o5.2)))
set_option maxRecDepth 100000 in
theorem ct_T_makeRings (N : Nat) (d_label : Nat → Int32) (d_tg : Nat → Nat → Int32) (d_places : Int32) (t_guesses : Int32) (t_nodes : Int32) (t_all : Int64) (t_np0 : Int64) (t_so : Nat → Int64) (t_laters : Int32) (t_waiting : Nat → Int64) (t_meanwhile : Nat → Int64) (t_goal : Nat → Int64) (t_atNext : Nat → Int32) (t_steps : Nat → Nat → Int64) (t_due : Int32) (t_met : Nat → Int32) (t_mbs : Nat → Int32) (t_reach : Nat → Int64) (t_ring : Nat → Int64) (t_core : Int64) (t_live : Int64) : g_F y_T_makeRings c_T_makeRings 6 none rm_T_makeRings [.ref 0] (HT d_label d_tg d_places t_guesses t_nodes t_all t_np0 t_so t_laters t_waiting t_meanwhile t_goal t_atNext t_steps t_due t_met t_mbs t_reach t_ring t_core t_live) (F_T_makeRings N t_nodes t_steps t_due t_met t_mbs t_reach t_ring) (fun o => none) (fun o => (HT d_label d_tg d_places t_guesses t_nodes t_all t_np0 t_so t_laters t_waiting t_meanwhile t_goal t_atNext t_steps t_due t_met t_mbs t_reach o.1 o.2 t_live)) := by
  intro l P hs
  refine g_ofG 4 (by decide +kernel) rfl (Nat.le_of_ble_eq_true rfl) (fun X hX => ?_)
  unfold F_T_makeRings at hs
  refine g_loc (L2 := [(0, .ref 0)]) [0] rfl ?_
  refine g_blk 9 [(.aload_n 0, 0, 0, 0, 0), (.lconst 0, 0, 0, 0, 0), (.putfield 164, 4, 17, 2, 0), (.lconst 0, 0, 0, 0, 0), (.lstore_n 1, 0, 0, 0, 0), (.iconst 0, 0, 0, 0, 0), (.istore_n 3, 0, 0, 0, 0)] [] [(3, .int (0 : Int32)), (1, .long (0 : Int64)), (0, .ref 0)] [] (HT d_label d_tg d_places t_guesses t_nodes t_all t_np0 t_so t_laters t_waiting t_meanwhile t_goal t_atNext t_steps t_due t_met t_mbs t_reach t_ring (0 : Int64) t_live) (by decide +kernel) rfl g_nil ?_
  refine g_loc (L2 := [(0, .ref 0), (1, .long (0 : Int64)), (3, .int (0 : Int32))]) [2, 1, 0] rfl ?_
  refine g_join (fun (o5 : (Nat → Int64) × Int64) => g_G X rm_T_makeRings c_T_makeRings 6 4 none 89 [] [] (HT d_label d_tg d_places t_guesses t_nodes t_all t_np0 t_so t_laters t_waiting t_meanwhile t_goal t_atNext t_steps t_due t_met t_mbs t_reach o5.1 o5.2 t_live)) hs (fun o5 hs => ?_) (fun hs => ?_)
  · have hq := g_sat_s hs
    exact g_vret hX (by decide +kernel) rfl hq
  · have hlT_makeRings_l1 : ∀ (n : Nat) (b1_1 : Int64) (b3_2 : Int32) (w_ring_3 : Nat → Int64) (w_core_4 : Int64), g_sat (T_makeRings_l1 N t_nodes t_reach t_steps t_met t_mbs t_due n b1_1 b3_2 w_ring_3 w_core_4) (fun (o5 : (Nat → Int64) × Int64) => g_G X rm_T_makeRings c_T_makeRings 6 4 none 89 [] [] (HT d_label d_tg d_places t_guesses t_nodes t_all t_np0 t_so t_laters t_waiting t_meanwhile t_goal t_atNext t_steps t_due t_met t_mbs t_reach o5.1 o5.2 t_live)) → g_G X rm_T_makeRings c_T_makeRings 6 4 none 9 [(0, .ref 0), (1, .long b1_1), (3, .int b3_2)] [] (HT d_label d_tg d_places t_guesses t_nodes t_all t_np0 t_so t_laters t_waiting t_meanwhile t_goal t_atNext t_steps t_due t_met t_mbs t_reach w_ring_3 w_core_4 t_live) := by
      intro n
      induction n with
      | zero =>
        intro b1_1 b3_2 w_ring_3 w_core_4 hs
        obtain ⟨_, h0, _⟩ := hs
        cases h0
      | succ n ih =>
        intro b1_1 b3_2 w_ring_3 w_core_4 hs
        rw [T_makeRings_l1_s] at hs
        refine g_blk 14 [(.iload_n 3, 0, 0, 0, 0), (.aload_n 0, 0, 0, 0, 0), (.getfield 69, 4, 2, 0, 0)] [] [(0, .ref 0), (1, .long b1_1), (3, .int b3_2)] [.int t_nodes, .int b3_2] (HT d_label d_tg d_places t_guesses t_nodes t_all t_np0 t_so t_laters t_waiting t_meanwhile t_goal t_atNext t_steps t_due t_met t_mbs t_reach w_ring_3 w_core_4 t_live) (by decide +kernel) rfl g_nil ?_
        refine g_br 89 (.if_icmp .ge 75) (t_nodes ≤ b3_2) [] (by decide +kernel) rfl (fun c6 => ?_) (fun c6 => ?_)
        · have hs := g_sat_t hs c6
          refine g_loc (L2 := []) [] rfl ?_
          have hq := g_sat_s hs
          exact hq
        · have hs := g_sat_f hs c6
          refine g_blk 20 [(.iload_n 3, 0, 0, 0, 0), (.bipush 64, 0, 0, 64, 0)] [] [(0, .ref 0), (1, .long b1_1), (3, .int b3_2)] [.int (64 : Int32), .int b3_2] (HT d_label d_tg d_places t_guesses t_nodes t_all t_np0 t_so t_laters t_waiting t_meanwhile t_goal t_atNext t_steps t_due t_met t_mbs t_reach w_ring_3 w_core_4 t_live) (by decide +kernel) rfl g_nil ?_
          refine g_br 89 (.if_icmp .ge 69) ((64 : Int32) ≤ b3_2) [] (by decide +kernel) rfl (fun c7 => ?_) (fun c7 => ?_)
          · have hs := g_sat_t hs c7
            refine g_loc (L2 := []) [] rfl ?_
            have hq := g_sat_s hs
            exact hq
          · have hs := g_sat_f hs c7
            obtain ⟨h8, hs⟩ := g_sat_c hs
            refine g_blk 30 [(.aload_n 0, 0, 0, 0, 0), (.getfield 47, 4, 15, 0, 0), (.iload_n 3, 0, 0, 0, 0), (.laload, 0, 0, 0, 0), (.iload_n 3, 0, 0, 0, 0)] [vp_in b3_2 64] [(0, .ref 0), (1, .long b1_1), (3, .int b3_2)] [.int b3_2, .long (t_reach b3_2.toNatClampNeg)] (HT d_label d_tg d_places t_guesses t_nodes t_all t_np0 t_so t_laters t_waiting t_meanwhile t_goal t_atNext t_steps t_due t_met t_mbs t_reach w_ring_3 w_core_4 t_live) (by decide +kernel) rfl (g_and (g_inb_in h8) g_nil) ?_
            refine g_pN (ct_T_has (t_reach b3_2.toNatClampNeg) b3_2) 147 2 lk_4_147 (by decide +kernel) rfl ⟨rfl, rfl, by decide, by decide⟩ [] rfl (Nat.le_of_ble_eq_true rfl) ?_
            refine g_join (fun (o10 : Int64 × (Nat → Int64) × Int64) => g_G X rm_T_makeRings c_T_makeRings 6 4 none 83 [(0, .ref 0), (1, .long o10.1), (3, .int b3_2)] [] (HT d_label d_tg d_places t_guesses t_nodes t_all t_np0 t_so t_laters t_waiting t_meanwhile t_goal t_atNext t_steps t_due t_met t_mbs t_reach o10.2.1 o10.2.2 t_live)) hs (fun o10 hs => ?_) (fun hs => ?_)
            · refine g_blk 9 [(.iinc 3 1, 0, 0, 1, 0), (.goto (-77), 0, 0, 0, 0)] [] [(3, .int (b3_2 + (1 : Int32))), (0, .ref 0), (1, .long o10.1)] [] (HT d_label d_tg d_places t_guesses t_nodes t_all t_np0 t_so t_laters t_waiting t_meanwhile t_goal t_atNext t_steps t_due t_met t_mbs t_reach o10.2.1 o10.2.2 t_live) (by decide +kernel) rfl g_nil ?_
              refine g_loc (L2 := [(0, .ref 0), (1, .long o10.1), (3, .int (b3_2 + (1 : Int32)))]) [1, 2, 0] rfl ?_
              exact ih _ _ _ _ hs
            · refine g_br 83 (.ifCond .eq 50) ((F_T_has (t_reach b3_2.toNatClampNeg) b3_2) = 0) [] (by decide +kernel) rfl (fun c9 => ?_) (fun c9 => ?_)
              · have hs := g_sat_t hs c9
                have hq := g_sat_s hs
                exact hq
              · have hs := g_sat_f hs c9
                refine g_blk 38 [(.lload_n 1, 0, 0, 0, 0), (.iload_n 3, 0, 0, 0, 0)] [] [(0, .ref 0), (1, .long b1_1), (3, .int b3_2)] [.int b3_2, .long b1_1] (HT d_label d_tg d_places t_guesses t_nodes t_all t_np0 t_so t_laters t_waiting t_meanwhile t_goal t_atNext t_steps t_due t_met t_mbs t_reach w_ring_3 w_core_4 t_live) (by decide +kernel) rfl g_nil ?_
                refine g_pN (ct_T_has b1_1 b3_2) 147 2 lk_4_147 (by decide +kernel) rfl ⟨rfl, rfl, by decide, by decide⟩ [] rfl (Nat.le_of_ble_eq_true rfl) ?_
                refine g_br 47 (.ifCond .eq 6) ((F_T_has b1_1 b3_2) = 0) [] (by decide +kernel) rfl (fun c11 => ?_) (fun c11 => ?_)
                · have hs := g_sat_t hs c11
                  refine g_blk 49 [(.aload_n 0, 0, 0, 0, 0), (.iload_n 3, 0, 0, 0, 0)] [] [(0, .ref 0), (1, .long b1_1), (3, .int b3_2)] [.int b3_2, .ref 0] (HT d_label d_tg d_places t_guesses t_nodes t_all t_np0 t_so t_laters t_waiting t_meanwhile t_goal t_atNext t_steps t_due t_met t_mbs t_reach w_ring_3 w_core_4 t_live) (by decide +kernel) rfl g_nil ?_
                  refine g_fM (ct_T_ringOf N d_label d_tg d_places t_guesses t_nodes t_all t_np0 t_so t_laters t_waiting t_meanwhile t_goal t_atNext t_steps t_due t_met t_mbs t_reach w_ring_3 w_core_4 t_live b3_2) 167 true 1 lk_4_167 (by decide +kernel) rfl ⟨rfl, rfl, by decide, by decide⟩ [] rfl (Nat.le_of_ble_eq_true rfl) (fun _ => ⟨0, 4, _, rfl, rfl, by decide, rfl⟩) hs (fun o12 hs => ?_)
                  refine g_blk 62 [(.lstore 4, 0, 0, 0, 0), (.lload_n 1, 0, 0, 0, 0), (.lload 4, 0, 0, 0, 0), (.lor, 0, 0, 0, 0), (.lstore_n 1, 0, 0, 0, 0), (.aload_n 0, 0, 0, 0, 0), (.lload 4, 0, 0, 0, 0)] [] [(1, .long (b1_1 ||| o12.1)), (4, .long o12.1), (0, .ref 0), (3, .int b3_2)] [.long o12.1, .ref 0] (HT d_label d_tg d_places t_guesses t_nodes t_all t_np0 t_so t_laters t_waiting t_meanwhile t_goal t_atNext t_steps t_due t_met t_mbs t_reach o12.2 w_core_4 t_live) (by decide +kernel) rfl g_nil ?_
                  refine g_fM (ct_T_metIn N d_label d_tg d_places t_guesses t_nodes t_all t_np0 t_so t_laters t_waiting t_meanwhile t_goal t_atNext t_steps t_due t_met t_mbs t_reach o12.2 w_core_4 t_live o12.1) 170 true 1 lk_4_170 (by decide +kernel) rfl ⟨rfl, rfl, by decide, by decide⟩ [] rfl (Nat.le_of_ble_eq_true rfl) (fun _ => ⟨0, 4, _, rfl, rfl, by decide, rfl⟩) hs (fun o13 hs => ?_)
                  refine g_blk 69 [(.aload_n 0, 0, 0, 0, 0), (.getfield 151, 4, 12, 0, 0)] [] [(1, .long (b1_1 ||| o12.1)), (4, .long o12.1), (0, .ref 0), (3, .int b3_2)] [.int t_due, .int o13] (HT d_label d_tg d_places t_guesses t_nodes t_all t_np0 t_so t_laters t_waiting t_meanwhile t_goal t_atNext t_steps t_due t_met t_mbs t_reach o12.2 w_core_4 t_live) (by decide +kernel) rfl g_nil ?_
                  refine g_brn 83 (.if_icmp .ne 14) (o13 = t_due) [] (by decide +kernel) rfl (fun c14 => ?_) (fun c14 => ?_)
                  · have hs := g_sat_f hs c14
                    refine g_loc (L2 := [(0, .ref 0), (1, .long (b1_1 ||| o12.1)), (3, .int b3_2)]) [2, 0, 3] rfl ?_
                    have hq := g_sat_s hs
                    exact hq
                  · have hs := g_sat_t hs c14
                    refine g_blk 83 [(.aload_n 0, 0, 0, 0, 0), (.dup, 0, 0, 0, 0), (.getfield 164, 4, 17, 0, 0), (.lload 4, 0, 0, 0, 0), (.lor, 0, 0, 0, 0), (.putfield 164, 4, 17, 2, 0)] [] [(1, .long (b1_1 ||| o12.1)), (4, .long o12.1), (0, .ref 0), (3, .int b3_2)] [] (HT d_label d_tg d_places t_guesses t_nodes t_all t_np0 t_so t_laters t_waiting t_meanwhile t_goal t_atNext t_steps t_due t_met t_mbs t_reach o12.2 (w_core_4 ||| o12.1) t_live) (by decide +kernel) rfl g_nil ?_
                    refine g_loc (L2 := [(0, .ref 0), (1, .long (b1_1 ||| o12.1)), (3, .int b3_2)]) [2, 0, 3] rfl ?_
                    have hq := g_sat_s hs
                    exact hq
                · have hs := g_sat_f hs c11
                  refine g_blk 83 [(.goto 39, 0, 0, 0, 0)] [] [(0, .ref 0), (1, .long b1_1), (3, .int b3_2)] [] (HT d_label d_tg d_places t_guesses t_nodes t_all t_np0 t_so t_laters t_waiting t_meanwhile t_goal t_atNext t_steps t_due t_met t_mbs t_reach w_ring_3 w_core_4 t_live) (by decide +kernel) rfl g_nil ?_
                  have hq := g_sat_s hs
                  exact hq
    exact hlT_makeRings_l1 N _ _ _ _ hs
abbrev rm_T_makeLive : Room := { frames := 0, cells := 0, slots := 0, locals := 0 }
def T_makeLive_l1 (t_core : Int64) (t_nodes : Int32) (t_reach : Nat → Int64) : Nat → Int32 → Int64 → Option Int64
  | 0, _, _ => none
  | n + 1, b1_1, w_live_2 => (if (lg_cmp t_core (0 : Int64)) = 0 then (some w_live_2) else (if t_nodes ≤ b1_1 then (some w_live_2) else (if (64 : Int32) ≤ b1_1 then (some w_live_2) else (g_chk (g_inb b1_1 64) (T_makeLive_l1 t_core t_nodes t_reach n (b1_1 + (1 : Int32)) (if (lg_cmp ((t_reach b1_1.toNatClampNeg) &&& t_core) (0 : Int64)) = 0 then w_live_2 else (w_live_2 ||| (g_lshl (1 : Int64) b1_1))))))))
theorem T_makeLive_l1_s (t_core : Int64) (t_nodes : Int32) (t_reach : Nat → Int64) (n : Nat) (b1_1 : Int32) (w_live_2 : Int64) : T_makeLive_l1 t_core t_nodes t_reach (n + 1) b1_1 w_live_2 = (if (lg_cmp t_core (0 : Int64)) = 0 then (some w_live_2) else (if t_nodes ≤ b1_1 then (some w_live_2) else (if (64 : Int32) ≤ b1_1 then (some w_live_2) else (g_chk (g_inb b1_1 64) (T_makeLive_l1 t_core t_nodes t_reach n (b1_1 + (1 : Int32)) (if (lg_cmp ((t_reach b1_1.toNatClampNeg) &&& t_core) (0 : Int64)) = 0 then w_live_2 else (w_live_2 ||| (g_lshl (1 : Int64) b1_1)))))))) := rfl
def F_T_makeLive (N : Nat) (t_nodes : Int32) (t_reach : Nat → Int64) (t_core : Int64) : Option Int64 := ((T_makeLive_l1 t_core t_nodes t_reach N (0 : Int32) t_core).bind fun o3 => (some o3))
set_option maxRecDepth 100000 in
theorem ct_T_makeLive (N : Nat) (d_label : Nat → Int32) (d_tg : Nat → Nat → Int32) (d_places : Int32) (t_guesses : Int32) (t_nodes : Int32) (t_all : Int64) (t_np0 : Int64) (t_so : Nat → Int64) (t_laters : Int32) (t_waiting : Nat → Int64) (t_meanwhile : Nat → Int64) (t_goal : Nat → Int64) (t_atNext : Nat → Int32) (t_steps : Nat → Nat → Int64) (t_due : Int32) (t_met : Nat → Int32) (t_mbs : Nat → Int32) (t_reach : Nat → Int64) (t_ring : Nat → Int64) (t_core : Int64) (t_live : Int64) : g_F y_T_makeLive c_T_makeLive 2 none rm_T_makeLive [.ref 0] (HT d_label d_tg d_places t_guesses t_nodes t_all t_np0 t_so t_laters t_waiting t_meanwhile t_goal t_atNext t_steps t_due t_met t_mbs t_reach t_ring t_core t_live) (F_T_makeLive N t_nodes t_reach t_core) (fun o => none) (fun o => (HT d_label d_tg d_places t_guesses t_nodes t_all t_np0 t_so t_laters t_waiting t_meanwhile t_goal t_atNext t_steps t_due t_met t_mbs t_reach t_ring t_core o)) := by
  intro l P hs
  refine g_ofG 4 (by decide +kernel) rfl (Nat.le_of_ble_eq_true rfl) (fun X hX => ?_)
  unfold F_T_makeLive at hs
  refine g_loc (L2 := [(0, .ref 0)]) [0] rfl ?_
  refine g_blk 10 [(.aload_n 0, 0, 0, 0, 0), (.aload_n 0, 0, 0, 0, 0), (.getfield 164, 4, 17, 0, 0), (.putfield 173, 4, 18, 2, 0), (.iconst 0, 0, 0, 0, 0), (.istore_n 1, 0, 0, 0, 0)] [] [(1, .int (0 : Int32)), (0, .ref 0)] [] (HT d_label d_tg d_places t_guesses t_nodes t_all t_np0 t_so t_laters t_waiting t_meanwhile t_goal t_atNext t_steps t_due t_met t_mbs t_reach t_ring t_core t_core) (by decide +kernel) rfl g_nil ?_
  refine g_loc (L2 := [(0, .ref 0), (1, .int (0 : Int32))]) [1, 0] rfl ?_
  refine g_join (fun (o3 : Int64) => g_G X rm_T_makeLive c_T_makeLive 2 4 none 67 [] [] (HT d_label d_tg d_places t_guesses t_nodes t_all t_np0 t_so t_laters t_waiting t_meanwhile t_goal t_atNext t_steps t_due t_met t_mbs t_reach t_ring t_core o3)) hs (fun o3 hs => ?_) (fun hs => ?_)
  · have hq := g_sat_s hs
    exact g_vret hX (by decide +kernel) rfl hq
  · have hlT_makeLive_l1 : ∀ (n : Nat) (b1_1 : Int32) (w_live_2 : Int64), g_sat (T_makeLive_l1 t_core t_nodes t_reach n b1_1 w_live_2) (fun (o3 : Int64) => g_G X rm_T_makeLive c_T_makeLive 2 4 none 67 [] [] (HT d_label d_tg d_places t_guesses t_nodes t_all t_np0 t_so t_laters t_waiting t_meanwhile t_goal t_atNext t_steps t_due t_met t_mbs t_reach t_ring t_core o3)) → g_G X rm_T_makeLive c_T_makeLive 2 4 none 10 [(0, .ref 0), (1, .int b1_1)] [] (HT d_label d_tg d_places t_guesses t_nodes t_all t_np0 t_so t_laters t_waiting t_meanwhile t_goal t_atNext t_steps t_due t_met t_mbs t_reach t_ring t_core w_live_2) := by
      intro n
      induction n with
      | zero =>
        intro b1_1 w_live_2 hs
        obtain ⟨_, h0, _⟩ := hs
        cases h0
      | succ n ih =>
        intro b1_1 w_live_2 hs
        rw [T_makeLive_l1_s] at hs
        refine g_blk 16 [(.aload_n 0, 0, 0, 0, 0), (.getfield 164, 4, 17, 0, 0), (.lconst 0, 0, 0, 0, 0), (.lcmp, 0, 0, 0, 0)] [] [(0, .ref 0), (1, .int b1_1)] [.int (lg_cmp t_core (0 : Int64))] (HT d_label d_tg d_places t_guesses t_nodes t_all t_np0 t_so t_laters t_waiting t_meanwhile t_goal t_atNext t_steps t_due t_met t_mbs t_reach t_ring t_core w_live_2) (by decide +kernel) rfl g_nil ?_
        refine g_br 67 (.ifCond .eq 51) ((lg_cmp t_core (0 : Int64)) = 0) [] (by decide +kernel) rfl (fun c4 => ?_) (fun c4 => ?_)
        · have hs := g_sat_t hs c4
          refine g_loc (L2 := []) [] rfl ?_
          have hq := g_sat_s hs
          exact hq
        · have hs := g_sat_f hs c4
          refine g_blk 24 [(.iload_n 1, 0, 0, 0, 0), (.aload_n 0, 0, 0, 0, 0), (.getfield 69, 4, 2, 0, 0)] [] [(0, .ref 0), (1, .int b1_1)] [.int t_nodes, .int b1_1] (HT d_label d_tg d_places t_guesses t_nodes t_all t_np0 t_so t_laters t_waiting t_meanwhile t_goal t_atNext t_steps t_due t_met t_mbs t_reach t_ring t_core w_live_2) (by decide +kernel) rfl g_nil ?_
          refine g_br 67 (.if_icmp .ge 43) (t_nodes ≤ b1_1) [] (by decide +kernel) rfl (fun c5 => ?_) (fun c5 => ?_)
          · have hs := g_sat_t hs c5
            refine g_loc (L2 := []) [] rfl ?_
            have hq := g_sat_s hs
            exact hq
          · have hs := g_sat_f hs c5
            refine g_blk 30 [(.iload_n 1, 0, 0, 0, 0), (.bipush 64, 0, 0, 64, 0)] [] [(0, .ref 0), (1, .int b1_1)] [.int (64 : Int32), .int b1_1] (HT d_label d_tg d_places t_guesses t_nodes t_all t_np0 t_so t_laters t_waiting t_meanwhile t_goal t_atNext t_steps t_due t_met t_mbs t_reach t_ring t_core w_live_2) (by decide +kernel) rfl g_nil ?_
            refine g_br 67 (.if_icmp .ge 37) ((64 : Int32) ≤ b1_1) [] (by decide +kernel) rfl (fun c6 => ?_) (fun c6 => ?_)
            · have hs := g_sat_t hs c6
              refine g_loc (L2 := []) [] rfl ?_
              have hq := g_sat_s hs
              exact hq
            · have hs := g_sat_f hs c6
              obtain ⟨h7, hs⟩ := g_sat_c hs
              refine g_blk 46 [(.aload_n 0, 0, 0, 0, 0), (.getfield 47, 4, 15, 0, 0), (.iload_n 1, 0, 0, 0, 0), (.laload, 0, 0, 0, 0), (.aload_n 0, 0, 0, 0, 0), (.getfield 164, 4, 17, 0, 0), (.land, 0, 0, 0, 0), (.lconst 0, 0, 0, 0, 0), (.lcmp, 0, 0, 0, 0)] [vp_in b1_1 64] [(0, .ref 0), (1, .int b1_1)] [.int (lg_cmp ((t_reach b1_1.toNatClampNeg) &&& t_core) (0 : Int64))] (HT d_label d_tg d_places t_guesses t_nodes t_all t_np0 t_so t_laters t_waiting t_meanwhile t_goal t_atNext t_steps t_due t_met t_mbs t_reach t_ring t_core w_live_2) (by decide +kernel) rfl (g_and (g_inb_in h7) g_nil) ?_
              have hJ9 : ∀ (v9 : Int64) (ev9 : v9 = (if (lg_cmp ((t_reach b1_1.toNatClampNeg) &&& t_core) (0 : Int64)) = 0 then w_live_2 else (w_live_2 ||| (g_lshl (1 : Int64) b1_1)))), g_G X rm_T_makeLive c_T_makeLive 2 4 none 61 [(0, .ref 0), (1, .int b1_1)] [] (HT d_label d_tg d_places t_guesses t_nodes t_all t_np0 t_so t_laters t_waiting t_meanwhile t_goal t_atNext t_steps t_due t_met t_mbs t_reach t_ring t_core v9) := by
                intro v9 ev9
                subst ev9
                refine g_blk 10 [(.iinc 1 1, 0, 0, 1, 0), (.goto (-54), 0, 0, 0, 0)] [] [(1, .int (b1_1 + (1 : Int32))), (0, .ref 0)] [] (HT d_label d_tg d_places t_guesses t_nodes t_all t_np0 t_so t_laters t_waiting t_meanwhile t_goal t_atNext t_steps t_due t_met t_mbs t_reach t_ring t_core (if (lg_cmp ((t_reach b1_1.toNatClampNeg) &&& t_core) (0 : Int64)) = 0 then w_live_2 else (w_live_2 ||| (g_lshl (1 : Int64) b1_1)))) (by decide +kernel) rfl g_nil ?_
                refine g_loc (L2 := [(0, .ref 0), (1, .int (b1_1 + (1 : Int32)))]) [1, 0] rfl ?_
                exact ih _ _ hs
              refine g_br 61 (.ifCond .eq 15) ((lg_cmp ((t_reach b1_1.toNatClampNeg) &&& t_core) (0 : Int64)) = 0) [] (by decide +kernel) rfl (fun c11 => ?_) (fun c11 => ?_)
              · exact hJ9 _ (by rw [if_pos c11])
              · refine g_blk 61 [(.aload_n 0, 0, 0, 0, 0), (.dup, 0, 0, 0, 0), (.getfield 173, 4, 18, 0, 0), (.lconst 1, 0, 0, 0, 1), (.iload_n 1, 0, 0, 0, 0), (.lshl, 0, 0, 0, 0), (.lor, 0, 0, 0, 0), (.putfield 173, 4, 18, 2, 0)] [] [(0, .ref 0), (1, .int b1_1)] [] (HT d_label d_tg d_places t_guesses t_nodes t_all t_np0 t_so t_laters t_waiting t_meanwhile t_goal t_atNext t_steps t_due t_met t_mbs t_reach t_ring t_core (w_live_2 ||| (g_lshl (1 : Int64) b1_1))) (by decide +kernel) rfl g_nil ?_
                exact hJ9 _ (by rw [if_neg c11])
    exact hlT_makeLive_l1 N _ _ hs
abbrev rm_T_finish : Room := { frames := 3, cells := 0, slots := 0, locals := 72 }
def F_T_finish (N : Nat) (d_tg : Nat → Nat → Int32) (d_places : Int32) (t_guesses : Int32) (t_nodes : Int32) (t_all : Int64) (t_np0 : Int64) (t_laters : Int32) (t_waiting : Nat → Int64) (t_meanwhile : Nat → Int64) (t_goal : Nat → Int64) (t_atNext : Nat → Int32) (t_steps : Nat → Nat → Int64) (t_met : Nat → Int32) (t_mbs : Nat → Int32) (t_reach : Nat → Int64) (t_ring : Nat → Int64) (a1 : Int32) : Option ((Nat → Nat → Int64) × Int32 × (Nat → Int32) × (Nat → Int32) × (Nat → Int64) × (Nat → Int64) × Int64 × Int64) := ((F_T_makeSteps N d_tg d_places t_guesses t_nodes t_all t_np0 t_laters t_waiting t_meanwhile t_goal t_atNext t_steps).bind fun o1 => ((F_T_makeDue N d_tg d_places t_guesses t_nodes t_np0 t_laters t_waiting t_goal t_atNext t_met t_mbs a1).bind fun o2 => ((F_T_makeReach N t_nodes o1 t_reach).bind fun o3 => ((F_T_makeRings N t_nodes o1 o2.1 o2.2.1 o2.2.2 o3 t_ring).bind fun o4 => ((F_T_makeLive N t_nodes o3 o4.2).bind fun o5 => (some (o1, o2.1, o2.2.1, o2.2.2, o3, o4.1, o4.2, o5)))))))
set_option maxRecDepth 100000 in
theorem ct_T_finish (N : Nat) (d_label : Nat → Int32) (d_tg : Nat → Nat → Int32) (d_places : Int32) (t_guesses : Int32) (t_nodes : Int32) (t_all : Int64) (t_np0 : Int64) (t_so : Nat → Int64) (t_laters : Int32) (t_waiting : Nat → Int64) (t_meanwhile : Nat → Int64) (t_goal : Nat → Int64) (t_atNext : Nat → Int32) (t_steps : Nat → Nat → Int64) (t_due : Int32) (t_met : Nat → Int32) (t_mbs : Nat → Int32) (t_reach : Nat → Int64) (t_ring : Nat → Int64) (t_core : Int64) (t_live : Int64) (a1 : Int32) : g_F y_T_finish c_T_finish 2 none rm_T_finish [.ref 0, .int a1] (HT d_label d_tg d_places t_guesses t_nodes t_all t_np0 t_so t_laters t_waiting t_meanwhile t_goal t_atNext t_steps t_due t_met t_mbs t_reach t_ring t_core t_live) (F_T_finish N d_tg d_places t_guesses t_nodes t_all t_np0 t_laters t_waiting t_meanwhile t_goal t_atNext t_steps t_met t_mbs t_reach t_ring a1) (fun o => none) (fun o => (HT d_label d_tg d_places t_guesses t_nodes t_all t_np0 t_so t_laters t_waiting t_meanwhile t_goal t_atNext o.1 o.2.1 o.2.2.1 o.2.2.2.1 o.2.2.2.2.1 o.2.2.2.2.2.1 o.2.2.2.2.2.2.1 o.2.2.2.2.2.2.2)) := by
  intro l P hs
  refine g_ofG 4 (by decide +kernel) rfl (Nat.le_of_ble_eq_true rfl) (fun X hX => ?_)
  unfold F_T_finish at hs
  refine g_loc (L2 := [(0, .ref 0), (1, .int a1)]) [0, 1] rfl ?_
  refine g_blk 1 [(.aload_n 0, 0, 0, 0, 0)] [] [(0, .ref 0), (1, .int a1)] [.ref 0] (HT d_label d_tg d_places t_guesses t_nodes t_all t_np0 t_so t_laters t_waiting t_meanwhile t_goal t_atNext t_steps t_due t_met t_mbs t_reach t_ring t_core t_live) (by decide +kernel) rfl g_nil ?_
  refine g_fM (ct_T_makeSteps N d_label d_tg d_places t_guesses t_nodes t_all t_np0 t_so t_laters t_waiting t_meanwhile t_goal t_atNext t_steps t_due t_met t_mbs t_reach t_ring t_core t_live) 95 true 0 lk_4_95 (by decide +kernel) rfl ⟨rfl, rfl, by decide, by decide⟩ [] rfl (Nat.le_of_ble_eq_true rfl) (fun _ => ⟨0, 4, _, rfl, rfl, by decide, rfl⟩) hs (fun o1 hs => ?_)
  refine g_blk 6 [(.aload_n 0, 0, 0, 0, 0), (.iload_n 1, 0, 0, 0, 0)] [] [(0, .ref 0), (1, .int a1)] [.int a1, .ref 0] (HT d_label d_tg d_places t_guesses t_nodes t_all t_np0 t_so t_laters t_waiting t_meanwhile t_goal t_atNext o1 t_due t_met t_mbs t_reach t_ring t_core t_live) (by decide +kernel) rfl g_nil ?_
  refine g_fM (ct_T_makeDue N d_label d_tg d_places t_guesses t_nodes t_all t_np0 t_so t_laters t_waiting t_meanwhile t_goal t_atNext o1 t_due t_met t_mbs t_reach t_ring t_core t_live a1) 98 true 1 lk_4_98 (by decide +kernel) rfl ⟨rfl, rfl, by decide, by decide⟩ [] rfl (Nat.le_of_ble_eq_true rfl) (fun _ => ⟨0, 4, _, rfl, rfl, by decide, rfl⟩) hs (fun o2 hs => ?_)
  refine g_blk 10 [(.aload_n 0, 0, 0, 0, 0)] [] [(0, .ref 0), (1, .int a1)] [.ref 0] (HT d_label d_tg d_places t_guesses t_nodes t_all t_np0 t_so t_laters t_waiting t_meanwhile t_goal t_atNext o1 o2.1 o2.2.1 o2.2.2 t_reach t_ring t_core t_live) (by decide +kernel) rfl g_nil ?_
  refine g_fM (ct_T_makeReach N d_label d_tg d_places t_guesses t_nodes t_all t_np0 t_so t_laters t_waiting t_meanwhile t_goal t_atNext o1 o2.1 o2.2.1 o2.2.2 t_reach t_ring t_core t_live) 102 true 0 lk_4_102 (by decide +kernel) rfl ⟨rfl, rfl, by decide, by decide⟩ [] rfl (Nat.le_of_ble_eq_true rfl) (fun _ => ⟨0, 4, _, rfl, rfl, by decide, rfl⟩) hs (fun o3 hs => ?_)
  refine g_blk 14 [(.aload_n 0, 0, 0, 0, 0)] [] [(0, .ref 0), (1, .int a1)] [.ref 0] (HT d_label d_tg d_places t_guesses t_nodes t_all t_np0 t_so t_laters t_waiting t_meanwhile t_goal t_atNext o1 o2.1 o2.2.1 o2.2.2 o3 t_ring t_core t_live) (by decide +kernel) rfl g_nil ?_
  refine g_fM (ct_T_makeRings N d_label d_tg d_places t_guesses t_nodes t_all t_np0 t_so t_laters t_waiting t_meanwhile t_goal t_atNext o1 o2.1 o2.2.1 o2.2.2 o3 t_ring t_core t_live) 105 true 0 lk_4_105 (by decide +kernel) rfl ⟨rfl, rfl, by decide, by decide⟩ [] rfl (Nat.le_of_ble_eq_true rfl) (fun _ => ⟨0, 4, _, rfl, rfl, by decide, rfl⟩) hs (fun o4 hs => ?_)
  refine g_blk 18 [(.aload_n 0, 0, 0, 0, 0)] [] [(0, .ref 0), (1, .int a1)] [.ref 0] (HT d_label d_tg d_places t_guesses t_nodes t_all t_np0 t_so t_laters t_waiting t_meanwhile t_goal t_atNext o1 o2.1 o2.2.1 o2.2.2 o3 o4.1 o4.2 t_live) (by decide +kernel) rfl g_nil ?_
  refine g_fM (ct_T_makeLive N d_label d_tg d_places t_guesses t_nodes t_all t_np0 t_so t_laters t_waiting t_meanwhile t_goal t_atNext o1 o2.1 o2.2.1 o2.2.2 o3 o4.1 o4.2 t_live) 108 true 0 lk_4_108 (by decide +kernel) rfl ⟨rfl, rfl, by decide, by decide⟩ [] rfl (Nat.le_of_ble_eq_true rfl) (fun _ => ⟨0, 4, _, rfl, rfl, by decide, rfl⟩) hs (fun o5 hs => ?_)
  have hq := g_sat_s hs
  exact g_vret hX (by decide +kernel) rfl hq
