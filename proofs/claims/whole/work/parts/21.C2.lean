abbrev HG (d_label : Nat → Int32) (d_tg : Nat → Nat → Int32) (d_places : Int32) : List g_E := [.inr (1, [.int d_places, .ref 1, .ref 2]), .inl (.int, 8, .inl d_label), .inl (.array .int, 3, .inr (.inr (.inr (.inr (g_rl [3, 4, 5]))))), .inl (.int, 8, .inl (d_tg 0)), .inl (.int, 8, .inl (d_tg 1)), .inl (.int, 8, .inl (d_tg 2))]
theorem HG_rn (f : Nat → Nat) (d_label : Nat → Int32) (d_tg : Nat → Nat → Int32) (d_places : Int32) : (HG d_label d_tg d_places).map (g_rnE f) = [.inr (1, [.int d_places, .ref (f 1), .ref (f 2)]), .inl (.int, 8, .inl d_label), .inl (.array .int, 3, .inr (.inr (.inr (.inr (g_rl [f 3, f 4, f 5]))))), .inl (.int, 8, .inl (d_tg 0)), .inl (.int, 8, .inl (d_tg 1)), .inl (.int, 8, .inl (d_tg 2))] := by
  simp only [HG, List.map_cons, List.map_nil, g_rn_rl]
  rfl
abbrev rm_G_open : Room := { frames := 1, cells := 0, slots := 0, locals := 21 }
def G_open_l2 (b2_1 : Int32) : Nat → Int32 → (Nat → Nat → Int32) → Option (Nat → Nat → Int32)
  | 0, _, _ => none
  | n + 1, b3_5, w_tg_6 => (if (8 : Int32) ≤ b3_5 then (some w_tg_6) else (g_chk (g_inb b2_1 3) (g_chk (g_inb b3_5 8) (G_open_l2 b2_1 n (b3_5 + (1 : Int32)) (va_up w_tg_6 b2_1.toNatClampNeg (upd (w_tg_6 b2_1.toNatClampNeg) b3_5.toNatClampNeg (0 : Int32)))))))
theorem G_open_l2_s (b2_1 : Int32) (n : Nat) (b3_5 : Int32) (w_tg_6 : Nat → Nat → Int32) : G_open_l2 b2_1 (n + 1) b3_5 w_tg_6 = (if (8 : Int32) ≤ b3_5 then (some w_tg_6) else (g_chk (g_inb b2_1 3) (g_chk (g_inb b3_5 8) (G_open_l2 b2_1 n (b3_5 + (1 : Int32)) (va_up w_tg_6 b2_1.toNatClampNeg (upd (w_tg_6 b2_1.toNatClampNeg) b3_5.toNatClampNeg (0 : Int32))))))) := rfl
def G_open_l1 (N : Nat) : Nat → Int32 → (Nat → Nat → Int32) → Option (Nat → Nat → Int32)
  | 0, _, _ => none
  | n + 1, b2_1, w_tg_2 => (if (3 : Int32) ≤ b2_1 then (some w_tg_2) else ((G_open_l2 b2_1 N (0 : Int32) w_tg_2).bind fun o7 => (G_open_l1 N n (b2_1 + (1 : Int32)) o7)))
theorem G_open_l1_s (N : Nat) (n : Nat) (b2_1 : Int32) (w_tg_2 : Nat → Nat → Int32) : G_open_l1 N (n + 1) b2_1 w_tg_2 = (if (3 : Int32) ≤ b2_1 then (some w_tg_2) else ((G_open_l2 b2_1 N (0 : Int32) w_tg_2).bind fun o7 => (G_open_l1 N n (b2_1 + (1 : Int32)) o7))) := rfl
def F_G_open (N : Nat) (d_tg : Nat → Nat → Int32) (a1 : Int32) : Option ((Nat → Nat → Int32) × Int32) := ((G_open_l1 N N (0 : Int32) d_tg).bind fun o3 => (some (o3, (g_imax (0 : Int32) (g_imin a1 (8 : Int32))))))
set_option maxRecDepth 100000 in
theorem ct_G_open (N : Nat) (d_label : Nat → Int32) (d_tg : Nat → Nat → Int32) (d_places : Int32) (a1 : Int32) : g_F y_G_open c_G_open 4 none rm_G_open [.ref 0, .int a1] (HG d_label d_tg d_places) (F_G_open N d_tg a1) (fun o => none) (fun o => (HG d_label o.1 o.2)) := by
  intro l P hs
  refine g_ofG 1 (by decide +kernel) rfl (Nat.le_of_ble_eq_true rfl) (fun X hX => ?_)
  unfold F_G_open at hs
  refine g_loc (L2 := [(0, .ref 0), (1, .int a1)]) [0, 1] rfl ?_
  refine g_blk 16 [(.aload_n 0, 0, 0, 0, 0), (.iconst 0, 0, 0, 0, 0), (.iload_n 1, 0, 0, 0, 0), (.bipush 8, 0, 0, 8, 0), (.invokestatic 52, 1, 0, 0, 0), (.invokestatic 58, 2, 0, 0, 0), (.putfield 30, 1, 0, 1, 0), (.iconst 0, 0, 0, 0, 0), (.istore_n 2, 0, 0, 0, 0)] [1 ≤ rm_G_open.frames ∧ (([.int (0 : Int32), .ref 0] : List Value).map fun v => v.category).sum + 13 ≤ rm_G_open.locals, 1 ≤ rm_G_open.frames ∧ (([.ref 0] : List Value).map fun v => v.category).sum + 13 ≤ rm_G_open.locals] [(2, .int (0 : Int32)), (0, .ref 0), (1, .int a1)] [] (HG d_label d_tg (g_imax (0 : Int32) (g_imin a1 (8 : Int32)))) (by decide +kernel) rfl (g_and ⟨by decide, Nat.le_of_ble_eq_true rfl⟩ (g_and ⟨by decide, Nat.le_of_ble_eq_true rfl⟩ g_nil)) ?_
  refine g_loc (L2 := [(0, .ref 0), (2, .int (0 : Int32))]) [1, 0] rfl ?_
  refine g_join (fun (o3 : Nat → Nat → Int32) => g_G X rm_G_open c_G_open 4 1 none 50 [] [] (HG d_label o3 (g_imax (0 : Int32) (g_imin a1 (8 : Int32))))) hs (fun o3 hs => ?_) (fun hs => ?_)
  · have hq := g_sat_s hs
    exact g_vret hX (by decide +kernel) rfl hq
  · have hlG_open_l1 : ∀ (n : Nat) (b2_1 : Int32) (w_tg_2 : Nat → Nat → Int32), g_sat (G_open_l1 N n b2_1 w_tg_2) (fun (o3 : Nat → Nat → Int32) => g_G X rm_G_open c_G_open 4 1 none 50 [] [] (HG d_label o3 (g_imax (0 : Int32) (g_imin a1 (8 : Int32))))) → g_G X rm_G_open c_G_open 4 1 none 16 [(0, .ref 0), (2, .int b2_1)] [] (HG d_label w_tg_2 (g_imax (0 : Int32) (g_imin a1 (8 : Int32)))) := by
      intro n
      induction n with
      | zero =>
        intro b2_1 w_tg_2 hs
        obtain ⟨_, h0, _⟩ := hs
        cases h0
      | succ n ih =>
        intro b2_1 w_tg_2 hs
        rw [G_open_l1_s] at hs
        refine g_blk 18 [(.iload_n 2, 0, 0, 0, 0), (.iconst 3, 0, 0, 3, 0)] [] [(0, .ref 0), (2, .int b2_1)] [.int (3 : Int32), .int b2_1] (HG d_label w_tg_2 (g_imax (0 : Int32) (g_imin a1 (8 : Int32)))) (by decide +kernel) rfl g_nil ?_
        refine g_br 50 (.if_icmp .ge 32) ((3 : Int32) ≤ b2_1) [] (by decide +kernel) rfl (fun c4 => ?_) (fun c4 => ?_)
        · have hs := g_sat_t hs c4
          refine g_loc (L2 := []) [] rfl ?_
          have hq := g_sat_s hs
          exact hq
        · have hs := g_sat_f hs c4
          refine g_blk 23 [(.iconst 0, 0, 0, 0, 0), (.istore_n 3, 0, 0, 0, 0)] [] [(3, .int (0 : Int32)), (0, .ref 0), (2, .int b2_1)] [] (HG d_label w_tg_2 (g_imax (0 : Int32) (g_imin a1 (8 : Int32)))) (by decide +kernel) rfl g_nil ?_
          refine g_loc (L2 := [(0, .ref 0), (2, .int b2_1), (3, .int (0 : Int32))]) [1, 2, 0] rfl ?_
          refine g_join (fun (o7 : Nat → Nat → Int32) => g_G X rm_G_open c_G_open 4 1 none 44 [(0, .ref 0), (2, .int b2_1)] [] (HG d_label o7 (g_imax (0 : Int32) (g_imin a1 (8 : Int32))))) hs (fun o7 hs => ?_) (fun hs => ?_)
          · refine g_blk 16 [(.iinc 2 1, 0, 0, 1, 0), (.goto (-31), 0, 0, 0, 0)] [] [(2, .int (b2_1 + (1 : Int32))), (0, .ref 0)] [] (HG d_label o7 (g_imax (0 : Int32) (g_imin a1 (8 : Int32)))) (by decide +kernel) rfl g_nil ?_
            refine g_loc (L2 := [(0, .ref 0), (2, .int (b2_1 + (1 : Int32)))]) [1, 0] rfl ?_
            exact ih _ _ hs
          · have hlG_open_l2 : ∀ (n : Nat) (b3_5 : Int32) (w_tg_6 : Nat → Nat → Int32), g_sat (G_open_l2 b2_1 n b3_5 w_tg_6) (fun (o7 : Nat → Nat → Int32) => g_G X rm_G_open c_G_open 4 1 none 44 [(0, .ref 0), (2, .int b2_1)] [] (HG d_label o7 (g_imax (0 : Int32) (g_imin a1 (8 : Int32))))) → g_G X rm_G_open c_G_open 4 1 none 23 [(0, .ref 0), (2, .int b2_1), (3, .int b3_5)] [] (HG d_label w_tg_6 (g_imax (0 : Int32) (g_imin a1 (8 : Int32)))) := by
              intro n
              induction n with
              | zero =>
                intro b3_5 w_tg_6 hs
                obtain ⟨_, h0, _⟩ := hs
                cases h0
              | succ n ih =>
                intro b3_5 w_tg_6 hs
                rw [G_open_l2_s] at hs
                refine g_blk 26 [(.iload_n 3, 0, 0, 0, 0), (.bipush 8, 0, 0, 8, 0)] [] [(0, .ref 0), (2, .int b2_1), (3, .int b3_5)] [.int (8 : Int32), .int b3_5] (HG d_label w_tg_6 (g_imax (0 : Int32) (g_imin a1 (8 : Int32)))) (by decide +kernel) rfl g_nil ?_
                refine g_br 44 (.if_icmp .ge 18) ((8 : Int32) ≤ b3_5) [] (by decide +kernel) rfl (fun c8 => ?_) (fun c8 => ?_)
                · have hs := g_sat_t hs c8
                  refine g_loc (L2 := [(0, .ref 0), (2, .int b2_1)]) [0, 1] rfl ?_
                  have hq := g_sat_s hs
                  exact hq
                · have hs := g_sat_f hs c8
                  refine g_blk 34 [(.aload_n 0, 0, 0, 0, 0), (.getfield 17, 1, 2, 0, 0), (.iload_n 2, 0, 0, 0, 0)] [] [(0, .ref 0), (2, .int b2_1), (3, .int b3_5)] [.int b2_1, .ref 2] (HG d_label w_tg_6 (g_imax (0 : Int32) (g_imin a1 (8 : Int32)))) (by decide +kernel) rfl g_nil ?_
                  obtain ⟨h9, hs⟩ := g_sat_c hs
                  refine g_blk 35 [(.aaload, 0, 0, 0, 0)] [vp_in b2_1 3] [(0, .ref 0), (2, .int b2_1), (3, .int b3_5)] [.ref (3 + b2_1.toNatClampNeg)] (HG d_label w_tg_6 (g_imax (0 : Int32) (g_imin a1 (8 : Int32)))) (by decide +kernel) (by rcases (g_e3 h9) with z1 | z1 | z1 <;> (rw [z1]; rfl)) (g_and (g_inb_in h9) g_nil) ?_
                  obtain ⟨h10, hs⟩ := g_sat_c hs
                  refine g_blk 23 [(.iload_n 3, 0, 0, 0, 0), (.iconst 0, 0, 0, 0, 0), (.iastore, 0, 0, 0, 0), (.iinc 3 1, 0, 0, 1, 0), (.goto (-18), 0, 0, 0, 0)] [vp_in b3_5 8] [(3, .int (b3_5 + (1 : Int32))), (0, .ref 0), (2, .int b2_1)] [] (HG d_label (va_up w_tg_6 b2_1.toNatClampNeg (upd (w_tg_6 b2_1.toNatClampNeg) b3_5.toNatClampNeg (0 : Int32))) (g_imax (0 : Int32) (g_imin a1 (8 : Int32)))) (by decide +kernel) (by rcases (g_c3 h9) with z1 | z1 | z1 <;> (rw [z1]; rfl)) (g_and (g_inb_in h10) g_nil) ?_
                  refine g_loc (L2 := [(0, .ref 0), (2, .int b2_1), (3, .int (b3_5 + (1 : Int32)))]) [1, 2, 0] rfl ?_
                  exact ih _ _ hs
            exact hlG_open_l2 N _ _ hs
    exact hlG_open_l1 N _ _ hs
abbrev rm_G_join : Room := { frames := 0, cells := 0, slots := 0, locals := 0 }
def F_G_join (d_tg : Nat → Nat → Int32) (d_places : Int32) (a1 : Int32) (a2 : Int32) (a3 : Int32) : Option (Nat → Nat → Int32) := (if a1 < 0 then (some d_tg) else (if (3 : Int32) ≤ a1 then (some d_tg) else (if a2 < 0 then (some d_tg) else (if d_places ≤ a2 then (some d_tg) else (if a3 < 0 then (some d_tg) else (if a3 < d_places then (g_chk (g_inb a1 3) (g_chk (g_inb a2 8) (g_chk (g_inb a2 8) (some (va_up d_tg a1.toNatClampNeg (upd (d_tg a1.toNatClampNeg) a2.toNatClampNeg (((d_tg a1.toNatClampNeg) a2.toNatClampNeg) ||| (g_ishl (1 : Int32) a3)))))))) else (some d_tg)))))))
set_option maxRecDepth 100000 in
theorem ct_G_join (d_label : Nat → Int32) (d_tg : Nat → Nat → Int32) (d_places : Int32) (a1 : Int32) (a2 : Int32) (a3 : Int32) : g_F y_G_join c_G_join 4 none rm_G_join [.ref 0, .int a1, .int a2, .int a3] (HG d_label d_tg d_places) (F_G_join d_tg d_places a1 a2 a3) (fun o => none) (fun o => (HG d_label o d_places)) := by
  intro l P hs
  refine g_ofG 1 (by decide +kernel) rfl (Nat.le_of_ble_eq_true rfl) (fun X hX => ?_)
  unfold F_G_join at hs
  refine g_loc (L2 := [(0, .ref 0), (1, .int a1), (2, .int a2), (3, .int a3)]) [0, 1, 2, 3] rfl ?_
  refine g_blk 1 [(.iload_n 1, 0, 0, 0, 0)] [] [(0, .ref 0), (1, .int a1), (2, .int a2), (3, .int a3)] [.int a1] (HG d_label d_tg d_places) (by decide +kernel) rfl g_nil ?_
  refine g_br 33 (.ifCond .lt 32) (a1 < 0) [] (by decide +kernel) rfl (fun c1 => ?_) (fun c1 => ?_)
  · have hs := g_sat_t hs c1
    have hq := g_sat_s hs
    exact g_vret hX (by decide +kernel) rfl hq
  · have hs := g_sat_f hs c1
    refine g_blk 6 [(.iload_n 1, 0, 0, 0, 0), (.iconst 3, 0, 0, 3, 0)] [] [(0, .ref 0), (1, .int a1), (2, .int a2), (3, .int a3)] [.int (3 : Int32), .int a1] (HG d_label d_tg d_places) (by decide +kernel) rfl g_nil ?_
    refine g_br 33 (.if_icmp .ge 27) ((3 : Int32) ≤ a1) [] (by decide +kernel) rfl (fun c2 => ?_) (fun c2 => ?_)
    · have hs := g_sat_t hs c2
      have hq := g_sat_s hs
      exact g_vret hX (by decide +kernel) rfl hq
    · have hs := g_sat_f hs c2
      refine g_blk 10 [(.iload_n 2, 0, 0, 0, 0)] [] [(0, .ref 0), (1, .int a1), (2, .int a2), (3, .int a3)] [.int a2] (HG d_label d_tg d_places) (by decide +kernel) rfl g_nil ?_
      refine g_br 33 (.ifCond .lt 23) (a2 < 0) [] (by decide +kernel) rfl (fun c3 => ?_) (fun c3 => ?_)
      · have hs := g_sat_t hs c3
        have hq := g_sat_s hs
        exact g_vret hX (by decide +kernel) rfl hq
      · have hs := g_sat_f hs c3
        refine g_blk 18 [(.iload_n 2, 0, 0, 0, 0), (.aload_n 0, 0, 0, 0, 0), (.getfield 30, 1, 0, 0, 0)] [] [(0, .ref 0), (1, .int a1), (2, .int a2), (3, .int a3)] [.int d_places, .int a2] (HG d_label d_tg d_places) (by decide +kernel) rfl g_nil ?_
        refine g_br 33 (.if_icmp .ge 15) (d_places ≤ a2) [] (by decide +kernel) rfl (fun c4 => ?_) (fun c4 => ?_)
        · have hs := g_sat_t hs c4
          have hq := g_sat_s hs
          exact g_vret hX (by decide +kernel) rfl hq
        · have hs := g_sat_f hs c4
          refine g_blk 22 [(.iload_n 3, 0, 0, 0, 0)] [] [(0, .ref 0), (1, .int a1), (2, .int a2), (3, .int a3)] [.int a3] (HG d_label d_tg d_places) (by decide +kernel) rfl g_nil ?_
          refine g_br 33 (.ifCond .lt 11) (a3 < 0) [] (by decide +kernel) rfl (fun c5 => ?_) (fun c5 => ?_)
          · have hs := g_sat_t hs c5
            have hq := g_sat_s hs
            exact g_vret hX (by decide +kernel) rfl hq
          · have hs := g_sat_f hs c5
            refine g_blk 30 [(.iload_n 3, 0, 0, 0, 0), (.aload_n 0, 0, 0, 0, 0), (.getfield 30, 1, 0, 0, 0)] [] [(0, .ref 0), (1, .int a1), (2, .int a2), (3, .int a3)] [.int d_places, .int a3] (HG d_label d_tg d_places) (by decide +kernel) rfl g_nil ?_
            refine g_br 34 (.if_icmp .lt 4) (a3 < d_places) [] (by decide +kernel) rfl (fun c6 => ?_) (fun c6 => ?_)
            · have hs := g_sat_t hs c6
              refine g_blk 39 [(.aload_n 0, 0, 0, 0, 0), (.getfield 17, 1, 2, 0, 0), (.iload_n 1, 0, 0, 0, 0)] [] [(0, .ref 0), (1, .int a1), (2, .int a2), (3, .int a3)] [.int a1, .ref 2] (HG d_label d_tg d_places) (by decide +kernel) rfl g_nil ?_
              obtain ⟨h7, hs⟩ := g_sat_c hs
              refine g_blk 40 [(.aaload, 0, 0, 0, 0)] [vp_in a1 3] [(0, .ref 0), (1, .int a1), (2, .int a2), (3, .int a3)] [.ref (3 + a1.toNatClampNeg)] (HG d_label d_tg d_places) (by decide +kernel) (by rcases (g_e3 h7) with z1 | z1 | z1 <;> (rw [z1]; rfl)) (g_and (g_inb_in h7) g_nil) ?_
              obtain ⟨h8, hs⟩ := g_sat_c hs
              obtain ⟨h9, hs⟩ := g_sat_c hs
              refine g_blk 48 [(.iload_n 2, 0, 0, 0, 0), (.dup2, 0, 0, 0, 0), (.iaload, 0, 0, 0, 0), (.iconst 1, 0, 0, 1, 0), (.iload_n 3, 0, 0, 0, 0), (.ishl, 0, 0, 0, 0), (.ior, 0, 0, 0, 0), (.iastore, 0, 0, 0, 0)] [vp_in a2 8, vp_in a2 8] [(0, .ref 0), (1, .int a1), (2, .int a2), (3, .int a3)] [] (HG d_label (va_up d_tg a1.toNatClampNeg (upd (d_tg a1.toNatClampNeg) a2.toNatClampNeg (((d_tg a1.toNatClampNeg) a2.toNatClampNeg) ||| (g_ishl (1 : Int32) a3)))) d_places) (by decide +kernel) (by rcases (g_c3 h7) with z1 | z1 | z1 <;> (rw [z1]; rfl)) (g_and (g_inb_in h8) (g_and (g_inb_in h9) g_nil)) ?_
              have hq := g_sat_s hs
              exact g_vret hX (by decide +kernel) rfl hq
            · have hs := g_sat_f hs c6
              have hq := g_sat_s hs
              exact g_vret hX (by decide +kernel) rfl hq
abbrev HGW (d_label : Nat → Int32) (d_tg : Nat → Nat → Int32) (d_places : Int32) (w_states : Int32) (w_moveCount : Int32) (w_stateLabel : Nat → Int32) (w_moveActor : Nat → Int32) (w_moveFrom : Nat → Int32) (w_moveTo : Nat → Int32) (w_csz : Int32) (w_clt : Int32) (w_cle : Nat → Int32) (w_ssz : Nat → Int32) (w_slt : Nat → Int32) (w_sle : Nat → Nat → Int32) : List g_E := [.inr (1, [.int d_places, .ref 1, .ref 2]), .inl (.int, 8, .inl d_label), .inl (.array .int, 3, .inr (.inr (.inr (.inr (g_rl [3, 4, 5]))))), .inl (.int, 8, .inl (d_tg 0)), .inl (.int, 8, .inl (d_tg 1)), .inl (.int, 8, .inl (d_tg 2)), .inr (5, [.int w_states, .int w_moveCount, .ref 7, .ref 8, .ref 9, .ref 10, .ref 11, .ref 13]), .inl (.int, 5, .inl w_stateLabel), .inl (.int, 10, .inl w_moveActor), .inl (.int, 10, .inl w_moveFrom), .inl (.int, 10, .inl w_moveTo), .inr (0, [.ref 12, .int w_csz, .int w_clt]), .inl (.int, 16, .inl w_cle), .inl (.object "LassoPaths$Formula", 3, .inr (.inr (.inr (.inr (g_rl [14, 16, 18]))))), .inr (0, [.ref 15, .int (w_ssz 0), .int (w_slt 0)]), .inl (.int, 16, .inl (w_sle 0)), .inr (0, [.ref 17, .int (w_ssz 1), .int (w_slt 1)]), .inl (.int, 16, .inl (w_sle 1)), .inr (0, [.ref 19, .int (w_ssz 2), .int (w_slt 2)]), .inl (.int, 16, .inl (w_sle 2))]
theorem HGW_rn (f : Nat → Nat) (d_label : Nat → Int32) (d_tg : Nat → Nat → Int32) (d_places : Int32) (w_states : Int32) (w_moveCount : Int32) (w_stateLabel : Nat → Int32) (w_moveActor : Nat → Int32) (w_moveFrom : Nat → Int32) (w_moveTo : Nat → Int32) (w_csz : Int32) (w_clt : Int32) (w_cle : Nat → Int32) (w_ssz : Nat → Int32) (w_slt : Nat → Int32) (w_sle : Nat → Nat → Int32) : (HGW d_label d_tg d_places w_states w_moveCount w_stateLabel w_moveActor w_moveFrom w_moveTo w_csz w_clt w_cle w_ssz w_slt w_sle).map (g_rnE f) = [.inr (1, [.int d_places, .ref (f 1), .ref (f 2)]), .inl (.int, 8, .inl d_label), .inl (.array .int, 3, .inr (.inr (.inr (.inr (g_rl [f 3, f 4, f 5]))))), .inl (.int, 8, .inl (d_tg 0)), .inl (.int, 8, .inl (d_tg 1)), .inl (.int, 8, .inl (d_tg 2)), .inr (5, [.int w_states, .int w_moveCount, .ref (f 7), .ref (f 8), .ref (f 9), .ref (f 10), .ref (f 11), .ref (f 13)]), .inl (.int, 5, .inl w_stateLabel), .inl (.int, 10, .inl w_moveActor), .inl (.int, 10, .inl w_moveFrom), .inl (.int, 10, .inl w_moveTo), .inr (0, [.ref (f 12), .int w_csz, .int w_clt]), .inl (.int, 16, .inl w_cle), .inl (.object "LassoPaths$Formula", 3, .inr (.inr (.inr (.inr (g_rl [f 14, f 16, f 18]))))), .inr (0, [.ref (f 15), .int (w_ssz 0), .int (w_slt 0)]), .inl (.int, 16, .inl (w_sle 0)), .inr (0, [.ref (f 17), .int (w_ssz 1), .int (w_slt 1)]), .inl (.int, 16, .inl (w_sle 1)), .inr (0, [.ref (f 19), .int (w_ssz 2), .int (w_slt 2)]), .inl (.int, 16, .inl (w_sle 2))] := by
  simp only [HGW, List.map_cons, List.map_nil, g_rn_rl]
  rfl
abbrev rm_G_takeSystem : Room := { frames := 2, cells := 0, slots := 0, locals := 44 }
def G_takeSystem_l1 (o1 : (Nat → Nat → Int32) × Int32) (w_stateLabel : Nat → Int32) : Nat → Int32 → (Nat → Int32) → Option (Nat → Int32)
  | 0, _, _ => none
  | n + 1, b2_2, w_label_3 => (if o1.2 ≤ b2_2 then (some w_label_3) else (if (5 : Int32) ≤ b2_2 then (some w_label_3) else (g_chk (g_inb b2_2 5) (g_chk (g_inb b2_2 8) (G_takeSystem_l1 o1 w_stateLabel n (b2_2 + (1 : Int32)) (upd w_label_3 b2_2.toNatClampNeg (w_stateLabel b2_2.toNatClampNeg)))))))
theorem G_takeSystem_l1_s (o1 : (Nat → Nat → Int32) × Int32) (w_stateLabel : Nat → Int32) (n : Nat) (b2_2 : Int32) (w_label_3 : Nat → Int32) : G_takeSystem_l1 o1 w_stateLabel (n + 1) b2_2 w_label_3 = (if o1.2 ≤ b2_2 then (some w_label_3) else (if (5 : Int32) ≤ b2_2 then (some w_label_3) else (g_chk (g_inb b2_2 5) (g_chk (g_inb b2_2 8) (G_takeSystem_l1 o1 w_stateLabel n (b2_2 + (1 : Int32)) (upd w_label_3 b2_2.toNatClampNeg (w_stateLabel b2_2.toNatClampNeg))))))) := rfl
def G_takeSystem_l2 (w_moveCount : Int32) (o1 : (Nat → Nat → Int32) × Int32) (w_moveActor : Nat → Int32) (w_moveFrom : Nat → Int32) (w_moveTo : Nat → Int32) : Nat → Int32 → (Nat → Nat → Int32) → Option (Nat → Nat → Int32)
  | 0, _, _ => none
  | n + 1, b2_9, w_tg_10 => (if w_moveCount ≤ b2_9 then (some w_tg_10) else (if (10 : Int32) ≤ b2_9 then (some w_tg_10) else (g_chk (g_inb b2_9 10) (g_chk (g_inb b2_9 10) (g_chk (g_inb b2_9 10) ((F_G_join w_tg_10 o1.2 (w_moveActor b2_9.toNatClampNeg) (w_moveFrom b2_9.toNatClampNeg) (w_moveTo b2_9.toNatClampNeg)).bind fun o17 => (G_takeSystem_l2 w_moveCount o1 w_moveActor w_moveFrom w_moveTo n (b2_9 + (1 : Int32)) o17)))))))
theorem G_takeSystem_l2_s (w_moveCount : Int32) (o1 : (Nat → Nat → Int32) × Int32) (w_moveActor : Nat → Int32) (w_moveFrom : Nat → Int32) (w_moveTo : Nat → Int32) (n : Nat) (b2_9 : Int32) (w_tg_10 : Nat → Nat → Int32) : G_takeSystem_l2 w_moveCount o1 w_moveActor w_moveFrom w_moveTo (n + 1) b2_9 w_tg_10 = (if w_moveCount ≤ b2_9 then (some w_tg_10) else (if (10 : Int32) ≤ b2_9 then (some w_tg_10) else (g_chk (g_inb b2_9 10) (g_chk (g_inb b2_9 10) (g_chk (g_inb b2_9 10) ((F_G_join w_tg_10 o1.2 (w_moveActor b2_9.toNatClampNeg) (w_moveFrom b2_9.toNatClampNeg) (w_moveTo b2_9.toNatClampNeg)).bind fun o17 => (G_takeSystem_l2 w_moveCount o1 w_moveActor w_moveFrom w_moveTo n (b2_9 + (1 : Int32)) o17))))))) := rfl
def G_takeSystem_l3 (o1 : (Nat → Nat → Int32) × Int32) : Nat → Int32 → (Nat → Nat → Int32) → Option (Nat → Nat → Int32)
  | 0, _, _ => none
  | n + 1, b2_18, w_tg_19 => (if o1.2 ≤ b2_18 then (some w_tg_19) else (g_chk (g_inb b2_18 8) ((if ((w_tg_19 0) b2_18.toNatClampNeg) = 0 then (g_chk (g_inb b2_18 8) (if ((w_tg_19 1) b2_18.toNatClampNeg) = 0 then ((F_G_join w_tg_19 o1.2 (2 : Int32) b2_18 b2_18).bind fun o28 => (some o28)) else (some w_tg_19))) else (some w_tg_19)).bind fun o25 => (G_takeSystem_l3 o1 n (b2_18 + (1 : Int32)) o25))))
theorem G_takeSystem_l3_s (o1 : (Nat → Nat → Int32) × Int32) (n : Nat) (b2_18 : Int32) (w_tg_19 : Nat → Nat → Int32) : G_takeSystem_l3 o1 (n + 1) b2_18 w_tg_19 = (if o1.2 ≤ b2_18 then (some w_tg_19) else (g_chk (g_inb b2_18 8) ((if ((w_tg_19 0) b2_18.toNatClampNeg) = 0 then (g_chk (g_inb b2_18 8) (if ((w_tg_19 1) b2_18.toNatClampNeg) = 0 then ((F_G_join w_tg_19 o1.2 (2 : Int32) b2_18 b2_18).bind fun o28 => (some o28)) else (some w_tg_19))) else (some w_tg_19)).bind fun o25 => (G_takeSystem_l3 o1 n (b2_18 + (1 : Int32)) o25)))) := rfl
def F_G_takeSystem (N : Nat) (d_label : Nat → Int32) (d_tg : Nat → Nat → Int32) (w_states : Int32) (w_moveCount : Int32) (w_stateLabel : Nat → Int32) (w_moveActor : Nat → Int32) (w_moveFrom : Nat → Int32) (w_moveTo : Nat → Int32) : Option ((Nat → Int32) × (Nat → Nat → Int32) × Int32) := ((F_G_open N d_tg w_states).bind fun o1 => ((G_takeSystem_l1 o1 w_stateLabel N (0 : Int32) d_label).bind fun o4 => ((G_takeSystem_l2 w_moveCount o1 w_moveActor w_moveFrom w_moveTo N (0 : Int32) o1.1).bind fun o11 => ((G_takeSystem_l3 o1 N (0 : Int32) o11).bind fun o20 => (some (o4, o20, o1.2))))))
set_option maxRecDepth 100000 in
theorem ct_G_takeSystem (N : Nat) (d_label : Nat → Int32) (d_tg : Nat → Nat → Int32) (d_places : Int32) (w_states : Int32) (w_moveCount : Int32) (w_stateLabel : Nat → Int32) (w_moveActor : Nat → Int32) (w_moveFrom : Nat → Int32) (w_moveTo : Nat → Int32) (w_csz : Int32) (w_clt : Int32) (w_cle : Nat → Int32) (w_ssz : Nat → Int32) (w_slt : Nat → Int32) (w_sle : Nat → Nat → Int32) : g_F y_G_takeSystem c_G_takeSystem 3 none rm_G_takeSystem [.ref 0, .ref 6] (HGW d_label d_tg d_places w_states w_moveCount w_stateLabel w_moveActor w_moveFrom w_moveTo w_csz w_clt w_cle w_ssz w_slt w_sle) (F_G_takeSystem N d_label d_tg w_states w_moveCount w_stateLabel w_moveActor w_moveFrom w_moveTo) (fun o => none) (fun o => (HGW o.1 o.2.1 o.2.2 w_states w_moveCount w_stateLabel w_moveActor w_moveFrom w_moveTo w_csz w_clt w_cle w_ssz w_slt w_sle)) := by
  intro l P hs
  refine g_ofG 1 (by decide +kernel) rfl (Nat.le_of_ble_eq_true rfl) (fun X hX => ?_)
  unfold F_G_takeSystem at hs
  refine g_loc (L2 := [(0, .ref 0), (1, .ref 6)]) [0, 1] rfl ?_
  refine g_blk 5 [(.aload_n 0, 0, 0, 0, 0), (.aload_n 1, 0, 0, 0, 0), (.getfield 20, 5, 0, 0, 0)] [] [(0, .ref 0), (1, .ref 6)] [.int w_states, .ref 0] (HGW d_label d_tg d_places w_states w_moveCount w_stateLabel w_moveActor w_moveFrom w_moveTo w_csz w_clt w_cle w_ssz w_slt w_sle) (by decide +kernel) rfl g_nil ?_
  refine g_fP (ct_G_open N d_label d_tg d_places w_states) 26 true 1 lk_1_26 (by decide +kernel) rfl ⟨rfl, rfl, by decide, by decide⟩ [0, 1, 2, 3, 4, 5] [] rfl (Nat.le_of_ble_eq_true rfl) (by decide +kernel) (by rw [HG_rn]; rfl) (fun _ => ⟨0, 1, _, rfl, rfl, by decide, rfl⟩) hs (fun o1 hs => ?_)
  refine g_hp (hp2 := (HGW d_label o1.1 o1.2 w_states w_moveCount w_stateLabel w_moveActor w_moveFrom w_moveTo w_csz w_clt w_cle w_ssz w_slt w_sle)) (by rw [HG_rn]; rfl) ?_
  refine g_blk 10 [(.iconst 0, 0, 0, 0, 0), (.istore_n 2, 0, 0, 0, 0)] [] [(2, .int (0 : Int32)), (0, .ref 0), (1, .ref 6)] [] (HGW d_label o1.1 o1.2 w_states w_moveCount w_stateLabel w_moveActor w_moveFrom w_moveTo w_csz w_clt w_cle w_ssz w_slt w_sle) (by decide +kernel) rfl g_nil ?_
  refine g_loc (L2 := [(0, .ref 0), (1, .ref 6), (2, .int (0 : Int32))]) [1, 2, 0] rfl ?_
  refine g_join (fun (o4 : Nat → Int32) => g_G X rm_G_takeSystem c_G_takeSystem 3 1 none 41 [(0, .ref 0), (1, .ref 6)] [] (HGW o4 o1.1 o1.2 w_states w_moveCount w_stateLabel w_moveActor w_moveFrom w_moveTo w_csz w_clt w_cle w_ssz w_slt w_sle)) hs (fun o4 hs => ?_) (fun hs => ?_)
  · refine g_blk 43 [(.iconst 0, 0, 0, 0, 0), (.istore_n 2, 0, 0, 0, 0)] [] [(2, .int (0 : Int32)), (0, .ref 0), (1, .ref 6)] [] (HGW o4 o1.1 o1.2 w_states w_moveCount w_stateLabel w_moveActor w_moveFrom w_moveTo w_csz w_clt w_cle w_ssz w_slt w_sle) (by decide +kernel) rfl g_nil ?_
    refine g_loc (L2 := [(0, .ref 0), (1, .ref 6), (2, .int (0 : Int32))]) [1, 2, 0] rfl ?_
    refine g_join (fun (o11 : Nat → Nat → Int32) => g_G X rm_G_takeSystem c_G_takeSystem 3 1 none 85 [(0, .ref 0)] [] (HGW o4 o11 o1.2 w_states w_moveCount w_stateLabel w_moveActor w_moveFrom w_moveTo w_csz w_clt w_cle w_ssz w_slt w_sle)) hs (fun o11 hs => ?_) (fun hs => ?_)
    · refine g_blk 87 [(.iconst 0, 0, 0, 0, 0), (.istore_n 2, 0, 0, 0, 0)] [] [(2, .int (0 : Int32)), (0, .ref 0)] [] (HGW o4 o11 o1.2 w_states w_moveCount w_stateLabel w_moveActor w_moveFrom w_moveTo w_csz w_clt w_cle w_ssz w_slt w_sle) (by decide +kernel) rfl g_nil ?_
      refine g_loc (L2 := [(0, .ref 0), (2, .int (0 : Int32))]) [1, 0] rfl ?_
      refine g_join (fun (o20 : Nat → Nat → Int32) => g_G X rm_G_takeSystem c_G_takeSystem 3 1 none 130 [] [] (HGW o4 o20 o1.2 w_states w_moveCount w_stateLabel w_moveActor w_moveFrom w_moveTo w_csz w_clt w_cle w_ssz w_slt w_sle)) hs (fun o20 hs => ?_) (fun hs => ?_)
      · have hq := g_sat_s hs
        exact g_vret hX (by decide +kernel) rfl hq
      · have hlG_takeSystem_l3 : ∀ (n : Nat) (b2_18 : Int32) (w_tg_19 : Nat → Nat → Int32), g_sat (G_takeSystem_l3 o1 n b2_18 w_tg_19) (fun (o20 : Nat → Nat → Int32) => g_G X rm_G_takeSystem c_G_takeSystem 3 1 none 130 [] [] (HGW o4 o20 o1.2 w_states w_moveCount w_stateLabel w_moveActor w_moveFrom w_moveTo w_csz w_clt w_cle w_ssz w_slt w_sle)) → g_G X rm_G_takeSystem c_G_takeSystem 3 1 none 87 [(0, .ref 0), (2, .int b2_18)] [] (HGW o4 w_tg_19 o1.2 w_states w_moveCount w_stateLabel w_moveActor w_moveFrom w_moveTo w_csz w_clt w_cle w_ssz w_slt w_sle) := by
          intro n
          induction n with
          | zero =>
            intro b2_18 w_tg_19 hs
            obtain ⟨_, h0, _⟩ := hs
            cases h0
          | succ n ih =>
            intro b2_18 w_tg_19 hs
            rw [G_takeSystem_l3_s] at hs
            refine g_blk 92 [(.iload_n 2, 0, 0, 0, 0), (.aload_n 0, 0, 0, 0, 0), (.getfield 30, 1, 0, 0, 0)] [] [(0, .ref 0), (2, .int b2_18)] [.int o1.2, .int b2_18] (HGW o4 w_tg_19 o1.2 w_states w_moveCount w_stateLabel w_moveActor w_moveFrom w_moveTo w_csz w_clt w_cle w_ssz w_slt w_sle) (by decide +kernel) rfl g_nil ?_
            refine g_br 130 (.if_icmp .ge 38) (o1.2 ≤ b2_18) [] (by decide +kernel) rfl (fun c21 => ?_) (fun c21 => ?_)
            · have hs := g_sat_t hs c21
              refine g_loc (L2 := []) [] rfl ?_
              have hq := g_sat_s hs
              exact hq
            · have hs := g_sat_f hs c21
              refine g_blk 100 [(.aload_n 0, 0, 0, 0, 0), (.getfield 17, 1, 2, 0, 0), (.iconst 0, 0, 0, 0, 0)] [] [(0, .ref 0), (2, .int b2_18)] [.int (0 : Int32), .ref 2] (HGW o4 w_tg_19 o1.2 w_states w_moveCount w_stateLabel w_moveActor w_moveFrom w_moveTo w_csz w_clt w_cle w_ssz w_slt w_sle) (by decide +kernel) rfl g_nil ?_
              obtain ⟨h22, hs⟩ := g_sat_c hs
              refine g_blk 103 [(.aaload, 0, 0, 0, 0), (.iload_n 2, 0, 0, 0, 0), (.iaload, 0, 0, 0, 0)] [vp_in (0 : Int32) 3, vp_in b2_18 8] [(0, .ref 0), (2, .int b2_18)] [.int ((w_tg_19 0) b2_18.toNatClampNeg)] (HGW o4 w_tg_19 o1.2 w_states w_moveCount w_stateLabel w_moveActor w_moveFrom w_moveTo w_csz w_clt w_cle w_ssz w_slt w_sle) (by decide +kernel) rfl (g_and (g_inb_in (by decide +kernel)) (g_and (g_inb_in h22) g_nil)) ?_
              refine g_join (fun (o25 : Nat → Nat → Int32) => g_G X rm_G_takeSystem c_G_takeSystem 3 1 none 124 [(0, .ref 0), (2, .int b2_18)] [] (HGW o4 o25 o1.2 w_states w_moveCount w_stateLabel w_moveActor w_moveFrom w_moveTo w_csz w_clt w_cle w_ssz w_slt w_sle)) hs (fun o25 hs => ?_) (fun hs => ?_)
              · refine g_blk 87 [(.iinc 2 1, 0, 0, 1, 0), (.goto (-40), 0, 0, 0, 0)] [] [(2, .int (b2_18 + (1 : Int32))), (0, .ref 0)] [] (HGW o4 o25 o1.2 w_states w_moveCount w_stateLabel w_moveActor w_moveFrom w_moveTo w_csz w_clt w_cle w_ssz w_slt w_sle) (by decide +kernel) rfl g_nil ?_
                refine g_loc (L2 := [(0, .ref 0), (2, .int (b2_18 + (1 : Int32)))]) [1, 0] rfl ?_
                exact ih _ _ hs
              · refine g_brn 124 (.ifCond .ne 21) (((w_tg_19 0) b2_18.toNatClampNeg) = 0) [] (by decide +kernel) rfl (fun c23 => ?_) (fun c23 => ?_)
                · have hs := g_sat_f hs c23
                  have hq := g_sat_s hs
                  exact hq
                · have hs := g_sat_t hs c23
                  refine g_blk 111 [(.aload_n 0, 0, 0, 0, 0), (.getfield 17, 1, 2, 0, 0), (.iconst 1, 0, 0, 1, 0)] [] [(0, .ref 0), (2, .int b2_18)] [.int (1 : Int32), .ref 2] (HGW o4 w_tg_19 o1.2 w_states w_moveCount w_stateLabel w_moveActor w_moveFrom w_moveTo w_csz w_clt w_cle w_ssz w_slt w_sle) (by decide +kernel) rfl g_nil ?_
                  obtain ⟨h26, hs⟩ := g_sat_c hs
                  refine g_blk 114 [(.aaload, 0, 0, 0, 0), (.iload_n 2, 0, 0, 0, 0), (.iaload, 0, 0, 0, 0)] [vp_in (1 : Int32) 3, vp_in b2_18 8] [(0, .ref 0), (2, .int b2_18)] [.int ((w_tg_19 1) b2_18.toNatClampNeg)] (HGW o4 w_tg_19 o1.2 w_states w_moveCount w_stateLabel w_moveActor w_moveFrom w_moveTo w_csz w_clt w_cle w_ssz w_slt w_sle) (by decide +kernel) rfl (g_and (g_inb_in (by decide +kernel)) (g_and (g_inb_in h26) g_nil)) ?_
                  refine g_brn 124 (.ifCond .ne 10) (((w_tg_19 1) b2_18.toNatClampNeg) = 0) [] (by decide +kernel) rfl (fun c27 => ?_) (fun c27 => ?_)
                  · have hs := g_sat_f hs c27
                    have hq := g_sat_s hs
                    exact hq
                  · have hs := g_sat_t hs c27
                    refine g_blk 121 [(.aload_n 0, 0, 0, 0, 0), (.iconst 2, 0, 0, 2, 0), (.iload_n 2, 0, 0, 0, 0), (.iload_n 2, 0, 0, 0, 0)] [] [(0, .ref 0), (2, .int b2_18)] [.int b2_18, .int b2_18, .int (2 : Int32), .ref 0] (HGW o4 w_tg_19 o1.2 w_states w_moveCount w_stateLabel w_moveActor w_moveFrom w_moveTo w_csz w_clt w_cle w_ssz w_slt w_sle) (by decide +kernel) rfl g_nil ?_
                    refine g_fP (ct_G_join o4 w_tg_19 o1.2 (2 : Int32) b2_18 b2_18) 48 true 3 lk_1_48 (by decide +kernel) rfl ⟨rfl, rfl, by decide, by decide⟩ [0, 1, 2, 3, 4, 5] [] rfl (Nat.le_of_ble_eq_true rfl) (by decide +kernel) (by rw [HG_rn]; rfl) (fun _ => ⟨0, 1, _, rfl, rfl, by decide, rfl⟩) hs (fun o28 hs => ?_)
                    refine g_hp (hp2 := (HGW o4 o28 o1.2 w_states w_moveCount w_stateLabel w_moveActor w_moveFrom w_moveTo w_csz w_clt w_cle w_ssz w_slt w_sle)) (by rw [HG_rn]; rfl) ?_
                    have hq := g_sat_s hs
                    exact hq
        exact hlG_takeSystem_l3 N _ _ hs
    · have hlG_takeSystem_l2 : ∀ (n : Nat) (b2_9 : Int32) (w_tg_10 : Nat → Nat → Int32), g_sat (G_takeSystem_l2 w_moveCount o1 w_moveActor w_moveFrom w_moveTo n b2_9 w_tg_10) (fun (o11 : Nat → Nat → Int32) => g_G X rm_G_takeSystem c_G_takeSystem 3 1 none 85 [(0, .ref 0)] [] (HGW o4 o11 o1.2 w_states w_moveCount w_stateLabel w_moveActor w_moveFrom w_moveTo w_csz w_clt w_cle w_ssz w_slt w_sle)) → g_G X rm_G_takeSystem c_G_takeSystem 3 1 none 43 [(0, .ref 0), (1, .ref 6), (2, .int b2_9)] [] (HGW o4 w_tg_10 o1.2 w_states w_moveCount w_stateLabel w_moveActor w_moveFrom w_moveTo w_csz w_clt w_cle w_ssz w_slt w_sle) := by
        intro n
        induction n with
        | zero =>
          intro b2_9 w_tg_10 hs
          obtain ⟨_, h0, _⟩ := hs
          cases h0
        | succ n ih =>
          intro b2_9 w_tg_10 hs
          rw [G_takeSystem_l2_s] at hs
          refine g_blk 48 [(.iload_n 2, 0, 0, 0, 0), (.aload_n 1, 0, 0, 0, 0), (.getfield 36, 5, 1, 0, 0)] [] [(0, .ref 0), (1, .ref 6), (2, .int b2_9)] [.int w_moveCount, .int b2_9] (HGW o4 w_tg_10 o1.2 w_states w_moveCount w_stateLabel w_moveActor w_moveFrom w_moveTo w_csz w_clt w_cle w_ssz w_slt w_sle) (by decide +kernel) rfl g_nil ?_
          refine g_br 85 (.if_icmp .ge 37) (w_moveCount ≤ b2_9) [] (by decide +kernel) rfl (fun c12 => ?_) (fun c12 => ?_)
          · have hs := g_sat_t hs c12
            refine g_loc (L2 := [(0, .ref 0)]) [0] rfl ?_
            have hq := g_sat_s hs
            exact hq
          · have hs := g_sat_f hs c12
            refine g_blk 54 [(.iload_n 2, 0, 0, 0, 0), (.bipush 10, 0, 0, 10, 0)] [] [(0, .ref 0), (1, .ref 6), (2, .int b2_9)] [.int (10 : Int32), .int b2_9] (HGW o4 w_tg_10 o1.2 w_states w_moveCount w_stateLabel w_moveActor w_moveFrom w_moveTo w_csz w_clt w_cle w_ssz w_slt w_sle) (by decide +kernel) rfl g_nil ?_
            refine g_br 85 (.if_icmp .ge 31) ((10 : Int32) ≤ b2_9) [] (by decide +kernel) rfl (fun c13 => ?_) (fun c13 => ?_)
            · have hs := g_sat_t hs c13
              refine g_loc (L2 := [(0, .ref 0)]) [0] rfl ?_
              have hq := g_sat_s hs
              exact hq
            · have hs := g_sat_f hs c13
              obtain ⟨h14, hs⟩ := g_sat_c hs
              obtain ⟨h15, hs⟩ := g_sat_c hs
              obtain ⟨h16, hs⟩ := g_sat_c hs
              refine g_blk 76 [(.aload_n 0, 0, 0, 0, 0), (.aload_n 1, 0, 0, 0, 0), (.getfield 39, 5, 3, 0, 0), (.iload_n 2, 0, 0, 0, 0), (.iaload, 0, 0, 0, 0), (.aload_n 1, 0, 0, 0, 0), (.getfield 42, 5, 4, 0, 0), (.iload_n 2, 0, 0, 0, 0), (.iaload, 0, 0, 0, 0), (.aload_n 1, 0, 0, 0, 0), (.getfield 45, 5, 5, 0, 0), (.iload_n 2, 0, 0, 0, 0), (.iaload, 0, 0, 0, 0)] [vp_in b2_9 10, vp_in b2_9 10, vp_in b2_9 10] [(0, .ref 0), (1, .ref 6), (2, .int b2_9)] [.int (w_moveTo b2_9.toNatClampNeg), .int (w_moveFrom b2_9.toNatClampNeg), .int (w_moveActor b2_9.toNatClampNeg), .ref 0] (HGW o4 w_tg_10 o1.2 w_states w_moveCount w_stateLabel w_moveActor w_moveFrom w_moveTo w_csz w_clt w_cle w_ssz w_slt w_sle) (by decide +kernel) rfl (g_and (g_inb_in h14) (g_and (g_inb_in h15) (g_and (g_inb_in h16) g_nil))) ?_
              refine g_fP (ct_G_join o4 w_tg_10 o1.2 (w_moveActor b2_9.toNatClampNeg) (w_moveFrom b2_9.toNatClampNeg) (w_moveTo b2_9.toNatClampNeg)) 48 true 3 lk_1_48 (by decide +kernel) rfl ⟨rfl, rfl, by decide, by decide⟩ [0, 1, 2, 3, 4, 5] [] rfl (Nat.le_of_ble_eq_true rfl) (by decide +kernel) (by rw [HG_rn]; rfl) (fun _ => ⟨0, 1, _, rfl, rfl, by decide, rfl⟩) hs (fun o17 hs => ?_)
              refine g_hp (hp2 := (HGW o4 o17 o1.2 w_states w_moveCount w_stateLabel w_moveActor w_moveFrom w_moveTo w_csz w_clt w_cle w_ssz w_slt w_sle)) (by rw [HG_rn]; rfl) ?_
              refine g_blk 43 [(.iinc 2 1, 0, 0, 1, 0), (.goto (-39), 0, 0, 0, 0)] [] [(2, .int (b2_9 + (1 : Int32))), (0, .ref 0), (1, .ref 6)] [] (HGW o4 o17 o1.2 w_states w_moveCount w_stateLabel w_moveActor w_moveFrom w_moveTo w_csz w_clt w_cle w_ssz w_slt w_sle) (by decide +kernel) rfl g_nil ?_
              refine g_loc (L2 := [(0, .ref 0), (1, .ref 6), (2, .int (b2_9 + (1 : Int32)))]) [1, 2, 0] rfl ?_
              exact ih _ _ hs
      exact hlG_takeSystem_l2 N _ _ hs
  · have hlG_takeSystem_l1 : ∀ (n : Nat) (b2_2 : Int32) (w_label_3 : Nat → Int32), g_sat (G_takeSystem_l1 o1 w_stateLabel n b2_2 w_label_3) (fun (o4 : Nat → Int32) => g_G X rm_G_takeSystem c_G_takeSystem 3 1 none 41 [(0, .ref 0), (1, .ref 6)] [] (HGW o4 o1.1 o1.2 w_states w_moveCount w_stateLabel w_moveActor w_moveFrom w_moveTo w_csz w_clt w_cle w_ssz w_slt w_sle)) → g_G X rm_G_takeSystem c_G_takeSystem 3 1 none 10 [(0, .ref 0), (1, .ref 6), (2, .int b2_2)] [] (HGW w_label_3 o1.1 o1.2 w_states w_moveCount w_stateLabel w_moveActor w_moveFrom w_moveTo w_csz w_clt w_cle w_ssz w_slt w_sle) := by
      intro n
      induction n with
      | zero =>
        intro b2_2 w_label_3 hs
        obtain ⟨_, h0, _⟩ := hs
        cases h0
      | succ n ih =>
        intro b2_2 w_label_3 hs
        rw [G_takeSystem_l1_s] at hs
        refine g_blk 15 [(.iload_n 2, 0, 0, 0, 0), (.aload_n 0, 0, 0, 0, 0), (.getfield 30, 1, 0, 0, 0)] [] [(0, .ref 0), (1, .ref 6), (2, .int b2_2)] [.int o1.2, .int b2_2] (HGW w_label_3 o1.1 o1.2 w_states w_moveCount w_stateLabel w_moveActor w_moveFrom w_moveTo w_csz w_clt w_cle w_ssz w_slt w_sle) (by decide +kernel) rfl g_nil ?_
        refine g_br 41 (.if_icmp .ge 26) (o1.2 ≤ b2_2) [] (by decide +kernel) rfl (fun c5 => ?_) (fun c5 => ?_)
        · have hs := g_sat_t hs c5
          refine g_loc (L2 := [(0, .ref 0), (1, .ref 6)]) [0, 1] rfl ?_
          have hq := g_sat_s hs
          exact hq
        · have hs := g_sat_f hs c5
          refine g_blk 20 [(.iload_n 2, 0, 0, 0, 0), (.iconst 5, 0, 0, 5, 0)] [] [(0, .ref 0), (1, .ref 6), (2, .int b2_2)] [.int (5 : Int32), .int b2_2] (HGW w_label_3 o1.1 o1.2 w_states w_moveCount w_stateLabel w_moveActor w_moveFrom w_moveTo w_csz w_clt w_cle w_ssz w_slt w_sle) (by decide +kernel) rfl g_nil ?_
          refine g_br 41 (.if_icmp .ge 21) ((5 : Int32) ≤ b2_2) [] (by decide +kernel) rfl (fun c6 => ?_) (fun c6 => ?_)
          · have hs := g_sat_t hs c6
            refine g_loc (L2 := [(0, .ref 0), (1, .ref 6)]) [0, 1] rfl ?_
            have hq := g_sat_s hs
            exact hq
          · have hs := g_sat_f hs c6
            obtain ⟨h7, hs⟩ := g_sat_c hs
            obtain ⟨h8, hs⟩ := g_sat_c hs
            refine g_blk 10 [(.aload_n 0, 0, 0, 0, 0), (.getfield 9, 1, 1, 0, 0), (.iload_n 2, 0, 0, 0, 0), (.aload_n 1, 0, 0, 0, 0), (.getfield 33, 5, 2, 0, 0), (.iload_n 2, 0, 0, 0, 0), (.iaload, 0, 0, 0, 0), (.iastore, 0, 0, 0, 0), (.iinc 2 1, 0, 0, 1, 0), (.goto (-28), 0, 0, 0, 0)] [vp_in b2_2 5, vp_in b2_2 8] [(2, .int (b2_2 + (1 : Int32))), (0, .ref 0), (1, .ref 6)] [] (HGW (upd w_label_3 b2_2.toNatClampNeg (w_stateLabel b2_2.toNatClampNeg)) o1.1 o1.2 w_states w_moveCount w_stateLabel w_moveActor w_moveFrom w_moveTo w_csz w_clt w_cle w_ssz w_slt w_sle) (by decide +kernel) rfl (g_and (g_inb_in h7) (g_and (g_inb_in h8) g_nil)) ?_
            refine g_loc (L2 := [(0, .ref 0), (1, .ref 6), (2, .int (b2_2 + (1 : Int32)))]) [1, 2, 0] rfl ?_
            exact ih _ _ hs
    exact hlG_takeSystem_l1 N _ _ hs
abbrev HGa (d_label : Nat → Int32) (d_tg : Nat → Nat → Int32) (d_places : Int32) (a_row : Nat → Int32) : List g_E := [.inr (1, [.int d_places, .ref 1, .ref 2]), .inl (.int, 8, .inl d_label), .inl (.array .int, 3, .inr (.inr (.inr (.inr (g_rl [3, 4, 5]))))), .inl (.int, 8, .inl (d_tg 0)), .inl (.int, 8, .inl (d_tg 1)), .inl (.int, 8, .inl (d_tg 2)), .inl (.int, 8, .inl a_row)]
theorem HGa_rn (f : Nat → Nat) (d_label : Nat → Int32) (d_tg : Nat → Nat → Int32) (d_places : Int32) (a_row : Nat → Int32) : (HGa d_label d_tg d_places a_row).map (g_rnE f) = [.inr (1, [.int d_places, .ref (f 1), .ref (f 2)]), .inl (.int, 8, .inl d_label), .inl (.array .int, 3, .inr (.inr (.inr (.inr (g_rl [f 3, f 4, f 5]))))), .inl (.int, 8, .inl (d_tg 0)), .inl (.int, 8, .inl (d_tg 1)), .inl (.int, 8, .inl (d_tg 2)), .inl (.int, 8, .inl a_row)] := by
  simp only [HGa, List.map_cons, List.map_nil, g_rn_rl]
  rfl
abbrev rm_G_takeRow : Room := { frames := 2, cells := 0, slots := 0, locals := 44 }
def G_takeRow_l1 (o1 : (Nat → Nat → Int32) × Int32) (a3 : Int32) (a_row : Nat → Int32) : Nat → Int32 → (Nat → Int32) → (Nat → Nat → Int32) → Option ((Nat → Int32) × (Nat → Nat → Int32))
  | 0, _, _, _ => none
  | n + 1, b4_2, w_label_3, w_tg_4 => (if o1.2 ≤ b4_2 then (some (w_label_3, w_tg_4)) else (g_chk (g_inb b4_2 8) (g_chk (g_inb b4_2 8) ((F_G_join w_tg_4 o1.2 (2 : Int32) b4_2 (if o1.2 ≤ (b4_2 + (1 : Int32)) then a3 else (b4_2 + (1 : Int32)))).bind fun o11 => (G_takeRow_l1 o1 a3 a_row n (b4_2 + (1 : Int32)) (upd w_label_3 b4_2.toNatClampNeg (a_row b4_2.toNatClampNeg)) o11)))))
theorem G_takeRow_l1_s (o1 : (Nat → Nat → Int32) × Int32) (a3 : Int32) (a_row : Nat → Int32) (n : Nat) (b4_2 : Int32) (w_label_3 : Nat → Int32) (w_tg_4 : Nat → Nat → Int32) : G_takeRow_l1 o1 a3 a_row (n + 1) b4_2 w_label_3 w_tg_4 = (if o1.2 ≤ b4_2 then (some (w_label_3, w_tg_4)) else (g_chk (g_inb b4_2 8) (g_chk (g_inb b4_2 8) ((F_G_join w_tg_4 o1.2 (2 : Int32) b4_2 (if o1.2 ≤ (b4_2 + (1 : Int32)) then a3 else (b4_2 + (1 : Int32)))).bind fun o11 => (G_takeRow_l1 o1 a3 a_row n (b4_2 + (1 : Int32)) (upd w_label_3 b4_2.toNatClampNeg (a_row b4_2.toNatClampNeg)) o11))))) := rfl
def F_G_takeRow (N : Nat) (d_label : Nat → Int32) (d_tg : Nat → Nat → Int32) (a_row : Nat → Int32) (a2 : Int32) (a3 : Int32) : Option ((Nat → Int32) × (Nat → Nat → Int32) × Int32) := ((F_G_open N d_tg (g_imin a2 (8 : Int32))).bind fun o1 => ((G_takeRow_l1 o1 a3 a_row N (0 : Int32) d_label o1.1).bind fun o5 => (some (o5.1, o5.2, o1.2))))
set_option maxRecDepth 100000 in
theorem ct_G_takeRow (N : Nat) (d_label : Nat → Int32) (d_tg : Nat → Nat → Int32) (d_places : Int32) (a_row : Nat → Int32) (a2 : Int32) (a3 : Int32) : g_F y_G_takeRow c_G_takeRow 5 none rm_G_takeRow [.ref 0, .ref 6, .int a2, .int a3] (HGa d_label d_tg d_places a_row) (F_G_takeRow N d_label d_tg a_row a2 a3) (fun o => none) (fun o => (HGa o.1 o.2.1 o.2.2 a_row)) := by
  intro l P hs
  refine g_ofG 1 (by decide +kernel) rfl (Nat.le_of_ble_eq_true rfl) (fun X hX => ?_)
  unfold F_G_takeRow at hs
  refine g_loc (L2 := [(0, .ref 0), (1, .ref 6), (2, .int a2), (3, .int a3)]) [0, 1, 2, 3] rfl ?_
  refine g_blk 7 [(.aload_n 0, 0, 0, 0, 0), (.iload_n 2, 0, 0, 0, 0), (.aload_n 1, 0, 0, 0, 0), (.arraylength, 0, 0, 0, 0), (.invokestatic 52, 1, 0, 0, 0)] [1 ≤ rm_G_takeRow.frames ∧ (([.ref 0] : List Value).map fun v => v.category).sum + 13 ≤ rm_G_takeRow.locals] [(0, .ref 0), (1, .ref 6), (2, .int a2), (3, .int a3)] [.int (g_imin a2 (8 : Int32)), .ref 0] (HGa d_label d_tg d_places a_row) (by decide +kernel) rfl (g_and ⟨by decide, Nat.le_of_ble_eq_true rfl⟩ g_nil) ?_
  refine g_fP (ct_G_open N d_label d_tg d_places (g_imin a2 (8 : Int32))) 26 true 1 lk_1_26 (by decide +kernel) rfl ⟨rfl, rfl, by decide, by decide⟩ [0, 1, 2, 3, 4, 5] [] rfl (Nat.le_of_ble_eq_true rfl) (by decide +kernel) (by rw [HG_rn]; rfl) (fun _ => ⟨0, 1, _, rfl, rfl, by decide, rfl⟩) hs (fun o1 hs => ?_)
  refine g_hp (hp2 := (HGa d_label o1.1 o1.2 a_row)) (by rw [HG_rn]; rfl) ?_
  refine g_blk 13 [(.iconst 0, 0, 0, 0, 0), (.istore 4, 0, 0, 0, 0)] [] [(4, .int (0 : Int32)), (0, .ref 0), (1, .ref 6), (2, .int a2), (3, .int a3)] [] (HGa d_label o1.1 o1.2 a_row) (by decide +kernel) rfl g_nil ?_
  refine g_loc (L2 := [(0, .ref 0), (1, .ref 6), (3, .int a3), (4, .int (0 : Int32))]) [1, 2, 4, 0] rfl ?_
  refine g_join (fun (o5 : (Nat → Int32) × (Nat → Nat → Int32)) => g_G X rm_G_takeRow c_G_takeRow 5 1 none 65 [] [] (HGa o5.1 o5.2 o1.2 a_row)) hs (fun o5 hs => ?_) (fun hs => ?_)
  · have hq := g_sat_s hs
    exact g_vret hX (by decide +kernel) rfl hq
  · have hlG_takeRow_l1 : ∀ (n : Nat) (b4_2 : Int32) (w_label_3 : Nat → Int32) (w_tg_4 : Nat → Nat → Int32), g_sat (G_takeRow_l1 o1 a3 a_row n b4_2 w_label_3 w_tg_4) (fun (o5 : (Nat → Int32) × (Nat → Nat → Int32)) => g_G X rm_G_takeRow c_G_takeRow 5 1 none 65 [] [] (HGa o5.1 o5.2 o1.2 a_row)) → g_G X rm_G_takeRow c_G_takeRow 5 1 none 13 [(0, .ref 0), (1, .ref 6), (3, .int a3), (4, .int b4_2)] [] (HGa w_label_3 w_tg_4 o1.2 a_row) := by
      intro n
      induction n with
      | zero =>
        intro b4_2 w_label_3 w_tg_4 hs
        obtain ⟨_, h0, _⟩ := hs
        cases h0
      | succ n ih =>
        intro b4_2 w_label_3 w_tg_4 hs
        rw [G_takeRow_l1_s] at hs
        refine g_blk 19 [(.iload 4, 0, 0, 0, 0), (.aload_n 0, 0, 0, 0, 0), (.getfield 30, 1, 0, 0, 0)] [] [(0, .ref 0), (1, .ref 6), (3, .int a3), (4, .int b4_2)] [.int o1.2, .int b4_2] (HGa w_label_3 w_tg_4 o1.2 a_row) (by decide +kernel) rfl g_nil ?_
        refine g_br 65 (.if_icmp .ge 46) (o1.2 ≤ b4_2) [] (by decide +kernel) rfl (fun c6 => ?_) (fun c6 => ?_)
        · have hs := g_sat_t hs c6
          refine g_loc (L2 := []) [] rfl ?_
          have hq := g_sat_s hs
          exact hq
        · have hs := g_sat_f hs c6
          obtain ⟨h7, hs⟩ := g_sat_c hs
          obtain ⟨h8, hs⟩ := g_sat_c hs
          refine g_blk 45 [(.aload_n 0, 0, 0, 0, 0), (.getfield 9, 1, 1, 0, 0), (.iload 4, 0, 0, 0, 0), (.aload_n 1, 0, 0, 0, 0), (.iload 4, 0, 0, 0, 0), (.iaload, 0, 0, 0, 0), (.iastore, 0, 0, 0, 0), (.aload_n 0, 0, 0, 0, 0), (.iconst 2, 0, 0, 2, 0), (.iload 4, 0, 0, 0, 0), (.iload 4, 0, 0, 0, 0), (.iconst 1, 0, 0, 1, 0), (.iadd, 0, 0, 0, 0), (.aload_n 0, 0, 0, 0, 0), (.getfield 30, 1, 0, 0, 0)] [vp_in b4_2 8, vp_in b4_2 8] [(0, .ref 0), (1, .ref 6), (3, .int a3), (4, .int b4_2)] [.int o1.2, .int (b4_2 + (1 : Int32)), .int b4_2, .int (2 : Int32), .ref 0] (HGa (upd w_label_3 b4_2.toNatClampNeg (a_row b4_2.toNatClampNeg)) w_tg_4 o1.2 a_row) (by decide +kernel) rfl (g_and (g_inb_in h7) (g_and (g_inb_in h8) g_nil)) ?_
          have hJ11 : ∀ (v10 : Int32) (ev10 : v10 = (if o1.2 ≤ (b4_2 + (1 : Int32)) then a3 else (b4_2 + (1 : Int32)))), g_G X rm_G_takeRow c_G_takeRow 5 1 none 56 [(0, .ref 0), (1, .ref 6), (3, .int a3), (4, .int b4_2)] [.int v10, .int b4_2, .int (2 : Int32), .ref 0] (HGa (upd w_label_3 b4_2.toNatClampNeg (a_row b4_2.toNatClampNeg)) w_tg_4 o1.2 a_row) := by
            intro v10 ev10
            subst ev10
            refine g_fP (ct_G_join (upd w_label_3 b4_2.toNatClampNeg (a_row b4_2.toNatClampNeg)) w_tg_4 o1.2 (2 : Int32) b4_2 (if o1.2 ≤ (b4_2 + (1 : Int32)) then a3 else (b4_2 + (1 : Int32)))) 48 true 3 lk_1_48 (by decide +kernel) rfl ⟨rfl, rfl, by decide, by decide⟩ [0, 1, 2, 3, 4, 5] [] rfl (Nat.le_of_ble_eq_true rfl) (by decide +kernel) (by rw [HG_rn]; rfl) (fun _ => ⟨0, 1, _, rfl, rfl, by decide, rfl⟩) hs (fun o11 hs => ?_)
            refine g_hp (hp2 := (HGa (upd w_label_3 b4_2.toNatClampNeg (a_row b4_2.toNatClampNeg)) o11 o1.2 a_row)) (by rw [HG_rn]; rfl) ?_
            refine g_blk 13 [(.iinc 4 1, 0, 0, 1, 0), (.goto (-49), 0, 0, 0, 0)] [] [(4, .int (b4_2 + (1 : Int32))), (0, .ref 0), (1, .ref 6), (3, .int a3)] [] (HGa (upd w_label_3 b4_2.toNatClampNeg (a_row b4_2.toNatClampNeg)) o11 o1.2 a_row) (by decide +kernel) rfl g_nil ?_
            refine g_loc (L2 := [(0, .ref 0), (1, .ref 6), (3, .int a3), (4, .int (b4_2 + (1 : Int32)))]) [1, 2, 3, 0] rfl ?_
            exact ih _ _ _ hs
          refine g_br 55 (.if_icmp .ge 10) (o1.2 ≤ (b4_2 + (1 : Int32))) [.int b4_2, .int (2 : Int32), .ref 0] (by decide +kernel) rfl (fun c13 => ?_) (fun c13 => ?_)
          · refine g_blk 56 [(.iload_n 3, 0, 0, 0, 0)] [] [(0, .ref 0), (1, .ref 6), (3, .int a3), (4, .int b4_2)] [.int a3, .int b4_2, .int (2 : Int32), .ref 0] (HGa (upd w_label_3 b4_2.toNatClampNeg (a_row b4_2.toNatClampNeg)) w_tg_4 o1.2 a_row) (by decide +kernel) rfl g_nil ?_
            exact hJ11 _ (by rw [if_pos c13])
          · refine g_blk 56 [(.iload 4, 0, 0, 0, 0), (.iconst 1, 0, 0, 1, 0), (.iadd, 0, 0, 0, 0), (.goto 4, 0, 0, 0, 0)] [] [(0, .ref 0), (1, .ref 6), (3, .int a3), (4, .int b4_2)] [.int (b4_2 + (1 : Int32)), .int b4_2, .int (2 : Int32), .ref 0] (HGa (upd w_label_3 b4_2.toNatClampNeg (a_row b4_2.toNatClampNeg)) w_tg_4 o1.2 a_row) (by decide +kernel) rfl g_nil ?_
            exact hJ11 _ (by rw [if_neg c13])
    exact hlG_takeRow_l1 N _ _ _ hs
abbrev rm_G_takeAllRows : Room := { frames := 2, cells := 0, slots := 0, locals := 44 }
def G_takeAllRows_l2 (o1 : (Nat → Nat → Int32) × Int32) (b1_2 : Int32) : Nat → Int32 → (Nat → Nat → Int32) → Option (Nat → Nat → Int32)
  | 0, _, _ => none
  | n + 1, b2_8, w_tg_9 => (if o1.2 ≤ b2_8 then (some w_tg_9) else ((F_G_join w_tg_9 o1.2 (2 : Int32) b1_2 b2_8).bind fun o12 => (G_takeAllRows_l2 o1 b1_2 n (b2_8 + (1 : Int32)) o12)))
theorem G_takeAllRows_l2_s (o1 : (Nat → Nat → Int32) × Int32) (b1_2 : Int32) (n : Nat) (b2_8 : Int32) (w_tg_9 : Nat → Nat → Int32) : G_takeAllRows_l2 o1 b1_2 (n + 1) b2_8 w_tg_9 = (if o1.2 ≤ b2_8 then (some w_tg_9) else ((F_G_join w_tg_9 o1.2 (2 : Int32) b1_2 b2_8).bind fun o12 => (G_takeAllRows_l2 o1 b1_2 n (b2_8 + (1 : Int32)) o12))) := rfl
def G_takeAllRows_l1 (N : Nat) (o1 : (Nat → Nat → Int32) × Int32) : Nat → Int32 → (Nat → Int32) → (Nat → Nat → Int32) → Option ((Nat → Int32) × (Nat → Nat → Int32))
  | 0, _, _, _ => none
  | n + 1, b1_2, w_label_3, w_tg_4 => (if o1.2 ≤ b1_2 then (some (w_label_3, w_tg_4)) else (g_chk (g_inb b1_2 8) ((G_takeAllRows_l2 o1 b1_2 N (0 : Int32) w_tg_4).bind fun o10 => (G_takeAllRows_l1 N o1 n (b1_2 + (1 : Int32)) (upd w_label_3 b1_2.toNatClampNeg b1_2) o10))))
theorem G_takeAllRows_l1_s (N : Nat) (o1 : (Nat → Nat → Int32) × Int32) (n : Nat) (b1_2 : Int32) (w_label_3 : Nat → Int32) (w_tg_4 : Nat → Nat → Int32) : G_takeAllRows_l1 N o1 (n + 1) b1_2 w_label_3 w_tg_4 = (if o1.2 ≤ b1_2 then (some (w_label_3, w_tg_4)) else (g_chk (g_inb b1_2 8) ((G_takeAllRows_l2 o1 b1_2 N (0 : Int32) w_tg_4).bind fun o10 => (G_takeAllRows_l1 N o1 n (b1_2 + (1 : Int32)) (upd w_label_3 b1_2.toNatClampNeg b1_2) o10)))) := rfl
def F_G_takeAllRows (N : Nat) (d_label : Nat → Int32) (d_tg : Nat → Nat → Int32) : Option ((Nat → Int32) × (Nat → Nat → Int32) × Int32) := ((F_G_open N d_tg (8 : Int32)).bind fun o1 => ((G_takeAllRows_l1 N o1 N (0 : Int32) d_label o1.1).bind fun o5 => (some (o5.1, o5.2, o1.2))))
set_option maxRecDepth 100000 in
theorem ct_G_takeAllRows (N : Nat) (d_label : Nat → Int32) (d_tg : Nat → Nat → Int32) (d_places : Int32) : g_F y_G_takeAllRows c_G_takeAllRows 3 none rm_G_takeAllRows [.ref 0] (HG d_label d_tg d_places) (F_G_takeAllRows N d_label d_tg) (fun o => none) (fun o => (HG o.1 o.2.1 o.2.2)) := by
  intro l P hs
  refine g_ofG 1 (by decide +kernel) rfl (Nat.le_of_ble_eq_true rfl) (fun X hX => ?_)
  unfold F_G_takeAllRows at hs
  refine g_loc (L2 := [(0, .ref 0)]) [0] rfl ?_
  refine g_blk 3 [(.aload_n 0, 0, 0, 0, 0), (.bipush 8, 0, 0, 8, 0)] [] [(0, .ref 0)] [.int (8 : Int32), .ref 0] (HG d_label d_tg d_places) (by decide +kernel) rfl g_nil ?_
  refine g_fM (ct_G_open N d_label d_tg d_places (8 : Int32)) 26 true 1 lk_1_26 (by decide +kernel) rfl ⟨rfl, rfl, by decide, by decide⟩ [] rfl (Nat.le_of_ble_eq_true rfl) (fun _ => ⟨0, 1, _, rfl, rfl, by decide, rfl⟩) hs (fun o1 hs => ?_)
  refine g_blk 8 [(.iconst 0, 0, 0, 0, 0), (.istore_n 1, 0, 0, 0, 0)] [] [(1, .int (0 : Int32)), (0, .ref 0)] [] (HG d_label o1.1 o1.2) (by decide +kernel) rfl g_nil ?_
  refine g_loc (L2 := [(0, .ref 0), (1, .int (0 : Int32))]) [1, 0] rfl ?_
  refine g_join (fun (o5 : (Nat → Int32) × (Nat → Nat → Int32)) => g_G X rm_G_takeAllRows c_G_takeAllRows 3 1 none 52 [] [] (HG o5.1 o5.2 o1.2)) hs (fun o5 hs => ?_) (fun hs => ?_)
  · have hq := g_sat_s hs
    exact g_vret hX (by decide +kernel) rfl hq
  · have hlG_takeAllRows_l1 : ∀ (n : Nat) (b1_2 : Int32) (w_label_3 : Nat → Int32) (w_tg_4 : Nat → Nat → Int32), g_sat (G_takeAllRows_l1 N o1 n b1_2 w_label_3 w_tg_4) (fun (o5 : (Nat → Int32) × (Nat → Nat → Int32)) => g_G X rm_G_takeAllRows c_G_takeAllRows 3 1 none 52 [] [] (HG o5.1 o5.2 o1.2)) → g_G X rm_G_takeAllRows c_G_takeAllRows 3 1 none 8 [(0, .ref 0), (1, .int b1_2)] [] (HG w_label_3 w_tg_4 o1.2) := by
      intro n
      induction n with
      | zero =>
        intro b1_2 w_label_3 w_tg_4 hs
        obtain ⟨_, h0, _⟩ := hs
        cases h0
      | succ n ih =>
        intro b1_2 w_label_3 w_tg_4 hs
        rw [G_takeAllRows_l1_s] at hs
        refine g_blk 13 [(.iload_n 1, 0, 0, 0, 0), (.aload_n 0, 0, 0, 0, 0), (.getfield 30, 1, 0, 0, 0)] [] [(0, .ref 0), (1, .int b1_2)] [.int o1.2, .int b1_2] (HG w_label_3 w_tg_4 o1.2) (by decide +kernel) rfl g_nil ?_
        refine g_br 52 (.if_icmp .ge 39) (o1.2 ≤ b1_2) [] (by decide +kernel) rfl (fun c6 => ?_) (fun c6 => ?_)
        · have hs := g_sat_t hs c6
          refine g_loc (L2 := []) [] rfl ?_
          have hq := g_sat_s hs
          exact hq
        · have hs := g_sat_f hs c6
          obtain ⟨h7, hs⟩ := g_sat_c hs
          refine g_blk 25 [(.aload_n 0, 0, 0, 0, 0), (.getfield 9, 1, 1, 0, 0), (.iload_n 1, 0, 0, 0, 0), (.iload_n 1, 0, 0, 0, 0), (.iastore, 0, 0, 0, 0), (.iconst 0, 0, 0, 0, 0), (.istore_n 2, 0, 0, 0, 0)] [vp_in b1_2 8] [(2, .int (0 : Int32)), (0, .ref 0), (1, .int b1_2)] [] (HG (upd w_label_3 b1_2.toNatClampNeg b1_2) w_tg_4 o1.2) (by decide +kernel) rfl (g_and (g_inb_in h7) g_nil) ?_
          refine g_loc (L2 := [(0, .ref 0), (1, .int b1_2), (2, .int (0 : Int32))]) [1, 2, 0] rfl ?_
          refine g_join (fun (o10 : Nat → Nat → Int32) => g_G X rm_G_takeAllRows c_G_takeAllRows 3 1 none 46 [(0, .ref 0), (1, .int b1_2)] [] (HG (upd w_label_3 b1_2.toNatClampNeg b1_2) o10 o1.2)) hs (fun o10 hs => ?_) (fun hs => ?_)
          · refine g_blk 8 [(.iinc 1 1, 0, 0, 1, 0), (.goto (-41), 0, 0, 0, 0)] [] [(1, .int (b1_2 + (1 : Int32))), (0, .ref 0)] [] (HG (upd w_label_3 b1_2.toNatClampNeg b1_2) o10 o1.2) (by decide +kernel) rfl g_nil ?_
            refine g_loc (L2 := [(0, .ref 0), (1, .int (b1_2 + (1 : Int32)))]) [1, 0] rfl ?_
            exact ih _ _ _ hs
          · have hlG_takeAllRows_l2 : ∀ (n : Nat) (b2_8 : Int32) (w_tg_9 : Nat → Nat → Int32), g_sat (G_takeAllRows_l2 o1 b1_2 n b2_8 w_tg_9) (fun (o10 : Nat → Nat → Int32) => g_G X rm_G_takeAllRows c_G_takeAllRows 3 1 none 46 [(0, .ref 0), (1, .int b1_2)] [] (HG (upd w_label_3 b1_2.toNatClampNeg b1_2) o10 o1.2)) → g_G X rm_G_takeAllRows c_G_takeAllRows 3 1 none 25 [(0, .ref 0), (1, .int b1_2), (2, .int b2_8)] [] (HG (upd w_label_3 b1_2.toNatClampNeg b1_2) w_tg_9 o1.2) := by
              intro n
              induction n with
              | zero =>
                intro b2_8 w_tg_9 hs
                obtain ⟨_, h0, _⟩ := hs
                cases h0
              | succ n ih =>
                intro b2_8 w_tg_9 hs
                rw [G_takeAllRows_l2_s] at hs
                refine g_blk 30 [(.iload_n 2, 0, 0, 0, 0), (.aload_n 0, 0, 0, 0, 0), (.getfield 30, 1, 0, 0, 0)] [] [(0, .ref 0), (1, .int b1_2), (2, .int b2_8)] [.int o1.2, .int b2_8] (HG (upd w_label_3 b1_2.toNatClampNeg b1_2) w_tg_9 o1.2) (by decide +kernel) rfl g_nil ?_
                refine g_br 46 (.if_icmp .ge 16) (o1.2 ≤ b2_8) [] (by decide +kernel) rfl (fun c11 => ?_) (fun c11 => ?_)
                · have hs := g_sat_t hs c11
                  refine g_loc (L2 := [(0, .ref 0), (1, .int b1_2)]) [0, 1] rfl ?_
                  have hq := g_sat_s hs
                  exact hq
                · have hs := g_sat_f hs c11
                  refine g_blk 37 [(.aload_n 0, 0, 0, 0, 0), (.iconst 2, 0, 0, 2, 0), (.iload_n 1, 0, 0, 0, 0), (.iload_n 2, 0, 0, 0, 0)] [] [(0, .ref 0), (1, .int b1_2), (2, .int b2_8)] [.int b2_8, .int b1_2, .int (2 : Int32), .ref 0] (HG (upd w_label_3 b1_2.toNatClampNeg b1_2) w_tg_9 o1.2) (by decide +kernel) rfl g_nil ?_
                  refine g_fM (ct_G_join (upd w_label_3 b1_2.toNatClampNeg b1_2) w_tg_9 o1.2 (2 : Int32) b1_2 b2_8) 48 true 3 lk_1_48 (by decide +kernel) rfl ⟨rfl, rfl, by decide, by decide⟩ [] rfl (Nat.le_of_ble_eq_true rfl) (fun _ => ⟨0, 1, _, rfl, rfl, by decide, rfl⟩) hs (fun o12 hs => ?_)
                  refine g_blk 25 [(.iinc 2 1, 0, 0, 1, 0), (.goto (-18), 0, 0, 0, 0)] [] [(2, .int (b2_8 + (1 : Int32))), (0, .ref 0), (1, .int b1_2)] [] (HG (upd w_label_3 b1_2.toNatClampNeg b1_2) o12 o1.2) (by decide +kernel) rfl g_nil ?_
                  refine g_loc (L2 := [(0, .ref 0), (1, .int b1_2), (2, .int (b2_8 + (1 : Int32)))]) [1, 2, 0] rfl ?_
                  exact ih _ _ hs
            exact hlG_takeAllRows_l2 N _ _ hs
    exact hlG_takeAllRows_l1 N _ _ _ hs
