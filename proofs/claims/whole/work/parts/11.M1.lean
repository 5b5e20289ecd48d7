abbrev rm_M_insideOf : Room := { frames := 0, cells := 0, slots := 0, locals := 0 }
def F_M_insideOf (a0 : Int32) : Int32 := (if a0 = 48 then (0 : Int32) else (if a0 = 49 then (0 : Int32) else (if a0 = 97 then (0 : Int32) else (if a0 = 98 then (0 : Int32) else (if a0 = 99 then (0 : Int32) else (if a0 = 102 then (1 : Int32) else (if a0 = 103 then (1 : Int32) else (if a0 = 107 then (2 : Int32) else (if a0 = 110 then (1 : Int32) else (if a0 = 111 then (2 : Int32) else (if a0 = 117 then (2 : Int32) else (if a0 = 120 then (1 : Int32) else (-9 : Int32)))))))))))))
set_option maxRecDepth 100000 in
theorem ct_M_insideOf (a0 : Int32) : g_F y_M_insideOf c_M_insideOf 1 (some .int) rm_M_insideOf [.int a0] [] (some (F_M_insideOf a0)) (fun o => some (.int o)) (fun _ => []) := by
  intro l P hs
  refine g_ofG 7 (by decide +kernel) rfl (Nat.le_of_ble_eq_true rfl) (fun X hX => ?_)
  unfold F_M_insideOf at hs
  refine g_loc (L2 := [(0, .int a0)]) [0] rfl ?_
  refine g_blk 1 [(.iload_n 0, 0, 0, 0, 0)] [] [(0, .int a0)] [.int a0] [] (by decide +kernel) rfl g_nil ?_
  refine g_lsw 114 [(48, 108), (49, 108), (97, 108), (98, 108), (99, 108), (102, 110), (103, 110), (107, 112), (110, 110), (111, 112), (117, 112), (120, 110)] 113 #[(48, 107), (49, 107), (97, 107), (98, 107), (99, 107), (102, 109), (103, 109), (107, 111), (110, 109), (111, 111), (117, 111), (120, 109)] 107 (by decide +kernel) (fun t ht => ?_)
  by_cases c1 : a0 = 48
  · have hs := g_sat_pt hs c1
    simp only [g_sw, if_pos c1] at ht
    subst ht
    refine g_blk 109 [(.iconst 0, 0, 0, 0, 0)] [] [(0, .int a0)] [.int (0 : Int32)] [] (by decide +kernel) rfl g_nil ?_
    have hq := g_sat_s hs
    exact g_iret hX (by decide +kernel) rfl hq
  · have hs := g_sat_pf hs c1
    rw [g_sw, if_neg c1] at ht
    by_cases c2 : a0 = 49
    · have hs := g_sat_pt hs c2
      simp only [g_sw, if_pos c2] at ht
      subst ht
      refine g_blk 109 [(.iconst 0, 0, 0, 0, 0)] [] [(0, .int a0)] [.int (0 : Int32)] [] (by decide +kernel) rfl g_nil ?_
      have hq := g_sat_s hs
      exact g_iret hX (by decide +kernel) rfl hq
    · have hs := g_sat_pf hs c2
      rw [g_sw, if_neg c2] at ht
      by_cases c3 : a0 = 97
      · have hs := g_sat_pt hs c3
        simp only [g_sw, if_pos c3] at ht
        subst ht
        refine g_blk 109 [(.iconst 0, 0, 0, 0, 0)] [] [(0, .int a0)] [.int (0 : Int32)] [] (by decide +kernel) rfl g_nil ?_
        have hq := g_sat_s hs
        exact g_iret hX (by decide +kernel) rfl hq
      · have hs := g_sat_pf hs c3
        rw [g_sw, if_neg c3] at ht
        by_cases c4 : a0 = 98
        · have hs := g_sat_pt hs c4
          simp only [g_sw, if_pos c4] at ht
          subst ht
          refine g_blk 109 [(.iconst 0, 0, 0, 0, 0)] [] [(0, .int a0)] [.int (0 : Int32)] [] (by decide +kernel) rfl g_nil ?_
          have hq := g_sat_s hs
          exact g_iret hX (by decide +kernel) rfl hq
        · have hs := g_sat_pf hs c4
          rw [g_sw, if_neg c4] at ht
          by_cases c5 : a0 = 99
          · have hs := g_sat_pt hs c5
            simp only [g_sw, if_pos c5] at ht
            subst ht
            refine g_blk 109 [(.iconst 0, 0, 0, 0, 0)] [] [(0, .int a0)] [.int (0 : Int32)] [] (by decide +kernel) rfl g_nil ?_
            have hq := g_sat_s hs
            exact g_iret hX (by decide +kernel) rfl hq
          · have hs := g_sat_pf hs c5
            rw [g_sw, if_neg c5] at ht
            by_cases c6 : a0 = 102
            · have hs := g_sat_pt hs c6
              simp only [g_sw, if_pos c6] at ht
              subst ht
              refine g_blk 111 [(.iconst 1, 0, 0, 1, 0)] [] [(0, .int a0)] [.int (1 : Int32)] [] (by decide +kernel) rfl g_nil ?_
              have hq := g_sat_s hs
              exact g_iret hX (by decide +kernel) rfl hq
            · have hs := g_sat_pf hs c6
              rw [g_sw, if_neg c6] at ht
              by_cases c7 : a0 = 103
              · have hs := g_sat_pt hs c7
                simp only [g_sw, if_pos c7] at ht
                subst ht
                refine g_blk 111 [(.iconst 1, 0, 0, 1, 0)] [] [(0, .int a0)] [.int (1 : Int32)] [] (by decide +kernel) rfl g_nil ?_
                have hq := g_sat_s hs
                exact g_iret hX (by decide +kernel) rfl hq
              · have hs := g_sat_pf hs c7
                rw [g_sw, if_neg c7] at ht
                by_cases c8 : a0 = 107
                · have hs := g_sat_pt hs c8
                  simp only [g_sw, if_pos c8] at ht
                  subst ht
                  refine g_blk 113 [(.iconst 2, 0, 0, 2, 0)] [] [(0, .int a0)] [.int (2 : Int32)] [] (by decide +kernel) rfl g_nil ?_
                  have hq := g_sat_s hs
                  exact g_iret hX (by decide +kernel) rfl hq
                · have hs := g_sat_pf hs c8
                  rw [g_sw, if_neg c8] at ht
                  by_cases c9 : a0 = 110
                  · have hs := g_sat_pt hs c9
                    simp only [g_sw, if_pos c9] at ht
                    subst ht
                    refine g_blk 111 [(.iconst 1, 0, 0, 1, 0)] [] [(0, .int a0)] [.int (1 : Int32)] [] (by decide +kernel) rfl g_nil ?_
                    have hq := g_sat_s hs
                    exact g_iret hX (by decide +kernel) rfl hq
                  · have hs := g_sat_pf hs c9
                    rw [g_sw, if_neg c9] at ht
                    by_cases c10 : a0 = 111
                    · have hs := g_sat_pt hs c10
                      simp only [g_sw, if_pos c10] at ht
                      subst ht
                      refine g_blk 113 [(.iconst 2, 0, 0, 2, 0)] [] [(0, .int a0)] [.int (2 : Int32)] [] (by decide +kernel) rfl g_nil ?_
                      have hq := g_sat_s hs
                      exact g_iret hX (by decide +kernel) rfl hq
                    · have hs := g_sat_pf hs c10
                      rw [g_sw, if_neg c10] at ht
                      by_cases c11 : a0 = 117
                      · have hs := g_sat_pt hs c11
                        simp only [g_sw, if_pos c11] at ht
                        subst ht
                        refine g_blk 113 [(.iconst 2, 0, 0, 2, 0)] [] [(0, .int a0)] [.int (2 : Int32)] [] (by decide +kernel) rfl g_nil ?_
                        have hq := g_sat_s hs
                        exact g_iret hX (by decide +kernel) rfl hq
                      · have hs := g_sat_pf hs c11
                        rw [g_sw, if_neg c11] at ht
                        by_cases c12 : a0 = 120
                        · have hs := g_sat_pt hs c12
                          simp only [g_sw, if_pos c12] at ht
                          subst ht
                          refine g_blk 111 [(.iconst 1, 0, 0, 1, 0)] [] [(0, .int a0)] [.int (1 : Int32)] [] (by decide +kernel) rfl g_nil ?_
                          have hq := g_sat_s hs
                          exact g_iret hX (by decide +kernel) rfl hq
                        · have hs := g_sat_pf hs c12
                          rw [g_sw, if_neg c12] at ht
                          have ht : 114 = t := ht
                          subst ht
                          refine g_blk 116 [(.bipush (-9), 0, 0, (-9), 0)] [] [(0, .int a0)] [.int (-9 : Int32)] [] (by decide +kernel) rfl g_nil ?_
                          have hq := g_sat_s hs
                          exact g_iret hX (by decide +kernel) rfl hq
abbrev rm_M_isLater : Room := { frames := 0, cells := 0, slots := 0, locals := 0 }
def F_M_isLater (a0 : Int32) : Int32 := (if a0 = (120 : Int32) then (1 : Int32) else (if a0 = (102 : Int32) then (1 : Int32) else (if a0 = (103 : Int32) then (1 : Int32) else (if a0 = (117 : Int32) then (1 : Int32) else (0 : Int32)))))
theorem bo_M_isLater (a0 : Int32) : F_M_isLater a0 = 0 ∨ F_M_isLater a0 = 1 := by
  unfold F_M_isLater
  repeat (first | exact Or.inl rfl | exact Or.inr rfl | split)
set_option maxRecDepth 100000 in
theorem ct_M_isLater (a0 : Int32) : g_F y_M_isLater c_M_isLater 1 (some .boolean) rm_M_isLater [.int a0] [] (some (F_M_isLater a0)) (fun o => some (.int o)) (fun _ => []) := by
  intro l P hs
  refine g_ofG 7 (by decide +kernel) rfl (Nat.le_of_ble_eq_true rfl) (fun X hX => ?_)
  unfold F_M_isLater at hs
  refine g_loc (L2 := [(0, .int a0)]) [0] rfl ?_
  refine g_blk 3 [(.iload_n 0, 0, 0, 0, 0), (.bipush 120, 0, 0, 120, 0)] [] [(0, .int a0)] [.int (120 : Int32), .int a0] [] (by decide +kernel) rfl g_nil ?_
  have hJ2 : ∀ (v2 : Int32) (ev2 : v2 = (if a0 = (120 : Int32) then (1 : Int32) else (if a0 = (102 : Int32) then (1 : Int32) else (if a0 = (103 : Int32) then (1 : Int32) else (if a0 = (117 : Int32) then (1 : Int32) else (0 : Int32)))))), g_G X rm_M_isLater c_M_isLater 1 7 (some .boolean) 29 [] [.int v2] [] := by
    intro v2 ev2
    subst ev2
    have hq := g_sat_s hs
    exact g_zret hX (by decide +kernel) rfl (by repeat (first | exact Or.inl rfl | exact Or.inr rfl | split)) hq
  refine g_br 24 (.if_icmp .eq 21) (a0 = (120 : Int32)) [] (by decide +kernel) rfl (fun c4 => ?_) (fun c4 => ?_)
  · refine g_blk 29 [(.iconst 1, 0, 0, 1, 0), (.goto 4, 0, 0, 0, 0)] [] [(0, .int a0)] [.int (1 : Int32)] [] (by decide +kernel) rfl g_nil ?_
    refine g_loc (L2 := []) [] rfl ?_
    exact hJ2 _ (by rw [if_pos c4])
  · refine g_blk 9 [(.iload_n 0, 0, 0, 0, 0), (.bipush 102, 0, 0, 102, 0)] [] [(0, .int a0)] [.int (102 : Int32), .int a0] [] (by decide +kernel) rfl g_nil ?_
    refine g_br 24 (.if_icmp .eq 15) (a0 = (102 : Int32)) [] (by decide +kernel) rfl (fun c5 => ?_) (fun c5 => ?_)
    · refine g_blk 29 [(.iconst 1, 0, 0, 1, 0), (.goto 4, 0, 0, 0, 0)] [] [(0, .int a0)] [.int (1 : Int32)] [] (by decide +kernel) rfl g_nil ?_
      refine g_loc (L2 := []) [] rfl ?_
      exact hJ2 _ (by rw [if_neg c4, if_pos c5])
    · refine g_blk 15 [(.iload_n 0, 0, 0, 0, 0), (.bipush 103, 0, 0, 103, 0)] [] [(0, .int a0)] [.int (103 : Int32), .int a0] [] (by decide +kernel) rfl g_nil ?_
      refine g_br 24 (.if_icmp .eq 9) (a0 = (103 : Int32)) [] (by decide +kernel) rfl (fun c6 => ?_) (fun c6 => ?_)
      · refine g_blk 29 [(.iconst 1, 0, 0, 1, 0), (.goto 4, 0, 0, 0, 0)] [] [(0, .int a0)] [.int (1 : Int32)] [] (by decide +kernel) rfl g_nil ?_
        refine g_loc (L2 := []) [] rfl ?_
        exact hJ2 _ (by rw [if_neg c4, if_neg c5, if_pos c6])
      · refine g_blk 21 [(.iload_n 0, 0, 0, 0, 0), (.bipush 117, 0, 0, 117, 0)] [] [(0, .int a0)] [.int (117 : Int32), .int a0] [] (by decide +kernel) rfl g_nil ?_
        refine g_brn 28 (.if_icmp .ne 7) (a0 = (117 : Int32)) [] (by decide +kernel) rfl (fun c7 => ?_) (fun c7 => ?_)
        · refine g_blk 29 [(.iconst 0, 0, 0, 0, 0)] [] [(0, .int a0)] [.int (0 : Int32)] [] (by decide +kernel) rfl g_nil ?_
          refine g_loc (L2 := []) [] rfl ?_
          exact hJ2 _ (by rw [if_neg c4, if_neg c5, if_neg c6, if_neg c7])
        · refine g_blk 29 [(.iconst 1, 0, 0, 1, 0), (.goto 4, 0, 0, 0, 0)] [] [(0, .int a0)] [.int (1 : Int32)] [] (by decide +kernel) rfl g_nil ?_
          refine g_loc (L2 := []) [] rfl ?_
          exact hJ2 _ (by rw [if_neg c4, if_neg c5, if_neg c6, if_pos c7])
abbrev rm_M_readsFormula : Room := { frames := 1, cells := 0, slots := 0, locals := 20 }
def M_readsFormula_l1 (N : Nat) (f_letters : Int32) (f_text : Nat → Int32) : Nat → Int32 → Int32 → Int32 → Int32 → Int32 → (Nat → Int32) → Option ((Int32 × Int32 × Int32 × (Nat → Int32)) ⊕ (Int32 × Int32 × Int32 × Int32 × (Nat → Int32)))
  | 0, _, _, _, _, _, _ => none
  | n + 1, b1_2, b2_3, b3_4, w_spot_5, w_tokenAt_6, w_read_7 => (if f_letters ≤ w_spot_5 then (some (.inr (b1_2, b2_3, w_spot_5, w_tokenAt_6, w_read_7))) else (g_chk (g_inb w_spot_5 120) (if (F_M_insideOf (f_text w_spot_5.toNatClampNeg)) < 0 then (some (.inl (((-10 : Int32) - w_spot_5), w_spot_5, w_tokenAt_6, w_read_7))) else (if b1_2 = 0 then (some (.inl (((-10 : Int32) - w_spot_5), w_spot_5, w_tokenAt_6, w_read_7))) else (if b2_3 = (16 : Int32) then (some (.inl (((-10 : Int32) - w_spot_5), w_spot_5, w_tokenAt_6, w_read_7))) else (if (b3_4 + (if (F_M_isLater (f_text w_spot_5.toNatClampNeg)) = 0 then (0 : Int32) else (1 : Int32))) ≤ (3 : Int32) then (g_chk (g_inb (b2_3 + (1 : Int32)) 105) ((F_M_blanks N f_letters (w_spot_5 + (1 : Int32)) f_text).bind fun o18 => (M_readsFormula_l1 N f_letters f_text n (b1_2 + ((F_M_insideOf (f_text w_spot_5.toNatClampNeg)) - (1 : Int32))) (b2_3 + (1 : Int32)) (b3_4 + (if (F_M_isLater (f_text w_spot_5.toNatClampNeg)) = 0 then (0 : Int32) else (1 : Int32))) o18.1 o18.2 (upd w_read_7 ((b2_3 + (1 : Int32))).toNatClampNeg (f_text w_spot_5.toNatClampNeg))))) else (some (.inl (((-10 : Int32) - w_spot_5), w_spot_5, w_tokenAt_6, w_read_7)))))))))
theorem M_readsFormula_l1_s (N : Nat) (f_letters : Int32) (f_text : Nat → Int32) (n : Nat) (b1_2 : Int32) (b2_3 : Int32) (b3_4 : Int32) (w_spot_5 : Int32) (w_tokenAt_6 : Int32) (w_read_7 : Nat → Int32) : M_readsFormula_l1 N f_letters f_text (n + 1) b1_2 b2_3 b3_4 w_spot_5 w_tokenAt_6 w_read_7 = (if f_letters ≤ w_spot_5 then (some (.inr (b1_2, b2_3, w_spot_5, w_tokenAt_6, w_read_7))) else (g_chk (g_inb w_spot_5 120) (if (F_M_insideOf (f_text w_spot_5.toNatClampNeg)) < 0 then (some (.inl (((-10 : Int32) - w_spot_5), w_spot_5, w_tokenAt_6, w_read_7))) else (if b1_2 = 0 then (some (.inl (((-10 : Int32) - w_spot_5), w_spot_5, w_tokenAt_6, w_read_7))) else (if b2_3 = (16 : Int32) then (some (.inl (((-10 : Int32) - w_spot_5), w_spot_5, w_tokenAt_6, w_read_7))) else (if (b3_4 + (if (F_M_isLater (f_text w_spot_5.toNatClampNeg)) = 0 then (0 : Int32) else (1 : Int32))) ≤ (3 : Int32) then (g_chk (g_inb (b2_3 + (1 : Int32)) 105) ((F_M_blanks N f_letters (w_spot_5 + (1 : Int32)) f_text).bind fun o18 => (M_readsFormula_l1 N f_letters f_text n (b1_2 + ((F_M_insideOf (f_text w_spot_5.toNatClampNeg)) - (1 : Int32))) (b2_3 + (1 : Int32)) (b3_4 + (if (F_M_isLater (f_text w_spot_5.toNatClampNeg)) = 0 then (0 : Int32) else (1 : Int32))) o18.1 o18.2 (upd w_read_7 ((b2_3 + (1 : Int32))).toNatClampNeg (f_text w_spot_5.toNatClampNeg))))) else (some (.inl (((-10 : Int32) - w_spot_5), w_spot_5, w_tokenAt_6, w_read_7))))))))) := rfl
def F_M_readsFormula (N : Nat) (f_letters : Int32) (f_text : Nat → Int32) (f_read : Nat → Int32) : Option (Int32 × Int32 × Int32 × (Nat → Int32)) := ((F_M_blanks N f_letters (0 : Int32) f_text).bind fun o1 => (g_el (fun a => a) (M_readsFormula_l1 N f_letters f_text N (1 : Int32) (0 : Int32) (0 : Int32) o1.1 o1.2 f_read) (fun o8 => (some ((if o8.1 ≤ 0 then o8.2.1 else ((-10 : Int32) - f_letters)), o8.2.2.1, o8.2.2.2.1, (upd o8.2.2.2.2 0 o8.2.1))))))
set_option maxRecDepth 100000 in
theorem ct_M_readsFormula (N : Nat) (f_undone : Int32) (f_letters : Int32) (f_showing : Int32) (f_spot : Int32) (f_tokenAt : Int32) (f_value : Int32) (f_laters : Int32) (f_places : Int32) (f_guesses : Int32) (f_ways : Int32) (f_now : Nat → Int32) (f_past : Nat → Int32) (f_images : Nat → Int32) (f_isKept : Nat → Int32) (f_text : Nat → Int32) (f_shown : Nat → Int32) (f_read : Nat → Int32) (f_letter : Nat → Int32) (f_sizes : Nat → Int32) (f_laterNumber : Nat → Int32) (f_many : Nat → Int32) (f_labelAt : Nat → Int32) (f_soAt : Nat → Int32) (f_meets : Nat → Int32) (f_wayFrom : Nat → Int32) (f_wayTo : Nat → Int32) (f_wayBy : Nat → Int32) (f_reach : Nat → Int64) (f_goesOn : Nat → Int32) (f_far : Nat → Int32) (f_round : Nat → Int32) (f_line : Nat → Int32) (f_guessAt : Nat → Int32) : g_F y_M_readsFormula c_M_readsFormula 5 (some .int) rm_M_readsFormula [.ref 0] (HM f_undone f_letters f_showing f_spot f_tokenAt f_value f_laters f_places f_guesses f_ways f_now f_past f_images f_isKept f_text f_shown f_read f_letter f_sizes f_laterNumber f_many f_labelAt f_soAt f_meets f_wayFrom f_wayTo f_wayBy f_reach f_goesOn f_far f_round f_line f_guessAt) (F_M_readsFormula N f_letters f_text f_read) (fun o => some (.int o.1)) (fun o => (HM f_undone f_letters f_showing o.2.1 o.2.2.1 f_value f_laters f_places f_guesses f_ways f_now f_past f_images f_isKept f_text f_shown o.2.2.2 f_letter f_sizes f_laterNumber f_many f_labelAt f_soAt f_meets f_wayFrom f_wayTo f_wayBy f_reach f_goesOn f_far f_round f_line f_guessAt)) := by
  intro l P hs
  refine g_ofG 7 (by decide +kernel) rfl (Nat.le_of_ble_eq_true rfl) (fun X hX => ?_)
  unfold F_M_readsFormula at hs
  refine g_loc (L2 := [(0, .ref 0)]) [0] rfl ?_
  refine g_blk 12 [(.iconst 1, 0, 0, 1, 0), (.istore_n 1, 0, 0, 0, 0), (.iconst 0, 0, 0, 0, 0), (.istore_n 2, 0, 0, 0, 0), (.iconst 0, 0, 0, 0, 0), (.istore_n 3, 0, 0, 0, 0), (.aload_n 0, 0, 0, 0, 0), (.iconst 0, 0, 0, 0, 0), (.putfield 92, 7, 10, 1, 0), (.aload_n 0, 0, 0, 0, 0)] [] [(3, .int (0 : Int32)), (2, .int (0 : Int32)), (1, .int (1 : Int32)), (0, .ref 0)] [.ref 0] (HM f_undone f_letters f_showing (0 : Int32) f_tokenAt f_value f_laters f_places f_guesses f_ways f_now f_past f_images f_isKept f_text f_shown f_read f_letter f_sizes f_laterNumber f_many f_labelAt f_soAt f_meets f_wayFrom f_wayTo f_wayBy f_reach f_goesOn f_far f_round f_line f_guessAt) (by decide +kernel) rfl g_nil ?_
  refine g_fM (ct_M_blanks N f_undone f_letters f_showing (0 : Int32) f_tokenAt f_value f_laters f_places f_guesses f_ways f_now f_past f_images f_isKept f_text f_shown f_read f_letter f_sizes f_laterNumber f_many f_labelAt f_soAt f_meets f_wayFrom f_wayTo f_wayBy f_reach f_goesOn f_far f_round f_line f_guessAt) 98 true 0 lk_7_98 (by decide +kernel) rfl ⟨rfl, rfl, by decide, by decide⟩ [] rfl (Nat.le_of_ble_eq_true rfl) (fun _ => ⟨0, 7, _, rfl, rfl, by decide, rfl⟩) hs (fun o1 hs => ?_)
  refine g_loc (L2 := [(0, .ref 0), (1, .int (1 : Int32)), (2, .int (0 : Int32)), (3, .int (0 : Int32))]) [3, 2, 1, 0] rfl ?_
  refine g_joinE (fun (o8 : Int32 × Int32 × Int32 × Int32 × (Nat → Int32)) => g_G X rm_M_readsFormula c_M_readsFormula 5 7 (some .int) 122 [(0, .ref 0), (1, .int o8.1), (2, .int o8.2.1)] [] (HM f_undone f_letters f_showing o8.2.2.1 o8.2.2.2.1 f_value f_laters f_places f_guesses f_ways f_now f_past f_images f_isKept f_text f_shown o8.2.2.2.2 f_letter f_sizes f_laterNumber f_many f_labelAt f_soAt f_meets f_wayFrom f_wayTo f_wayBy f_reach f_goesOn f_far f_round f_line f_guessAt)) hs (fun o8 hs => ?_) (fun GPM_readsFormula_l1 hretM_readsFormula_l1 hexM_readsFormula_l1 hs => ?_)
  · refine g_blk 130 [(.aload_n 0, 0, 0, 0, 0), (.getfield 29, 7, 9, 0, 0), (.iconst 0, 0, 0, 0, 0), (.iload_n 2, 0, 0, 0, 0), (.iastore, 0, 0, 0, 0), (.iload_n 1, 0, 0, 0, 0)] [vp_in (0 : Int32) 105] [(0, .ref 0), (1, .int o8.1), (2, .int o8.2.1)] [.int o8.1] (HM f_undone f_letters f_showing o8.2.2.1 o8.2.2.2.1 f_value f_laters f_places f_guesses f_ways f_now f_past f_images f_isKept f_text f_shown (upd o8.2.2.2.2 0 o8.2.1) f_letter f_sizes f_laterNumber f_many f_labelAt f_soAt f_meets f_wayFrom f_wayTo f_wayBy f_reach f_goesOn f_far f_round f_line f_guessAt) (by decide +kernel) rfl (g_and (g_inb_in (by decide +kernel)) g_nil) ?_
    have hJ22 : ∀ (v22 : Int32) (ev22 : v22 = (if o8.1 ≤ 0 then o8.2.1 else ((-10 : Int32) - f_letters))), g_G X rm_M_readsFormula c_M_readsFormula 5 7 (some .int) 144 [] [.int v22] (HM f_undone f_letters f_showing o8.2.2.1 o8.2.2.2.1 f_value f_laters f_places f_guesses f_ways f_now f_past f_images f_isKept f_text f_shown (upd o8.2.2.2.2 0 o8.2.1) f_letter f_sizes f_laterNumber f_many f_labelAt f_soAt f_meets f_wayFrom f_wayTo f_wayBy f_reach f_goesOn f_far f_round f_line f_guessAt) := by
      intro v22 ev22
      subst ev22
      have hq := g_sat_s hs
      exact g_iret hX (by decide +kernel) rfl hq
    refine g_br 143 (.ifCond .le 13) (o8.1 ≤ 0) [] (by decide +kernel) rfl (fun c24 => ?_) (fun c24 => ?_)
    · refine g_blk 144 [(.iload_n 2, 0, 0, 0, 0)] [] [(0, .ref 0), (1, .int o8.1), (2, .int o8.2.1)] [.int o8.2.1] (HM f_undone f_letters f_showing o8.2.2.1 o8.2.2.2.1 f_value f_laters f_places f_guesses f_ways f_now f_past f_images f_isKept f_text f_shown (upd o8.2.2.2.2 0 o8.2.1) f_letter f_sizes f_laterNumber f_many f_labelAt f_soAt f_meets f_wayFrom f_wayTo f_wayBy f_reach f_goesOn f_far f_round f_line f_guessAt) (by decide +kernel) rfl g_nil ?_
      refine g_loc (L2 := []) [] rfl ?_
      exact hJ22 _ (by rw [if_pos c24])
    · refine g_blk 144 [(.bipush (-10), 0, 0, (-10), 0), (.aload_n 0, 0, 0, 0, 0), (.getfield 89, 7, 6, 0, 0), (.isub, 0, 0, 0, 0), (.goto 4, 0, 0, 0, 0)] [] [(0, .ref 0), (1, .int o8.1), (2, .int o8.2.1)] [.int ((-10 : Int32) - f_letters)] (HM f_undone f_letters f_showing o8.2.2.1 o8.2.2.2.1 f_value f_laters f_places f_guesses f_ways f_now f_past f_images f_isKept f_text f_shown (upd o8.2.2.2.2 0 o8.2.1) f_letter f_sizes f_laterNumber f_many f_labelAt f_soAt f_meets f_wayFrom f_wayTo f_wayBy f_reach f_goesOn f_far f_round f_line f_guessAt) (by decide +kernel) rfl g_nil ?_
      refine g_loc (L2 := []) [] rfl ?_
      exact hJ22 _ (by rw [if_neg c24])
  · have hlM_readsFormula_l1 : ∀ (n : Nat) (b1_2 : Int32) (b2_3 : Int32) (b3_4 : Int32) (w_spot_5 : Int32) (w_tokenAt_6 : Int32) (w_read_7 : Nat → Int32), g_sat (M_readsFormula_l1 N f_letters f_text n b1_2 b2_3 b3_4 w_spot_5 w_tokenAt_6 w_read_7) GPM_readsFormula_l1 → g_G X rm_M_readsFormula c_M_readsFormula 5 7 (some .int) 15 [(0, .ref 0), (1, .int b1_2), (2, .int b2_3), (3, .int b3_4)] [] (HM f_undone f_letters f_showing w_spot_5 w_tokenAt_6 f_value f_laters f_places f_guesses f_ways f_now f_past f_images f_isKept f_text f_shown w_read_7 f_letter f_sizes f_laterNumber f_many f_labelAt f_soAt f_meets f_wayFrom f_wayTo f_wayBy f_reach f_goesOn f_far f_round f_line f_guessAt) := by
      intro n
      induction n with
      | zero =>
        intro b1_2 b2_3 b3_4 w_spot_5 w_tokenAt_6 w_read_7 hs
        obtain ⟨_, h0, _⟩ := hs
        cases h0
      | succ n ih =>
        intro b1_2 b2_3 b3_4 w_spot_5 w_tokenAt_6 w_read_7 hs
        rw [M_readsFormula_l1_s] at hs
        refine g_blk 23 [(.aload_n 0, 0, 0, 0, 0), (.getfield 92, 7, 10, 0, 0), (.aload_n 0, 0, 0, 0, 0), (.getfield 89, 7, 6, 0, 0)] [] [(0, .ref 0), (1, .int b1_2), (2, .int b2_3), (3, .int b3_4)] [.int f_letters, .int w_spot_5] (HM f_undone f_letters f_showing w_spot_5 w_tokenAt_6 f_value f_laters f_places f_guesses f_ways f_now f_past f_images f_isKept f_text f_shown w_read_7 f_letter f_sizes f_laterNumber f_many f_labelAt f_soAt f_meets f_wayFrom f_wayTo f_wayBy f_reach f_goesOn f_far f_round f_line f_guessAt) (by decide +kernel) rfl g_nil ?_
        refine g_br 122 (.if_icmp .ge 99) (f_letters ≤ w_spot_5) [] (by decide +kernel) rfl (fun c9 => ?_) (fun c9 => ?_)
        · have hs := g_sat_t hs c9
          refine g_loc (L2 := [(0, .ref 0), (1, .int b1_2), (2, .int b2_3)]) [0, 1, 2] rfl ?_
          have hq := hexM_readsFormula_l1 _ (g_sat_s hs)
          exact hq
        · have hs := g_sat_f hs c9
          obtain ⟨h10, hs⟩ := g_sat_c hs
          refine g_blk 40 [(.aload_n 0, 0, 0, 0, 0), (.getfield 23, 7, 5, 0, 0), (.aload_n 0, 0, 0, 0, 0), (.getfield 92, 7, 10, 0, 0), (.iaload, 0, 0, 0, 0), (.istore 4, 0, 0, 0, 0), (.iload_n 3, 0, 0, 0, 0), (.iload 4, 0, 0, 0, 0)] [vp_in w_spot_5 120] [(4, .int (f_text w_spot_5.toNatClampNeg)), (0, .ref 0), (1, .int b1_2), (2, .int b2_3), (3, .int b3_4)] [.int (f_text w_spot_5.toNatClampNeg), .int b3_4] (HM f_undone f_letters f_showing w_spot_5 w_tokenAt_6 f_value f_laters f_places f_guesses f_ways f_now f_past f_images f_isKept f_text f_shown w_read_7 f_letter f_sizes f_laterNumber f_many f_labelAt f_soAt f_meets f_wayFrom f_wayTo f_wayBy f_reach f_goesOn f_far f_round f_line f_guessAt) (by decide +kernel) rfl (g_and (g_inb_in h10) g_nil) ?_
          refine g_pN (ct_M_isLater (f_text w_spot_5.toNatClampNeg)) 131 1 lk_7_131 (by decide +kernel) rfl ⟨rfl, rfl, by decide, by decide⟩ [.int b3_4] rfl (Nat.le_of_ble_eq_true rfl) ?_
          have hJ18 : ∀ (v12 : Int32) (ev12 : v12 = (if (F_M_isLater (f_text w_spot_5.toNatClampNeg)) = 0 then (0 : Int32) else (1 : Int32))), g_G X rm_M_readsFormula c_M_readsFormula 5 7 (some .int) 51 [(0, .ref 0), (1, .int b1_2), (2, .int b2_3), (4, .int (f_text w_spot_5.toNatClampNeg))] [.int v12, .int b3_4] (HM f_undone f_letters f_showing w_spot_5 w_tokenAt_6 f_value f_laters f_places f_guesses f_ways f_now f_past f_images f_isKept f_text f_shown w_read_7 f_letter f_sizes f_laterNumber f_many f_labelAt f_soAt f_meets f_wayFrom f_wayTo f_wayBy f_reach f_goesOn f_far f_round f_line f_guessAt) := by
            intro v12 ev12
            subst ev12
            refine g_blk 55 [(.iadd, 0, 0, 0, 0), (.istore_n 3, 0, 0, 0, 0), (.iload 4, 0, 0, 0, 0)] [] [(3, .int (b3_4 + (if (F_M_isLater (f_text w_spot_5.toNatClampNeg)) = 0 then (0 : Int32) else (1 : Int32)))), (0, .ref 0), (1, .int b1_2), (2, .int b2_3), (4, .int (f_text w_spot_5.toNatClampNeg))] [.int (f_text w_spot_5.toNatClampNeg)] (HM f_undone f_letters f_showing w_spot_5 w_tokenAt_6 f_value f_laters f_places f_guesses f_ways f_now f_past f_images f_isKept f_text f_shown w_read_7 f_letter f_sizes f_laterNumber f_many f_labelAt f_soAt f_meets f_wayFrom f_wayTo f_wayBy f_reach f_goesOn f_far f_round f_line f_guessAt) (by decide +kernel) rfl g_nil ?_
            refine g_pN (ct_M_insideOf (f_text w_spot_5.toNatClampNeg)) 134 1 lk_7_134 (by decide +kernel) rfl ⟨rfl, rfl, by decide, by decide⟩ [] rfl (Nat.le_of_ble_eq_true rfl) ?_
            refine g_br 76 (.ifCond .lt 18) ((F_M_insideOf (f_text w_spot_5.toNatClampNeg)) < 0) [] (by decide +kernel) rfl (fun c13 => ?_) (fun c13 => ?_)
            · have hs := g_sat_t hs c13
              refine g_blk 83 [(.bipush (-10), 0, 0, (-10), 0), (.aload_n 0, 0, 0, 0, 0), (.getfield 92, 7, 10, 0, 0), (.isub, 0, 0, 0, 0)] [] [(3, .int (b3_4 + (if (F_M_isLater (f_text w_spot_5.toNatClampNeg)) = 0 then (0 : Int32) else (1 : Int32)))), (0, .ref 0), (1, .int b1_2), (2, .int b2_3), (4, .int (f_text w_spot_5.toNatClampNeg))] [.int ((-10 : Int32) - w_spot_5)] (HM f_undone f_letters f_showing w_spot_5 w_tokenAt_6 f_value f_laters f_places f_guesses f_ways f_now f_past f_images f_isKept f_text f_shown w_read_7 f_letter f_sizes f_laterNumber f_many f_labelAt f_soAt f_meets f_wayFrom f_wayTo f_wayBy f_reach f_goesOn f_far f_round f_line f_guessAt) (by decide +kernel) rfl g_nil ?_
              have hq := hretM_readsFormula_l1 _ (g_sat_s hs)
              exact g_iret hX (by decide +kernel) rfl hq
            · have hs := g_sat_f hs c13
              refine g_blk 62 [(.iload_n 1, 0, 0, 0, 0)] [] [(3, .int (b3_4 + (if (F_M_isLater (f_text w_spot_5.toNatClampNeg)) = 0 then (0 : Int32) else (1 : Int32)))), (0, .ref 0), (1, .int b1_2), (2, .int b2_3), (4, .int (f_text w_spot_5.toNatClampNeg))] [.int b1_2] (HM f_undone f_letters f_showing w_spot_5 w_tokenAt_6 f_value f_laters f_places f_guesses f_ways f_now f_past f_images f_isKept f_text f_shown w_read_7 f_letter f_sizes f_laterNumber f_many f_labelAt f_soAt f_meets f_wayFrom f_wayTo f_wayBy f_reach f_goesOn f_far f_round f_line f_guessAt) (by decide +kernel) rfl g_nil ?_
              refine g_br 76 (.ifCond .eq 14) (b1_2 = 0) [] (by decide +kernel) rfl (fun c14 => ?_) (fun c14 => ?_)
              · have hs := g_sat_t hs c14
                refine g_blk 83 [(.bipush (-10), 0, 0, (-10), 0), (.aload_n 0, 0, 0, 0, 0), (.getfield 92, 7, 10, 0, 0), (.isub, 0, 0, 0, 0)] [] [(3, .int (b3_4 + (if (F_M_isLater (f_text w_spot_5.toNatClampNeg)) = 0 then (0 : Int32) else (1 : Int32)))), (0, .ref 0), (1, .int b1_2), (2, .int b2_3), (4, .int (f_text w_spot_5.toNatClampNeg))] [.int ((-10 : Int32) - w_spot_5)] (HM f_undone f_letters f_showing w_spot_5 w_tokenAt_6 f_value f_laters f_places f_guesses f_ways f_now f_past f_images f_isKept f_text f_shown w_read_7 f_letter f_sizes f_laterNumber f_many f_labelAt f_soAt f_meets f_wayFrom f_wayTo f_wayBy f_reach f_goesOn f_far f_round f_line f_guessAt) (by decide +kernel) rfl g_nil ?_
                have hq := hretM_readsFormula_l1 _ (g_sat_s hs)
                exact g_iret hX (by decide +kernel) rfl hq
              · have hs := g_sat_f hs c14
                refine g_blk 68 [(.iload_n 2, 0, 0, 0, 0), (.bipush 16, 0, 0, 16, 0)] [] [(3, .int (b3_4 + (if (F_M_isLater (f_text w_spot_5.toNatClampNeg)) = 0 then (0 : Int32) else (1 : Int32)))), (0, .ref 0), (1, .int b1_2), (2, .int b2_3), (4, .int (f_text w_spot_5.toNatClampNeg))] [.int (16 : Int32), .int b2_3] (HM f_undone f_letters f_showing w_spot_5 w_tokenAt_6 f_value f_laters f_places f_guesses f_ways f_now f_past f_images f_isKept f_text f_shown w_read_7 f_letter f_sizes f_laterNumber f_many f_labelAt f_soAt f_meets f_wayFrom f_wayTo f_wayBy f_reach f_goesOn f_far f_round f_line f_guessAt) (by decide +kernel) rfl g_nil ?_
                refine g_br 76 (.if_icmp .eq 8) (b2_3 = (16 : Int32)) [] (by decide +kernel) rfl (fun c15 => ?_) (fun c15 => ?_)
                · have hs := g_sat_t hs c15
                  refine g_blk 83 [(.bipush (-10), 0, 0, (-10), 0), (.aload_n 0, 0, 0, 0, 0), (.getfield 92, 7, 10, 0, 0), (.isub, 0, 0, 0, 0)] [] [(3, .int (b3_4 + (if (F_M_isLater (f_text w_spot_5.toNatClampNeg)) = 0 then (0 : Int32) else (1 : Int32)))), (0, .ref 0), (1, .int b1_2), (2, .int b2_3), (4, .int (f_text w_spot_5.toNatClampNeg))] [.int ((-10 : Int32) - w_spot_5)] (HM f_undone f_letters f_showing w_spot_5 w_tokenAt_6 f_value f_laters f_places f_guesses f_ways f_now f_past f_images f_isKept f_text f_shown w_read_7 f_letter f_sizes f_laterNumber f_many f_labelAt f_soAt f_meets f_wayFrom f_wayTo f_wayBy f_reach f_goesOn f_far f_round f_line f_guessAt) (by decide +kernel) rfl g_nil ?_
                  have hq := hretM_readsFormula_l1 _ (g_sat_s hs)
                  exact g_iret hX (by decide +kernel) rfl hq
                · have hs := g_sat_f hs c15
                  refine g_blk 73 [(.iload_n 3, 0, 0, 0, 0), (.iconst 3, 0, 0, 3, 0)] [] [(3, .int (b3_4 + (if (F_M_isLater (f_text w_spot_5.toNatClampNeg)) = 0 then (0 : Int32) else (1 : Int32)))), (0, .ref 0), (1, .int b1_2), (2, .int b2_3), (4, .int (f_text w_spot_5.toNatClampNeg))] [.int (3 : Int32), .int (b3_4 + (if (F_M_isLater (f_text w_spot_5.toNatClampNeg)) = 0 then (0 : Int32) else (1 : Int32)))] (HM f_undone f_letters f_showing w_spot_5 w_tokenAt_6 f_value f_laters f_places f_guesses f_ways f_now f_past f_images f_isKept f_text f_shown w_read_7 f_letter f_sizes f_laterNumber f_many f_labelAt f_soAt f_meets f_wayFrom f_wayTo f_wayBy f_reach f_goesOn f_far f_round f_line f_guessAt) (by decide +kernel) rfl g_nil ?_
                  refine g_br 84 (.if_icmp .le 11) ((b3_4 + (if (F_M_isLater (f_text w_spot_5.toNatClampNeg)) = 0 then (0 : Int32) else (1 : Int32))) ≤ (3 : Int32)) [] (by decide +kernel) rfl (fun c16 => ?_) (fun c16 => ?_)
                  · have hs := g_sat_t hs c16
                    refine g_blk 87 [(.iload_n 1, 0, 0, 0, 0), (.iload 4, 0, 0, 0, 0)] [] [(3, .int (b3_4 + (if (F_M_isLater (f_text w_spot_5.toNatClampNeg)) = 0 then (0 : Int32) else (1 : Int32)))), (0, .ref 0), (1, .int b1_2), (2, .int b2_3), (4, .int (f_text w_spot_5.toNatClampNeg))] [.int (f_text w_spot_5.toNatClampNeg), .int b1_2] (HM f_undone f_letters f_showing w_spot_5 w_tokenAt_6 f_value f_laters f_places f_guesses f_ways f_now f_past f_images f_isKept f_text f_shown w_read_7 f_letter f_sizes f_laterNumber f_many f_labelAt f_soAt f_meets f_wayFrom f_wayTo f_wayBy f_reach f_goesOn f_far f_round f_line f_guessAt) (by decide +kernel) rfl g_nil ?_
                    refine g_pN (ct_M_insideOf (f_text w_spot_5.toNatClampNeg)) 134 1 lk_7_134 (by decide +kernel) rfl ⟨rfl, rfl, by decide, by decide⟩ [.int b1_2] rfl (Nat.le_of_ble_eq_true rfl) ?_
                    obtain ⟨h17, hs⟩ := g_sat_c hs
                    refine g_blk 116 [(.iconst 1, 0, 0, 1, 0), (.isub, 0, 0, 0, 0), (.iadd, 0, 0, 0, 0), (.istore_n 1, 0, 0, 0, 0), (.iinc 2 1, 0, 0, 1, 0), (.aload_n 0, 0, 0, 0, 0), (.getfield 29, 7, 9, 0, 0), (.iload_n 2, 0, 0, 0, 0), (.iload 4, 0, 0, 0, 0), (.iastore, 0, 0, 0, 0), (.aload_n 0, 0, 0, 0, 0), (.dup, 0, 0, 0, 0), (.getfield 92, 7, 10, 0, 0), (.iconst 1, 0, 0, 1, 0), (.iadd, 0, 0, 0, 0), (.putfield 92, 7, 10, 1, 0), (.aload_n 0, 0, 0, 0, 0)] [vp_in (b2_3 + (1 : Int32)) 105] [(2, .int (b2_3 + (1 : Int32))), (1, .int (b1_2 + ((F_M_insideOf (f_text w_spot_5.toNatClampNeg)) - (1 : Int32)))), (3, .int (b3_4 + (if (F_M_isLater (f_text w_spot_5.toNatClampNeg)) = 0 then (0 : Int32) else (1 : Int32)))), (0, .ref 0), (4, .int (f_text w_spot_5.toNatClampNeg))] [.ref 0] (HM f_undone f_letters f_showing (w_spot_5 + (1 : Int32)) w_tokenAt_6 f_value f_laters f_places f_guesses f_ways f_now f_past f_images f_isKept f_text f_shown (upd w_read_7 ((b2_3 + (1 : Int32))).toNatClampNeg (f_text w_spot_5.toNatClampNeg)) f_letter f_sizes f_laterNumber f_many f_labelAt f_soAt f_meets f_wayFrom f_wayTo f_wayBy f_reach f_goesOn f_far f_round f_line f_guessAt) (by decide +kernel) rfl (g_and (g_inb_in h17) g_nil) ?_
                    refine g_fM (ct_M_blanks N f_undone f_letters f_showing (w_spot_5 + (1 : Int32)) w_tokenAt_6 f_value f_laters f_places f_guesses f_ways f_now f_past f_images f_isKept f_text f_shown (upd w_read_7 ((b2_3 + (1 : Int32))).toNatClampNeg (f_text w_spot_5.toNatClampNeg)) f_letter f_sizes f_laterNumber f_many f_labelAt f_soAt f_meets f_wayFrom f_wayTo f_wayBy f_reach f_goesOn f_far f_round f_line f_guessAt) 98 true 0 lk_7_98 (by decide +kernel) rfl ⟨rfl, rfl, by decide, by decide⟩ [] rfl (Nat.le_of_ble_eq_true rfl) (fun _ => ⟨0, 7, _, rfl, rfl, by decide, rfl⟩) hs (fun o18 hs => ?_)
                    refine g_blk 15 [(.goto (-104), 0, 0, 0, 0)] [] [(2, .int (b2_3 + (1 : Int32))), (1, .int (b1_2 + ((F_M_insideOf (f_text w_spot_5.toNatClampNeg)) - (1 : Int32)))), (3, .int (b3_4 + (if (F_M_isLater (f_text w_spot_5.toNatClampNeg)) = 0 then (0 : Int32) else (1 : Int32)))), (0, .ref 0), (4, .int (f_text w_spot_5.toNatClampNeg))] [] (HM f_undone f_letters f_showing o18.1 o18.2 f_value f_laters f_places f_guesses f_ways f_now f_past f_images f_isKept f_text f_shown (upd w_read_7 ((b2_3 + (1 : Int32))).toNatClampNeg (f_text w_spot_5.toNatClampNeg)) f_letter f_sizes f_laterNumber f_many f_labelAt f_soAt f_meets f_wayFrom f_wayTo f_wayBy f_reach f_goesOn f_far f_round f_line f_guessAt) (by decide +kernel) rfl g_nil ?_
                    refine g_loc (L2 := [(0, .ref 0), (1, .int (b1_2 + ((F_M_insideOf (f_text w_spot_5.toNatClampNeg)) - (1 : Int32)))), (2, .int (b2_3 + (1 : Int32))), (3, .int (b3_4 + (if (F_M_isLater (f_text w_spot_5.toNatClampNeg)) = 0 then (0 : Int32) else (1 : Int32))))]) [3, 1, 0, 2] rfl ?_
                    exact ih _ _ _ _ _ _ hs
                  · have hs := g_sat_f hs c16
                    refine g_blk 83 [(.bipush (-10), 0, 0, (-10), 0), (.aload_n 0, 0, 0, 0, 0), (.getfield 92, 7, 10, 0, 0), (.isub, 0, 0, 0, 0)] [] [(3, .int (b3_4 + (if (F_M_isLater (f_text w_spot_5.toNatClampNeg)) = 0 then (0 : Int32) else (1 : Int32)))), (0, .ref 0), (1, .int b1_2), (2, .int b2_3), (4, .int (f_text w_spot_5.toNatClampNeg))] [.int ((-10 : Int32) - w_spot_5)] (HM f_undone f_letters f_showing w_spot_5 w_tokenAt_6 f_value f_laters f_places f_guesses f_ways f_now f_past f_images f_isKept f_text f_shown w_read_7 f_letter f_sizes f_laterNumber f_many f_labelAt f_soAt f_meets f_wayFrom f_wayTo f_wayBy f_reach f_goesOn f_far f_round f_line f_guessAt) (by decide +kernel) rfl g_nil ?_
                    have hq := hretM_readsFormula_l1 _ (g_sat_s hs)
                    exact g_iret hX (by decide +kernel) rfl hq
          refine g_br 50 (.ifCond .eq 7) ((F_M_isLater (f_text w_spot_5.toNatClampNeg)) = 0) [.int b3_4] (by decide +kernel) rfl (fun c20 => ?_) (fun c20 => ?_)
          · refine g_blk 51 [(.iconst 0, 0, 0, 0, 0)] [] [(4, .int (f_text w_spot_5.toNatClampNeg)), (0, .ref 0), (1, .int b1_2), (2, .int b2_3), (3, .int b3_4)] [.int (0 : Int32), .int b3_4] (HM f_undone f_letters f_showing w_spot_5 w_tokenAt_6 f_value f_laters f_places f_guesses f_ways f_now f_past f_images f_isKept f_text f_shown w_read_7 f_letter f_sizes f_laterNumber f_many f_labelAt f_soAt f_meets f_wayFrom f_wayTo f_wayBy f_reach f_goesOn f_far f_round f_line f_guessAt) (by decide +kernel) rfl g_nil ?_
            refine g_loc (L2 := [(0, .ref 0), (1, .int b1_2), (2, .int b2_3), (4, .int (f_text w_spot_5.toNatClampNeg))]) [1, 2, 3, 0] rfl ?_
            exact hJ18 _ (by rw [if_pos c20])
          · refine g_blk 51 [(.iconst 1, 0, 0, 1, 0), (.goto 4, 0, 0, 0, 0)] [] [(4, .int (f_text w_spot_5.toNatClampNeg)), (0, .ref 0), (1, .int b1_2), (2, .int b2_3), (3, .int b3_4)] [.int (1 : Int32), .int b3_4] (HM f_undone f_letters f_showing w_spot_5 w_tokenAt_6 f_value f_laters f_places f_guesses f_ways f_now f_past f_images f_isKept f_text f_shown w_read_7 f_letter f_sizes f_laterNumber f_many f_labelAt f_soAt f_meets f_wayFrom f_wayTo f_wayBy f_reach f_goesOn f_far f_round f_line f_guessAt) (by decide +kernel) rfl g_nil ?_
            refine g_loc (L2 := [(0, .ref 0), (1, .int b1_2), (2, .int b2_3), (4, .int (f_text w_spot_5.toNatClampNeg))]) [1, 2, 3, 0] rfl ?_
            exact hJ18 _ (by rw [if_neg c20])
    exact hlM_readsFormula_l1 N _ _ _ _ _ _ hs
abbrev rm_M_formula : Room := { frames := 2, cells := 0, slots := 0, locals := 44 }
def M_formula_l1 (o1 : Int32 × Int32 × Int32 × (Nat → Int32)) : Nat → Int32 → (Nat → Int32) → Option (Nat → Int32)
  | 0, _, _ => none
  | n + 1, b2_4, w_now_5 => (if (17 : Int32) ≤ b2_4 then (some w_now_5) else ((if o1.1 < b2_4 then (some (0 : Int32)) else (g_chk (g_inb b2_4 105) (some (o1.2.2.2 b2_4.toNatClampNeg)))).bind fun o10 => (g_chk (g_inb ((37 : Int32) + b2_4) 105) (M_formula_l1 o1 n (b2_4 + (1 : Int32)) (upd w_now_5 (((37 : Int32) + b2_4)).toNatClampNeg o10)))))
theorem M_formula_l1_s (o1 : Int32 × Int32 × Int32 × (Nat → Int32)) (n : Nat) (b2_4 : Int32) (w_now_5 : Nat → Int32) : M_formula_l1 o1 (n + 1) b2_4 w_now_5 = (if (17 : Int32) ≤ b2_4 then (some w_now_5) else ((if o1.1 < b2_4 then (some (0 : Int32)) else (g_chk (g_inb b2_4 105) (some (o1.2.2.2 b2_4.toNatClampNeg)))).bind fun o10 => (g_chk (g_inb ((37 : Int32) + b2_4) 105) (M_formula_l1 o1 n (b2_4 + (1 : Int32)) (upd w_now_5 (((37 : Int32) + b2_4)).toNatClampNeg o10))))) := rfl
def F_M_formula (N : Nat) (f_undone : Int32) (f_letters : Int32) (f_now : Nat → Int32) (f_past : Nat → Int32) (f_text : Nat → Int32) (f_read : Nat → Int32) : Option (Int32 × Int32 × Int32 × Int32 × Int32 × (Nat → Int32) × (Nat → Int32) × (Nat → Int32)) := ((F_M_readsFormula N f_letters f_text f_read).bind fun o1 => (if 0 ≤ o1.1 then ((F_M_remembers N f_undone f_now f_past).bind fun o3 => ((M_formula_l1 o1 N (0 : Int32) f_now).bind fun o6 => (some (o1.1, o3.1, (0 : Int32), o1.2.1, o1.2.2.1, o6, o3.2, o1.2.2.2)))) else (some (o1.1, f_undone, f_letters, o1.2.1, o1.2.2.1, f_now, f_past, o1.2.2.2))))
set_option maxRecDepth 100000 in
theorem ct_M_formula (N : Nat) (f_undone : Int32) (f_letters : Int32) (f_showing : Int32) (f_spot : Int32) (f_tokenAt : Int32) (f_value : Int32) (f_laters : Int32) (f_places : Int32) (f_guesses : Int32) (f_ways : Int32) (f_now : Nat → Int32) (f_past : Nat → Int32) (f_images : Nat → Int32) (f_isKept : Nat → Int32) (f_text : Nat → Int32) (f_shown : Nat → Int32) (f_read : Nat → Int32) (f_letter : Nat → Int32) (f_sizes : Nat → Int32) (f_laterNumber : Nat → Int32) (f_many : Nat → Int32) (f_labelAt : Nat → Int32) (f_soAt : Nat → Int32) (f_meets : Nat → Int32) (f_wayFrom : Nat → Int32) (f_wayTo : Nat → Int32) (f_wayBy : Nat → Int32) (f_reach : Nat → Int64) (f_goesOn : Nat → Int32) (f_far : Nat → Int32) (f_round : Nat → Int32) (f_line : Nat → Int32) (f_guessAt : Nat → Int32) : g_F y_M_formula c_M_formula 3 (some .int) rm_M_formula [.ref 0] (HM f_undone f_letters f_showing f_spot f_tokenAt f_value f_laters f_places f_guesses f_ways f_now f_past f_images f_isKept f_text f_shown f_read f_letter f_sizes f_laterNumber f_many f_labelAt f_soAt f_meets f_wayFrom f_wayTo f_wayBy f_reach f_goesOn f_far f_round f_line f_guessAt) (F_M_formula N f_undone f_letters f_now f_past f_text f_read) (fun o => some (.int o.1)) (fun o => (HM o.2.1 o.2.2.1 f_showing o.2.2.2.1 o.2.2.2.2.1 f_value f_laters f_places f_guesses f_ways o.2.2.2.2.2.1 o.2.2.2.2.2.2.1 f_images f_isKept f_text f_shown o.2.2.2.2.2.2.2 f_letter f_sizes f_laterNumber f_many f_labelAt f_soAt f_meets f_wayFrom f_wayTo f_wayBy f_reach f_goesOn f_far f_round f_line f_guessAt)) := by
  intro l P hs
  refine g_ofG 7 (by decide +kernel) rfl (Nat.le_of_ble_eq_true rfl) (fun X hX => ?_)
  unfold F_M_formula at hs
  refine g_loc (L2 := [(0, .ref 0)]) [0] rfl ?_
  refine g_blk 1 [(.aload_n 0, 0, 0, 0, 0)] [] [(0, .ref 0)] [.ref 0] (HM f_undone f_letters f_showing f_spot f_tokenAt f_value f_laters f_places f_guesses f_ways f_now f_past f_images f_isKept f_text f_shown f_read f_letter f_sizes f_laterNumber f_many f_labelAt f_soAt f_meets f_wayFrom f_wayTo f_wayBy f_reach f_goesOn f_far f_round f_line f_guessAt) (by decide +kernel) rfl g_nil ?_
  refine g_fM (ct_M_readsFormula N f_undone f_letters f_showing f_spot f_tokenAt f_value f_laters f_places f_guesses f_ways f_now f_past f_images f_isKept f_text f_shown f_read f_letter f_sizes f_laterNumber f_many f_labelAt f_soAt f_meets f_wayFrom f_wayTo f_wayBy f_reach f_goesOn f_far f_round f_line f_guessAt) 138 true 0 lk_7_138 (by decide +kernel) rfl ⟨rfl, rfl, by decide, by decide⟩ [] rfl (Nat.le_of_ble_eq_true rfl) (fun _ => ⟨0, 7, _, rfl, rfl, by decide, rfl⟩) hs (fun o1 hs => ?_)
  refine g_blk 6 [(.istore_n 1, 0, 0, 0, 0), (.iload_n 1, 0, 0, 0, 0)] [] [(1, .int o1.1), (0, .ref 0)] [.int o1.1] (HM f_undone f_letters f_showing o1.2.1 o1.2.2.1 f_value f_laters f_places f_guesses f_ways f_now f_past f_images f_isKept f_text f_shown o1.2.2.2 f_letter f_sizes f_laterNumber f_many f_labelAt f_soAt f_meets f_wayFrom f_wayTo f_wayBy f_reach f_goesOn f_far f_round f_line f_guessAt) (by decide +kernel) rfl g_nil ?_
  refine g_br 11 (.ifCond .ge 5) (0 ≤ o1.1) [] (by decide +kernel) rfl (fun c2 => ?_) (fun c2 => ?_)
  · have hs := g_sat_t hs c2
    refine g_blk 12 [(.aload_n 0, 0, 0, 0, 0)] [] [(1, .int o1.1), (0, .ref 0)] [.ref 0] (HM f_undone f_letters f_showing o1.2.1 o1.2.2.1 f_value f_laters f_places f_guesses f_ways f_now f_past f_images f_isKept f_text f_shown o1.2.2.2 f_letter f_sizes f_laterNumber f_many f_labelAt f_soAt f_meets f_wayFrom f_wayTo f_wayBy f_reach f_goesOn f_far f_round f_line f_guessAt) (by decide +kernel) rfl g_nil ?_
    refine g_fM (ct_M_remembers N f_undone f_letters f_showing o1.2.1 o1.2.2.1 f_value f_laters f_places f_guesses f_ways f_now f_past f_images f_isKept f_text f_shown o1.2.2.2 f_letter f_sizes f_laterNumber f_many f_labelAt f_soAt f_meets f_wayFrom f_wayTo f_wayBy f_reach f_goesOn f_far f_round f_line f_guessAt) 128 true 0 lk_7_128 (by decide +kernel) rfl ⟨rfl, rfl, by decide, by decide⟩ [] rfl (Nat.le_of_ble_eq_true rfl) (fun _ => ⟨0, 7, _, rfl, rfl, by decide, rfl⟩) hs (fun o3 hs => ?_)
    refine g_blk 17 [(.iconst 0, 0, 0, 0, 0), (.istore_n 2, 0, 0, 0, 0)] [] [(2, .int (0 : Int32)), (1, .int o1.1), (0, .ref 0)] [] (HM o3.1 f_letters f_showing o1.2.1 o1.2.2.1 f_value f_laters f_places f_guesses f_ways f_now o3.2 f_images f_isKept f_text f_shown o1.2.2.2 f_letter f_sizes f_laterNumber f_many f_labelAt f_soAt f_meets f_wayFrom f_wayTo f_wayBy f_reach f_goesOn f_far f_round f_line f_guessAt) (by decide +kernel) rfl g_nil ?_
    refine g_loc (L2 := [(0, .ref 0), (1, .int o1.1), (2, .int (0 : Int32))]) [2, 1, 0] rfl ?_
    refine g_join (fun (o6 : Nat → Int32) => g_G X rm_M_formula c_M_formula 3 7 (some .int) 53 [(0, .ref 0), (1, .int o1.1)] [] (HM o3.1 f_letters f_showing o1.2.1 o1.2.2.1 f_value f_laters f_places f_guesses f_ways o6 o3.2 f_images f_isKept f_text f_shown o1.2.2.2 f_letter f_sizes f_laterNumber f_many f_labelAt f_soAt f_meets f_wayFrom f_wayTo f_wayBy f_reach f_goesOn f_far f_round f_line f_guessAt)) hs (fun o6 hs => ?_) (fun hs => ?_)
    · refine g_blk 59 [(.aload_n 0, 0, 0, 0, 0), (.iconst 0, 0, 0, 0, 0), (.putfield 89, 7, 6, 1, 0), (.iload_n 1, 0, 0, 0, 0)] [] [(0, .ref 0), (1, .int o1.1)] [.int o1.1] (HM o3.1 (0 : Int32) f_showing o1.2.1 o1.2.2.1 f_value f_laters f_places f_guesses f_ways o6 o3.2 f_images f_isKept f_text f_shown o1.2.2.2 f_letter f_sizes f_laterNumber f_many f_labelAt f_soAt f_meets f_wayFrom f_wayTo f_wayBy f_reach f_goesOn f_far f_round f_line f_guessAt) (by decide +kernel) rfl g_nil ?_
      have hq := g_sat_s hs
      exact g_iret hX (by decide +kernel) rfl hq
    · have hlM_formula_l1 : ∀ (n : Nat) (b2_4 : Int32) (w_now_5 : Nat → Int32), g_sat (M_formula_l1 o1 n b2_4 w_now_5) (fun (o6 : Nat → Int32) => g_G X rm_M_formula c_M_formula 3 7 (some .int) 53 [(0, .ref 0), (1, .int o1.1)] [] (HM o3.1 f_letters f_showing o1.2.1 o1.2.2.1 f_value f_laters f_places f_guesses f_ways o6 o3.2 f_images f_isKept f_text f_shown o1.2.2.2 f_letter f_sizes f_laterNumber f_many f_labelAt f_soAt f_meets f_wayFrom f_wayTo f_wayBy f_reach f_goesOn f_far f_round f_line f_guessAt)) → g_G X rm_M_formula c_M_formula 3 7 (some .int) 17 [(0, .ref 0), (1, .int o1.1), (2, .int b2_4)] [] (HM o3.1 f_letters f_showing o1.2.1 o1.2.2.1 f_value f_laters f_places f_guesses f_ways w_now_5 o3.2 f_images f_isKept f_text f_shown o1.2.2.2 f_letter f_sizes f_laterNumber f_many f_labelAt f_soAt f_meets f_wayFrom f_wayTo f_wayBy f_reach f_goesOn f_far f_round f_line f_guessAt) := by
        intro n
        induction n with
        | zero =>
          intro b2_4 w_now_5 hs
          obtain ⟨_, h0, _⟩ := hs
          cases h0
        | succ n ih =>
          intro b2_4 w_now_5 hs
          rw [M_formula_l1_s] at hs
          refine g_blk 20 [(.iload_n 2, 0, 0, 0, 0), (.bipush 17, 0, 0, 17, 0)] [] [(0, .ref 0), (1, .int o1.1), (2, .int b2_4)] [.int (17 : Int32), .int b2_4] (HM o3.1 f_letters f_showing o1.2.1 o1.2.2.1 f_value f_laters f_places f_guesses f_ways w_now_5 o3.2 f_images f_isKept f_text f_shown o1.2.2.2 f_letter f_sizes f_laterNumber f_many f_labelAt f_soAt f_meets f_wayFrom f_wayTo f_wayBy f_reach f_goesOn f_far f_round f_line f_guessAt) (by decide +kernel) rfl g_nil ?_
          refine g_br 53 (.if_icmp .ge 33) ((17 : Int32) ≤ b2_4) [] (by decide +kernel) rfl (fun c7 => ?_) (fun c7 => ?_)
          · have hs := g_sat_t hs c7
            refine g_loc (L2 := [(0, .ref 0), (1, .int o1.1)]) [0, 1] rfl ?_
            have hq := g_sat_s hs
            exact hq
          · have hs := g_sat_f hs c7
            refine g_blk 33 [(.aload_n 0, 0, 0, 0, 0), (.getfield 7, 7, 0, 0, 0), (.bipush 37, 0, 0, 37, 0), (.iload_n 2, 0, 0, 0, 0), (.iadd, 0, 0, 0, 0), (.iload_n 2, 0, 0, 0, 0), (.iload_n 1, 0, 0, 0, 0)] [] [(0, .ref 0), (1, .int o1.1), (2, .int b2_4)] [.int o1.1, .int b2_4, .int ((37 : Int32) + b2_4), .ref 1] (HM o3.1 f_letters f_showing o1.2.1 o1.2.2.1 f_value f_laters f_places f_guesses f_ways w_now_5 o3.2 f_images f_isKept f_text f_shown o1.2.2.2 f_letter f_sizes f_laterNumber f_many f_labelAt f_soAt f_meets f_wayFrom f_wayTo f_wayBy f_reach f_goesOn f_far f_round f_line f_guessAt) (by decide +kernel) rfl g_nil ?_
            refine g_join (fun (o10 : Int32) => g_G X rm_M_formula c_M_formula 3 7 (some .int) 46 [(0, .ref 0), (1, .int o1.1), (2, .int b2_4)] [.int o10, .int ((37 : Int32) + b2_4), .ref 1] (HM o3.1 f_letters f_showing o1.2.1 o1.2.2.1 f_value f_laters f_places f_guesses f_ways w_now_5 o3.2 f_images f_isKept f_text f_shown o1.2.2.2 f_letter f_sizes f_laterNumber f_many f_labelAt f_soAt f_meets f_wayFrom f_wayTo f_wayBy f_reach f_goesOn f_far f_round f_line f_guessAt)) hs (fun o10 hs => ?_) (fun hs => ?_)
            · obtain ⟨h12, hs⟩ := g_sat_c hs
              refine g_blk 17 [(.iastore, 0, 0, 0, 0), (.iinc 2 1, 0, 0, 1, 0), (.goto (-33), 0, 0, 0, 0)] [vp_in ((37 : Int32) + b2_4) 105] [(2, .int (b2_4 + (1 : Int32))), (0, .ref 0), (1, .int o1.1)] [] (HM o3.1 f_letters f_showing o1.2.1 o1.2.2.1 f_value f_laters f_places f_guesses f_ways (upd w_now_5 (((37 : Int32) + b2_4)).toNatClampNeg o10) o3.2 f_images f_isKept f_text f_shown o1.2.2.2 f_letter f_sizes f_laterNumber f_many f_labelAt f_soAt f_meets f_wayFrom f_wayTo f_wayBy f_reach f_goesOn f_far f_round f_line f_guessAt) (by decide +kernel) rfl (g_and (g_inb_in h12) g_nil) ?_
              refine g_loc (L2 := [(0, .ref 0), (1, .int o1.1), (2, .int (b2_4 + (1 : Int32)))]) [1, 2, 0] rfl ?_
              exact ih _ _ hs
            · refine g_br 45 (.if_icmp .gt 12) (o1.1 < b2_4) [.int ((37 : Int32) + b2_4), .ref 1] (by decide +kernel) rfl (fun c8 => ?_) (fun c8 => ?_)
              · have hs := g_sat_t hs c8
                refine g_blk 46 [(.iconst 0, 0, 0, 0, 0)] [] [(0, .ref 0), (1, .int o1.1), (2, .int b2_4)] [.int (0 : Int32), .int ((37 : Int32) + b2_4), .ref 1] (HM o3.1 f_letters f_showing o1.2.1 o1.2.2.1 f_value f_laters f_places f_guesses f_ways w_now_5 o3.2 f_images f_isKept f_text f_shown o1.2.2.2 f_letter f_sizes f_laterNumber f_many f_labelAt f_soAt f_meets f_wayFrom f_wayTo f_wayBy f_reach f_goesOn f_far f_round f_line f_guessAt) (by decide +kernel) rfl g_nil ?_
                have hq := g_sat_s hs
                exact hq
              · have hs := g_sat_f hs c8
                obtain ⟨h11, hs⟩ := g_sat_c hs
                refine g_blk 46 [(.aload_n 0, 0, 0, 0, 0), (.getfield 29, 7, 9, 0, 0), (.iload_n 2, 0, 0, 0, 0), (.iaload, 0, 0, 0, 0), (.goto 4, 0, 0, 0, 0)] [vp_in b2_4 105] [(0, .ref 0), (1, .int o1.1), (2, .int b2_4)] [.int (o1.2.2.2 b2_4.toNatClampNeg), .int ((37 : Int32) + b2_4), .ref 1] (HM o3.1 f_letters f_showing o1.2.1 o1.2.2.1 f_value f_laters f_places f_guesses f_ways w_now_5 o3.2 f_images f_isKept f_text f_shown o1.2.2.2 f_letter f_sizes f_laterNumber f_many f_labelAt f_soAt f_meets f_wayFrom f_wayTo f_wayBy f_reach f_goesOn f_far f_round f_line f_guessAt) (by decide +kernel) rfl (g_and (g_inb_in h11) g_nil) ?_
                have hq := g_sat_s hs
                exact hq
      exact hlM_formula_l1 N _ _ hs
  · have hs := g_sat_f hs c2
    refine g_blk 10 [(.iload_n 1, 0, 0, 0, 0)] [] [(1, .int o1.1), (0, .ref 0)] [.int o1.1] (HM f_undone f_letters f_showing o1.2.1 o1.2.2.1 f_value f_laters f_places f_guesses f_ways f_now f_past f_images f_isKept f_text f_shown o1.2.2.2 f_letter f_sizes f_laterNumber f_many f_labelAt f_soAt f_meets f_wayFrom f_wayTo f_wayBy f_reach f_goesOn f_far f_round f_line f_guessAt) (by decide +kernel) rfl g_nil ?_
    have hq := g_sat_s hs
    exact g_iret hX (by decide +kernel) rfl hq
abbrev rm_M_isState : Room := { frames := 1, cells := 0, slots := 0, locals := 22 }
def F_M_isState (f_now : Nat → Int32) (a1 : Int32) : Int32 := (F_M_in a1 (0 : Int32) ((f_now 0) - (1 : Int32)))
theorem bo_M_isState (f_now : Nat → Int32) (a1 : Int32) : F_M_isState f_now a1 = 0 ∨ F_M_isState f_now a1 = 1 := by
  unfold F_M_isState
  repeat (first | exact Or.inl rfl | exact Or.inr rfl | exact bo_M_in _ _ _ | split)
set_option maxRecDepth 100000 in
theorem ct_M_isState (f_undone : Int32) (f_letters : Int32) (f_showing : Int32) (f_spot : Int32) (f_tokenAt : Int32) (f_value : Int32) (f_laters : Int32) (f_places : Int32) (f_guesses : Int32) (f_ways : Int32) (f_now : Nat → Int32) (f_past : Nat → Int32) (f_images : Nat → Int32) (f_isKept : Nat → Int32) (f_text : Nat → Int32) (f_shown : Nat → Int32) (f_read : Nat → Int32) (f_letter : Nat → Int32) (f_sizes : Nat → Int32) (f_laterNumber : Nat → Int32) (f_many : Nat → Int32) (f_labelAt : Nat → Int32) (f_soAt : Nat → Int32) (f_meets : Nat → Int32) (f_wayFrom : Nat → Int32) (f_wayTo : Nat → Int32) (f_wayBy : Nat → Int32) (f_reach : Nat → Int64) (f_goesOn : Nat → Int32) (f_far : Nat → Int32) (f_round : Nat → Int32) (f_line : Nat → Int32) (f_guessAt : Nat → Int32) (a1 : Int32) : g_F y_M_isState c_M_isState 2 (some .boolean) rm_M_isState [.ref 0, .int a1] (HM f_undone f_letters f_showing f_spot f_tokenAt f_value f_laters f_places f_guesses f_ways f_now f_past f_images f_isKept f_text f_shown f_read f_letter f_sizes f_laterNumber f_many f_labelAt f_soAt f_meets f_wayFrom f_wayTo f_wayBy f_reach f_goesOn f_far f_round f_line f_guessAt) (some (F_M_isState f_now a1)) (fun o => some (.int o)) (fun _ => (HM f_undone f_letters f_showing f_spot f_tokenAt f_value f_laters f_places f_guesses f_ways f_now f_past f_images f_isKept f_text f_shown f_read f_letter f_sizes f_laterNumber f_many f_labelAt f_soAt f_meets f_wayFrom f_wayTo f_wayBy f_reach f_goesOn f_far f_round f_line f_guessAt)) := by
  intro l P hs
  refine g_ofG 7 (by decide +kernel) rfl (Nat.le_of_ble_eq_true rfl) (fun X hX => ?_)
  unfold F_M_isState at hs
  refine g_loc (L2 := [(0, .ref 0), (1, .int a1)]) [0, 1] rfl ?_
  refine g_blk 10 [(.iload_n 1, 0, 0, 0, 0), (.iconst 0, 0, 0, 0, 0), (.aload_n 0, 0, 0, 0, 0), (.getfield 7, 7, 0, 0, 0), (.iconst 0, 0, 0, 0, 0), (.iaload, 0, 0, 0, 0), (.iconst 1, 0, 0, 1, 0), (.isub, 0, 0, 0, 0)] [vp_in (0 : Int32) 105] [(0, .ref 0), (1, .int a1)] [.int ((f_now 0) - (1 : Int32)), .int (0 : Int32), .int a1] (HM f_undone f_letters f_showing f_spot f_tokenAt f_value f_laters f_places f_guesses f_ways f_now f_past f_images f_isKept f_text f_shown f_read f_letter f_sizes f_laterNumber f_many f_labelAt f_soAt f_meets f_wayFrom f_wayTo f_wayBy f_reach f_goesOn f_far f_round f_line f_guessAt) (by decide +kernel) rfl (g_and (g_inb_in (by decide +kernel)) g_nil) ?_
  refine g_pN (ct_M_in a1 (0 : Int32) ((f_now 0) - (1 : Int32))) 85 3 lk_7_85 (by decide +kernel) rfl ⟨rfl, rfl, by decide, by decide⟩ [] rfl (Nat.le_of_ble_eq_true rfl) ?_
  have hq := g_sat_s hs
  exact g_zret hX (by decide +kernel) rfl (bo_M_in a1 (0 : Int32) ((f_now 0) - (1 : Int32))) hq
abbrev rm_M_labels : Room := { frames := 2, cells := 0, slots := 0, locals := 43 }
def F_M_labels (N : Nat) (f_undone : Int32) (f_now : Nat → Int32) (f_past : Nat → Int32) (a1 : Int32) (a2 : Int32) : Option (Int32 × Int32 × (Nat → Int32) × (Nat → Int32)) := (if (F_M_isState f_now a1) = 0 then (some ((-1 : Int32), f_undone, f_now, f_past)) else (if (F_M_in a2 (0 : Int32) (7 : Int32)) = 0 then (some ((-1 : Int32), f_undone, f_now, f_past)) else (g_chk (g_inb ((1 : Int32) + a1) 105) (if (f_now (((1 : Int32) + a1)).toNatClampNeg) = a2 then (some ((-2 : Int32), f_undone, f_now, f_past)) else ((F_M_remembers N f_undone f_now f_past).bind fun o5 => (g_chk (g_inb ((1 : Int32) + a1) 105) (some ((f_now (((1 : Int32) + a1)).toNatClampNeg), o5.1, (upd f_now (((1 : Int32) + a1)).toNatClampNeg a2), o5.2))))))))
set_option maxRecDepth 100000 in
theorem ct_M_labels (N : Nat) (f_undone : Int32) (f_letters : Int32) (f_showing : Int32) (f_spot : Int32) (f_tokenAt : Int32) (f_value : Int32) (f_laters : Int32) (f_places : Int32) (f_guesses : Int32) (f_ways : Int32) (f_now : Nat → Int32) (f_past : Nat → Int32) (f_images : Nat → Int32) (f_isKept : Nat → Int32) (f_text : Nat → Int32) (f_shown : Nat → Int32) (f_read : Nat → Int32) (f_letter : Nat → Int32) (f_sizes : Nat → Int32) (f_laterNumber : Nat → Int32) (f_many : Nat → Int32) (f_labelAt : Nat → Int32) (f_soAt : Nat → Int32) (f_meets : Nat → Int32) (f_wayFrom : Nat → Int32) (f_wayTo : Nat → Int32) (f_wayBy : Nat → Int32) (f_reach : Nat → Int64) (f_goesOn : Nat → Int32) (f_far : Nat → Int32) (f_round : Nat → Int32) (f_line : Nat → Int32) (f_guessAt : Nat → Int32) (a1 : Int32) (a2 : Int32) : g_F y_M_labels c_M_labels 4 (some .int) rm_M_labels [.ref 0, .int a1, .int a2] (HM f_undone f_letters f_showing f_spot f_tokenAt f_value f_laters f_places f_guesses f_ways f_now f_past f_images f_isKept f_text f_shown f_read f_letter f_sizes f_laterNumber f_many f_labelAt f_soAt f_meets f_wayFrom f_wayTo f_wayBy f_reach f_goesOn f_far f_round f_line f_guessAt) (F_M_labels N f_undone f_now f_past a1 a2) (fun o => some (.int o.1)) (fun o => (HM o.2.1 f_letters f_showing f_spot f_tokenAt f_value f_laters f_places f_guesses f_ways o.2.2.1 o.2.2.2 f_images f_isKept f_text f_shown f_read f_letter f_sizes f_laterNumber f_many f_labelAt f_soAt f_meets f_wayFrom f_wayTo f_wayBy f_reach f_goesOn f_far f_round f_line f_guessAt)) := by
  intro l P hs
  refine g_ofG 7 (by decide +kernel) rfl (Nat.le_of_ble_eq_true rfl) (fun X hX => ?_)
  unfold F_M_labels at hs
  refine g_loc (L2 := [(0, .ref 0), (1, .int a1), (2, .int a2)]) [0, 1, 2] rfl ?_
  refine g_blk 2 [(.aload_n 0, 0, 0, 0, 0), (.iload_n 1, 0, 0, 0, 0)] [] [(0, .ref 0), (1, .int a1), (2, .int a2)] [.int a1, .ref 0] (HM f_undone f_letters f_showing f_spot f_tokenAt f_value f_laters f_places f_guesses f_ways f_now f_past f_images f_isKept f_text f_shown f_read f_letter f_sizes f_laterNumber f_many f_labelAt f_soAt f_meets f_wayFrom f_wayTo f_wayBy f_reach f_goesOn f_far f_round f_line f_guessAt) (by decide +kernel) rfl g_nil ?_
  refine g_pM (ct_M_isState f_undone f_letters f_showing f_spot f_tokenAt f_value f_laters f_places f_guesses f_ways f_now f_past f_images f_isKept f_text f_shown f_read f_letter f_sizes f_laterNumber f_many f_labelAt f_soAt f_meets f_wayFrom f_wayTo f_wayBy f_reach f_goesOn f_far f_round f_line f_guessAt a1) 141 true 1 lk_7_141 (by decide +kernel) rfl ⟨rfl, rfl, by decide, by decide⟩ [] rfl (Nat.le_of_ble_eq_true rfl) (fun _ => ⟨0, 7, _, rfl, rfl, by decide, rfl⟩) ?_
  refine g_br 18 (.ifCond .eq 13) ((F_M_isState f_now a1) = 0) [] (by decide +kernel) rfl (fun c1 => ?_) (fun c1 => ?_)
  · have hs := g_sat_t hs c1
    refine g_blk 19 [(.iconst (-1), 0, 0, (-1), 0)] [] [(0, .ref 0), (1, .int a1), (2, .int a2)] [.int (-1 : Int32)] (HM f_undone f_letters f_showing f_spot f_tokenAt f_value f_laters f_places f_guesses f_ways f_now f_past f_images f_isKept f_text f_shown f_read f_letter f_sizes f_laterNumber f_many f_labelAt f_soAt f_meets f_wayFrom f_wayTo f_wayBy f_reach f_goesOn f_far f_round f_line f_guessAt) (by decide +kernel) rfl g_nil ?_
    have hq := g_sat_s hs
    exact g_iret hX (by decide +kernel) rfl hq
  · have hs := g_sat_f hs c1
    refine g_blk 12 [(.iload_n 2, 0, 0, 0, 0), (.iconst 0, 0, 0, 0, 0), (.bipush 7, 0, 0, 7, 0)] [] [(0, .ref 0), (1, .int a1), (2, .int a2)] [.int (7 : Int32), .int (0 : Int32), .int a2] (HM f_undone f_letters f_showing f_spot f_tokenAt f_value f_laters f_places f_guesses f_ways f_now f_past f_images f_isKept f_text f_shown f_read f_letter f_sizes f_laterNumber f_many f_labelAt f_soAt f_meets f_wayFrom f_wayTo f_wayBy f_reach f_goesOn f_far f_round f_line f_guessAt) (by decide +kernel) rfl g_nil ?_
    refine g_pN (ct_M_in a2 (0 : Int32) (7 : Int32)) 85 3 lk_7_85 (by decide +kernel) rfl ⟨rfl, rfl, by decide, by decide⟩ [] rfl (Nat.le_of_ble_eq_true rfl) ?_
    refine g_brn 20 (.ifCond .ne 5) ((F_M_in a2 (0 : Int32) (7 : Int32)) = 0) [] (by decide +kernel) rfl (fun c2 => ?_) (fun c2 => ?_)
    · have hs := g_sat_f hs c2
      obtain ⟨h3, hs⟩ := g_sat_c hs
      refine g_blk 31 [(.aload_n 0, 0, 0, 0, 0), (.getfield 7, 7, 0, 0, 0), (.iconst 1, 0, 0, 1, 0), (.iload_n 1, 0, 0, 0, 0), (.iadd, 0, 0, 0, 0), (.iaload, 0, 0, 0, 0), (.istore_n 3, 0, 0, 0, 0), (.iload_n 3, 0, 0, 0, 0), (.iload_n 2, 0, 0, 0, 0)] [vp_in ((1 : Int32) + a1) 105] [(3, .int (f_now (((1 : Int32) + a1)).toNatClampNeg)), (0, .ref 0), (1, .int a1), (2, .int a2)] [.int a2, .int (f_now (((1 : Int32) + a1)).toNatClampNeg)] (HM f_undone f_letters f_showing f_spot f_tokenAt f_value f_laters f_places f_guesses f_ways f_now f_past f_images f_isKept f_text f_shown f_read f_letter f_sizes f_laterNumber f_many f_labelAt f_soAt f_meets f_wayFrom f_wayTo f_wayBy f_reach f_goesOn f_far f_round f_line f_guessAt) (by decide +kernel) rfl (g_and (g_inb_in h3) g_nil) ?_
      refine g_brn 37 (.if_icmp .ne 6) ((f_now (((1 : Int32) + a1)).toNatClampNeg) = a2) [] (by decide +kernel) rfl (fun c4 => ?_) (fun c4 => ?_)
      · have hs := g_sat_f hs c4
        refine g_blk 38 [(.aload_n 0, 0, 0, 0, 0)] [] [(3, .int (f_now (((1 : Int32) + a1)).toNatClampNeg)), (0, .ref 0), (1, .int a1), (2, .int a2)] [.ref 0] (HM f_undone f_letters f_showing f_spot f_tokenAt f_value f_laters f_places f_guesses f_ways f_now f_past f_images f_isKept f_text f_shown f_read f_letter f_sizes f_laterNumber f_many f_labelAt f_soAt f_meets f_wayFrom f_wayTo f_wayBy f_reach f_goesOn f_far f_round f_line f_guessAt) (by decide +kernel) rfl g_nil ?_
        refine g_fM (ct_M_remembers N f_undone f_letters f_showing f_spot f_tokenAt f_value f_laters f_places f_guesses f_ways f_now f_past f_images f_isKept f_text f_shown f_read f_letter f_sizes f_laterNumber f_many f_labelAt f_soAt f_meets f_wayFrom f_wayTo f_wayBy f_reach f_goesOn f_far f_round f_line f_guessAt) 128 true 0 lk_7_128 (by decide +kernel) rfl ⟨rfl, rfl, by decide, by decide⟩ [] rfl (Nat.le_of_ble_eq_true rfl) (fun _ => ⟨0, 7, _, rfl, rfl, by decide, rfl⟩) hs (fun o5 hs => ?_)
        obtain ⟨h6, hs⟩ := g_sat_c hs
        refine g_blk 51 [(.aload_n 0, 0, 0, 0, 0), (.getfield 7, 7, 0, 0, 0), (.iconst 1, 0, 0, 1, 0), (.iload_n 1, 0, 0, 0, 0), (.iadd, 0, 0, 0, 0), (.iload_n 2, 0, 0, 0, 0), (.iastore, 0, 0, 0, 0), (.iload_n 3, 0, 0, 0, 0)] [vp_in ((1 : Int32) + a1) 105] [(3, .int (f_now (((1 : Int32) + a1)).toNatClampNeg)), (0, .ref 0), (1, .int a1), (2, .int a2)] [.int (f_now (((1 : Int32) + a1)).toNatClampNeg)] (HM o5.1 f_letters f_showing f_spot f_tokenAt f_value f_laters f_places f_guesses f_ways (upd f_now (((1 : Int32) + a1)).toNatClampNeg a2) o5.2 f_images f_isKept f_text f_shown f_read f_letter f_sizes f_laterNumber f_many f_labelAt f_soAt f_meets f_wayFrom f_wayTo f_wayBy f_reach f_goesOn f_far f_round f_line f_guessAt) (by decide +kernel) rfl (g_and (g_inb_in h6) g_nil) ?_
        have hq := g_sat_s hs
        exact g_iret hX (by decide +kernel) rfl hq
      · have hs := g_sat_t hs c4
        refine g_blk 36 [(.bipush (-2), 0, 0, (-2), 0)] [] [(3, .int (f_now (((1 : Int32) + a1)).toNatClampNeg)), (0, .ref 0), (1, .int a1), (2, .int a2)] [.int (-2 : Int32)] (HM f_undone f_letters f_showing f_spot f_tokenAt f_value f_laters f_places f_guesses f_ways f_now f_past f_images f_isKept f_text f_shown f_read f_letter f_sizes f_laterNumber f_many f_labelAt f_soAt f_meets f_wayFrom f_wayTo f_wayBy f_reach f_goesOn f_far f_round f_line f_guessAt) (by decide +kernel) rfl g_nil ?_
        have hq := g_sat_s hs
        exact g_iret hX (by decide +kernel) rfl hq
    · have hs := g_sat_t hs c2
      refine g_blk 19 [(.iconst (-1), 0, 0, (-1), 0)] [] [(0, .ref 0), (1, .int a1), (2, .int a2)] [.int (-1 : Int32)] (HM f_undone f_letters f_showing f_spot f_tokenAt f_value f_laters f_places f_guesses f_ways f_now f_past f_images f_isKept f_text f_shown f_read f_letter f_sizes f_laterNumber f_many f_labelAt f_soAt f_meets f_wayFrom f_wayTo f_wayBy f_reach f_goesOn f_far f_round f_line f_guessAt) (by decide +kernel) rfl g_nil ?_
      have hq := g_sat_s hs
      exact g_iret hX (by decide +kernel) rfl hq
abbrev rm_M_moves : Room := { frames := 2, cells := 0, slots := 0, locals := 43 }
def F_M_moves (N : Nat) (f_undone : Int32) (f_now : Nat → Int32) (f_past : Nat → Int32) (a1 : Int32) (a2 : Int32) (a3 : Int32) : Option (Int32 × Int32 × (Nat → Int32) × (Nat → Int32)) := (if (F_M_in a1 (0 : Int32) (1 : Int32)) = 0 then (some ((-1 : Int32), f_undone, f_now, f_past)) else (if (F_M_isState f_now a2) = 0 then (some ((-1 : Int32), f_undone, f_now, f_past)) else (if (F_M_isState f_now a3) = 0 then (some ((-1 : Int32), f_undone, f_now, f_past)) else (if (f_now 6) = (10 : Int32) then (some ((-3 : Int32), f_undone, f_now, f_past)) else ((F_M_remembers N f_undone f_now f_past).bind fun o5 => (g_chk (g_inb ((7 : Int32) + ((3 : Int32) * (f_now 6))) 105) (g_chk (g_inb (((7 : Int32) + ((3 : Int32) * (f_now 6))) + (1 : Int32)) 105) (g_chk (g_inb (((7 : Int32) + ((3 : Int32) * (f_now 6))) + (2 : Int32)) 105) (some ((((upd (upd (upd (upd f_now (((7 : Int32) + ((3 : Int32) * (f_now 6)))).toNatClampNeg a1) ((((7 : Int32) + ((3 : Int32) * (f_now 6))) + (1 : Int32))).toNatClampNeg a2) ((((7 : Int32) + ((3 : Int32) * (f_now 6))) + (2 : Int32))).toNatClampNeg a3) 6 (((upd (upd (upd f_now (((7 : Int32) + ((3 : Int32) * (f_now 6)))).toNatClampNeg a1) ((((7 : Int32) + ((3 : Int32) * (f_now 6))) + (1 : Int32))).toNatClampNeg a2) ((((7 : Int32) + ((3 : Int32) * (f_now 6))) + (2 : Int32))).toNatClampNeg a3) 6) + (1 : Int32))) 6) - (1 : Int32)), o5.1, (upd (upd (upd (upd f_now (((7 : Int32) + ((3 : Int32) * (f_now 6)))).toNatClampNeg a1) ((((7 : Int32) + ((3 : Int32) * (f_now 6))) + (1 : Int32))).toNatClampNeg a2) ((((7 : Int32) + ((3 : Int32) * (f_now 6))) + (2 : Int32))).toNatClampNeg a3) 6 (((upd (upd (upd f_now (((7 : Int32) + ((3 : Int32) * (f_now 6)))).toNatClampNeg a1) ((((7 : Int32) + ((3 : Int32) * (f_now 6))) + (1 : Int32))).toNatClampNeg a2) ((((7 : Int32) + ((3 : Int32) * (f_now 6))) + (2 : Int32))).toNatClampNeg a3) 6) + (1 : Int32))), o5.2))))))))))
set_option maxRecDepth 100000 in
theorem ct_M_moves (N : Nat) (f_undone : Int32) (f_letters : Int32) (f_showing : Int32) (f_spot : Int32) (f_tokenAt : Int32) (f_value : Int32) (f_laters : Int32) (f_places : Int32) (f_guesses : Int32) (f_ways : Int32) (f_now : Nat → Int32) (f_past : Nat → Int32) (f_images : Nat → Int32) (f_isKept : Nat → Int32) (f_text : Nat → Int32) (f_shown : Nat → Int32) (f_read : Nat → Int32) (f_letter : Nat → Int32) (f_sizes : Nat → Int32) (f_laterNumber : Nat → Int32) (f_many : Nat → Int32) (f_labelAt : Nat → Int32) (f_soAt : Nat → Int32) (f_meets : Nat → Int32) (f_wayFrom : Nat → Int32) (f_wayTo : Nat → Int32) (f_wayBy : Nat → Int32) (f_reach : Nat → Int64) (f_goesOn : Nat → Int32) (f_far : Nat → Int32) (f_round : Nat → Int32) (f_line : Nat → Int32) (f_guessAt : Nat → Int32) (a1 : Int32) (a2 : Int32) (a3 : Int32) : g_F y_M_moves c_M_moves 5 (some .int) rm_M_moves [.ref 0, .int a1, .int a2, .int a3] (HM f_undone f_letters f_showing f_spot f_tokenAt f_value f_laters f_places f_guesses f_ways f_now f_past f_images f_isKept f_text f_shown f_read f_letter f_sizes f_laterNumber f_many f_labelAt f_soAt f_meets f_wayFrom f_wayTo f_wayBy f_reach f_goesOn f_far f_round f_line f_guessAt) (F_M_moves N f_undone f_now f_past a1 a2 a3) (fun o => some (.int o.1)) (fun o => (HM o.2.1 f_letters f_showing f_spot f_tokenAt f_value f_laters f_places f_guesses f_ways o.2.2.1 o.2.2.2 f_images f_isKept f_text f_shown f_read f_letter f_sizes f_laterNumber f_many f_labelAt f_soAt f_meets f_wayFrom f_wayTo f_wayBy f_reach f_goesOn f_far f_round f_line f_guessAt)) := by
  intro l P hs
  refine g_ofG 7 (by decide +kernel) rfl (Nat.le_of_ble_eq_true rfl) (fun X hX => ?_)
  unfold F_M_moves at hs
  refine g_loc (L2 := [(0, .ref 0), (1, .int a1), (2, .int a2), (3, .int a3)]) [0, 1, 2, 3] rfl ?_
  refine g_blk 3 [(.iload_n 1, 0, 0, 0, 0), (.iconst 0, 0, 0, 0, 0), (.iconst 1, 0, 0, 1, 0)] [] [(0, .ref 0), (1, .int a1), (2, .int a2), (3, .int a3)] [.int (1 : Int32), .int (0 : Int32), .int a1] (HM f_undone f_letters f_showing f_spot f_tokenAt f_value f_laters f_places f_guesses f_ways f_now f_past f_images f_isKept f_text f_shown f_read f_letter f_sizes f_laterNumber f_many f_labelAt f_soAt f_meets f_wayFrom f_wayTo f_wayBy f_reach f_goesOn f_far f_round f_line f_guessAt) (by decide +kernel) rfl g_nil ?_
  refine g_pN (ct_M_in a1 (0 : Int32) (1 : Int32)) 85 3 lk_7_85 (by decide +kernel) rfl ⟨rfl, rfl, by decide, by decide⟩ [] rfl (Nat.le_of_ble_eq_true rfl) ?_
  refine g_br 25 (.ifCond .eq 19) ((F_M_in a1 (0 : Int32) (1 : Int32)) = 0) [] (by decide +kernel) rfl (fun c1 => ?_) (fun c1 => ?_)
  · have hs := g_sat_t hs c1
    refine g_blk 26 [(.iconst (-1), 0, 0, (-1), 0)] [] [(0, .ref 0), (1, .int a1), (2, .int a2), (3, .int a3)] [.int (-1 : Int32)] (HM f_undone f_letters f_showing f_spot f_tokenAt f_value f_laters f_places f_guesses f_ways f_now f_past f_images f_isKept f_text f_shown f_read f_letter f_sizes f_laterNumber f_many f_labelAt f_soAt f_meets f_wayFrom f_wayTo f_wayBy f_reach f_goesOn f_far f_round f_line f_guessAt) (by decide +kernel) rfl g_nil ?_
    have hq := g_sat_s hs
    exact g_iret hX (by decide +kernel) rfl hq
  · have hs := g_sat_f hs c1
    refine g_blk 11 [(.aload_n 0, 0, 0, 0, 0), (.iload_n 2, 0, 0, 0, 0)] [] [(0, .ref 0), (1, .int a1), (2, .int a2), (3, .int a3)] [.int a2, .ref 0] (HM f_undone f_letters f_showing f_spot f_tokenAt f_value f_laters f_places f_guesses f_ways f_now f_past f_images f_isKept f_text f_shown f_read f_letter f_sizes f_laterNumber f_many f_labelAt f_soAt f_meets f_wayFrom f_wayTo f_wayBy f_reach f_goesOn f_far f_round f_line f_guessAt) (by decide +kernel) rfl g_nil ?_
    refine g_pM (ct_M_isState f_undone f_letters f_showing f_spot f_tokenAt f_value f_laters f_places f_guesses f_ways f_now f_past f_images f_isKept f_text f_shown f_read f_letter f_sizes f_laterNumber f_many f_labelAt f_soAt f_meets f_wayFrom f_wayTo f_wayBy f_reach f_goesOn f_far f_round f_line f_guessAt a2) 141 true 1 lk_7_141 (by decide +kernel) rfl ⟨rfl, rfl, by decide, by decide⟩ [] rfl (Nat.le_of_ble_eq_true rfl) (fun _ => ⟨0, 7, _, rfl, rfl, by decide, rfl⟩) ?_
    refine g_br 25 (.ifCond .eq 11) ((F_M_isState f_now a2) = 0) [] (by decide +kernel) rfl (fun c2 => ?_) (fun c2 => ?_)
    · have hs := g_sat_t hs c2
      refine g_blk 26 [(.iconst (-1), 0, 0, (-1), 0)] [] [(0, .ref 0), (1, .int a1), (2, .int a2), (3, .int a3)] [.int (-1 : Int32)] (HM f_undone f_letters f_showing f_spot f_tokenAt f_value f_laters f_places f_guesses f_ways f_now f_past f_images f_isKept f_text f_shown f_read f_letter f_sizes f_laterNumber f_many f_labelAt f_soAt f_meets f_wayFrom f_wayTo f_wayBy f_reach f_goesOn f_far f_round f_line f_guessAt) (by decide +kernel) rfl g_nil ?_
      have hq := g_sat_s hs
      exact g_iret hX (by decide +kernel) rfl hq
    · have hs := g_sat_f hs c2
      refine g_blk 19 [(.aload_n 0, 0, 0, 0, 0), (.iload_n 3, 0, 0, 0, 0)] [] [(0, .ref 0), (1, .int a1), (2, .int a2), (3, .int a3)] [.int a3, .ref 0] (HM f_undone f_letters f_showing f_spot f_tokenAt f_value f_laters f_places f_guesses f_ways f_now f_past f_images f_isKept f_text f_shown f_read f_letter f_sizes f_laterNumber f_many f_labelAt f_soAt f_meets f_wayFrom f_wayTo f_wayBy f_reach f_goesOn f_far f_round f_line f_guessAt) (by decide +kernel) rfl g_nil ?_
      refine g_pM (ct_M_isState f_undone f_letters f_showing f_spot f_tokenAt f_value f_laters f_places f_guesses f_ways f_now f_past f_images f_isKept f_text f_shown f_read f_letter f_sizes f_laterNumber f_many f_labelAt f_soAt f_meets f_wayFrom f_wayTo f_wayBy f_reach f_goesOn f_far f_round f_line f_guessAt a3) 141 true 1 lk_7_141 (by decide +kernel) rfl ⟨rfl, rfl, by decide, by decide⟩ [] rfl (Nat.le_of_ble_eq_true rfl) (fun _ => ⟨0, 7, _, rfl, rfl, by decide, rfl⟩) ?_
      refine g_brn 27 (.ifCond .ne 5) ((F_M_isState f_now a3) = 0) [] (by decide +kernel) rfl (fun c3 => ?_) (fun c3 => ?_)
      · have hs := g_sat_f hs c3
        refine g_blk 36 [(.aload_n 0, 0, 0, 0, 0), (.getfield 7, 7, 0, 0, 0), (.bipush 6, 0, 0, 6, 0), (.iaload, 0, 0, 0, 0), (.bipush 10, 0, 0, 10, 0)] [vp_in (6 : Int32) 105] [(0, .ref 0), (1, .int a1), (2, .int a2), (3, .int a3)] [.int (10 : Int32), .int (f_now 6)] (HM f_undone f_letters f_showing f_spot f_tokenAt f_value f_laters f_places f_guesses f_ways f_now f_past f_images f_isKept f_text f_shown f_read f_letter f_sizes f_laterNumber f_many f_labelAt f_soAt f_meets f_wayFrom f_wayTo f_wayBy f_reach f_goesOn f_far f_round f_line f_guessAt) (by decide +kernel) rfl (g_and (g_inb_in (by decide +kernel)) g_nil) ?_
        refine g_brn 42 (.if_icmp .ne 6) ((f_now 6) = (10 : Int32)) [] (by decide +kernel) rfl (fun c4 => ?_) (fun c4 => ?_)
        · have hs := g_sat_f hs c4
          refine g_blk 43 [(.aload_n 0, 0, 0, 0, 0)] [] [(0, .ref 0), (1, .int a1), (2, .int a2), (3, .int a3)] [.ref 0] (HM f_undone f_letters f_showing f_spot f_tokenAt f_value f_laters f_places f_guesses f_ways f_now f_past f_images f_isKept f_text f_shown f_read f_letter f_sizes f_laterNumber f_many f_labelAt f_soAt f_meets f_wayFrom f_wayTo f_wayBy f_reach f_goesOn f_far f_round f_line f_guessAt) (by decide +kernel) rfl g_nil ?_
          refine g_fM (ct_M_remembers N f_undone f_letters f_showing f_spot f_tokenAt f_value f_laters f_places f_guesses f_ways f_now f_past f_images f_isKept f_text f_shown f_read f_letter f_sizes f_laterNumber f_many f_labelAt f_soAt f_meets f_wayFrom f_wayTo f_wayBy f_reach f_goesOn f_far f_round f_line f_guessAt) 128 true 0 lk_7_128 (by decide +kernel) rfl ⟨rfl, rfl, by decide, by decide⟩ [] rfl (Nat.le_of_ble_eq_true rfl) (fun _ => ⟨0, 7, _, rfl, rfl, by decide, rfl⟩) hs (fun o5 hs => ?_)
          obtain ⟨h6, hs⟩ := g_sat_c hs
          obtain ⟨h7, hs⟩ := g_sat_c hs
          obtain ⟨h8, hs⟩ := g_sat_c hs
          refine g_blk 108 [(.bipush 7, 0, 0, 7, 0), (.iconst 3, 0, 0, 3, 0), (.aload_n 0, 0, 0, 0, 0), (.getfield 7, 7, 0, 0, 0), (.bipush 6, 0, 0, 6, 0), (.iaload, 0, 0, 0, 0), (.imul, 0, 0, 0, 0), (.iadd, 0, 0, 0, 0), (.istore 4, 0, 0, 0, 0), (.aload_n 0, 0, 0, 0, 0), (.getfield 7, 7, 0, 0, 0), (.iload 4, 0, 0, 0, 0), (.iload_n 1, 0, 0, 0, 0), (.iastore, 0, 0, 0, 0), (.aload_n 0, 0, 0, 0, 0), (.getfield 7, 7, 0, 0, 0), (.iload 4, 0, 0, 0, 0), (.iconst 1, 0, 0, 1, 0), (.iadd, 0, 0, 0, 0), (.iload_n 2, 0, 0, 0, 0), (.iastore, 0, 0, 0, 0), (.aload_n 0, 0, 0, 0, 0), (.getfield 7, 7, 0, 0, 0), (.iload 4, 0, 0, 0, 0), (.iconst 2, 0, 0, 2, 0), (.iadd, 0, 0, 0, 0), (.iload_n 3, 0, 0, 0, 0), (.iastore, 0, 0, 0, 0), (.aload_n 0, 0, 0, 0, 0), (.getfield 7, 7, 0, 0, 0), (.bipush 6, 0, 0, 6, 0), (.dup2, 0, 0, 0, 0), (.iaload, 0, 0, 0, 0), (.iconst 1, 0, 0, 1, 0), (.iadd, 0, 0, 0, 0), (.iastore, 0, 0, 0, 0), (.aload_n 0, 0, 0, 0, 0), (.getfield 7, 7, 0, 0, 0), (.bipush 6, 0, 0, 6, 0), (.iaload, 0, 0, 0, 0), (.iconst 1, 0, 0, 1, 0), (.isub, 0, 0, 0, 0)] [vp_in (6 : Int32) 105, vp_in ((7 : Int32) + ((3 : Int32) * (f_now 6))) 105, vp_in (((7 : Int32) + ((3 : Int32) * (f_now 6))) + (1 : Int32)) 105, vp_in (((7 : Int32) + ((3 : Int32) * (f_now 6))) + (2 : Int32)) 105, vp_in (6 : Int32) 105, vp_in (6 : Int32) 105, vp_in (6 : Int32) 105] [(4, .int ((7 : Int32) + ((3 : Int32) * (f_now 6)))), (0, .ref 0), (1, .int a1), (2, .int a2), (3, .int a3)] [.int (((upd (upd (upd (upd f_now (((7 : Int32) + ((3 : Int32) * (f_now 6)))).toNatClampNeg a1) ((((7 : Int32) + ((3 : Int32) * (f_now 6))) + (1 : Int32))).toNatClampNeg a2) ((((7 : Int32) + ((3 : Int32) * (f_now 6))) + (2 : Int32))).toNatClampNeg a3) 6 (((upd (upd (upd f_now (((7 : Int32) + ((3 : Int32) * (f_now 6)))).toNatClampNeg a1) ((((7 : Int32) + ((3 : Int32) * (f_now 6))) + (1 : Int32))).toNatClampNeg a2) ((((7 : Int32) + ((3 : Int32) * (f_now 6))) + (2 : Int32))).toNatClampNeg a3) 6) + (1 : Int32))) 6) - (1 : Int32))] (HM o5.1 f_letters f_showing f_spot f_tokenAt f_value f_laters f_places f_guesses f_ways (upd (upd (upd (upd f_now (((7 : Int32) + ((3 : Int32) * (f_now 6)))).toNatClampNeg a1) ((((7 : Int32) + ((3 : Int32) * (f_now 6))) + (1 : Int32))).toNatClampNeg a2) ((((7 : Int32) + ((3 : Int32) * (f_now 6))) + (2 : Int32))).toNatClampNeg a3) 6 (((upd (upd (upd f_now (((7 : Int32) + ((3 : Int32) * (f_now 6)))).toNatClampNeg a1) ((((7 : Int32) + ((3 : Int32) * (f_now 6))) + (1 : Int32))).toNatClampNeg a2) ((((7 : Int32) + ((3 : Int32) * (f_now 6))) + (2 : Int32))).toNatClampNeg a3) 6) + (1 : Int32))) o5.2 f_images f_isKept f_text f_shown f_read f_letter f_sizes f_laterNumber f_many f_labelAt f_soAt f_meets f_wayFrom f_wayTo f_wayBy f_reach f_goesOn f_far f_round f_line f_guessAt) (by decide +kernel) rfl (g_and (g_inb_in (by decide +kernel)) (g_and (g_inb_in h6) (g_and (g_inb_in h7) (g_and (g_inb_in h8) (g_and (g_inb_in (by decide +kernel)) (g_and (g_inb_in (by decide +kernel)) (g_and (g_inb_in (by decide +kernel)) g_nil))))))) ?_
          have hq := g_sat_s hs
          exact g_iret hX (by decide +kernel) rfl hq
        · have hs := g_sat_t hs c4
          refine g_blk 41 [(.bipush (-3), 0, 0, (-3), 0)] [] [(0, .ref 0), (1, .int a1), (2, .int a2), (3, .int a3)] [.int (-3 : Int32)] (HM f_undone f_letters f_showing f_spot f_tokenAt f_value f_laters f_places f_guesses f_ways f_now f_past f_images f_isKept f_text f_shown f_read f_letter f_sizes f_laterNumber f_many f_labelAt f_soAt f_meets f_wayFrom f_wayTo f_wayBy f_reach f_goesOn f_far f_round f_line f_guessAt) (by decide +kernel) rfl g_nil ?_
          have hq := g_sat_s hs
          exact g_iret hX (by decide +kernel) rfl hq
      · have hs := g_sat_t hs c3
        refine g_blk 26 [(.iconst (-1), 0, 0, (-1), 0)] [] [(0, .ref 0), (1, .int a1), (2, .int a2), (3, .int a3)] [.int (-1 : Int32)] (HM f_undone f_letters f_showing f_spot f_tokenAt f_value f_laters f_places f_guesses f_ways f_now f_past f_images f_isKept f_text f_shown f_read f_letter f_sizes f_laterNumber f_many f_labelAt f_soAt f_meets f_wayFrom f_wayTo f_wayBy f_reach f_goesOn f_far f_round f_line f_guessAt) (by decide +kernel) rfl g_nil ?_
        have hq := g_sat_s hs
        exact g_iret hX (by decide +kernel) rfl hq
abbrev rm_M_isMove : Room := { frames := 1, cells := 0, slots := 0, locals := 22 }
def F_M_isMove (f_now : Nat → Int32) (a1 : Int32) : Int32 := (F_M_in a1 (0 : Int32) ((f_now 6) - (1 : Int32)))
theorem bo_M_isMove (f_now : Nat → Int32) (a1 : Int32) : F_M_isMove f_now a1 = 0 ∨ F_M_isMove f_now a1 = 1 := by
  unfold F_M_isMove
  repeat (first | exact Or.inl rfl | exact Or.inr rfl | exact bo_M_in _ _ _ | split)
set_option maxRecDepth 100000 in
theorem ct_M_isMove (f_undone : Int32) (f_letters : Int32) (f_showing : Int32) (f_spot : Int32) (f_tokenAt : Int32) (f_value : Int32) (f_laters : Int32) (f_places : Int32) (f_guesses : Int32) (f_ways : Int32) (f_now : Nat → Int32) (f_past : Nat → Int32) (f_images : Nat → Int32) (f_isKept : Nat → Int32) (f_text : Nat → Int32) (f_shown : Nat → Int32) (f_read : Nat → Int32) (f_letter : Nat → Int32) (f_sizes : Nat → Int32) (f_laterNumber : Nat → Int32) (f_many : Nat → Int32) (f_labelAt : Nat → Int32) (f_soAt : Nat → Int32) (f_meets : Nat → Int32) (f_wayFrom : Nat → Int32) (f_wayTo : Nat → Int32) (f_wayBy : Nat → Int32) (f_reach : Nat → Int64) (f_goesOn : Nat → Int32) (f_far : Nat → Int32) (f_round : Nat → Int32) (f_line : Nat → Int32) (f_guessAt : Nat → Int32) (a1 : Int32) : g_F y_M_isMove c_M_isMove 2 (some .boolean) rm_M_isMove [.ref 0, .int a1] (HM f_undone f_letters f_showing f_spot f_tokenAt f_value f_laters f_places f_guesses f_ways f_now f_past f_images f_isKept f_text f_shown f_read f_letter f_sizes f_laterNumber f_many f_labelAt f_soAt f_meets f_wayFrom f_wayTo f_wayBy f_reach f_goesOn f_far f_round f_line f_guessAt) (some (F_M_isMove f_now a1)) (fun o => some (.int o)) (fun _ => (HM f_undone f_letters f_showing f_spot f_tokenAt f_value f_laters f_places f_guesses f_ways f_now f_past f_images f_isKept f_text f_shown f_read f_letter f_sizes f_laterNumber f_many f_labelAt f_soAt f_meets f_wayFrom f_wayTo f_wayBy f_reach f_goesOn f_far f_round f_line f_guessAt)) := by
  intro l P hs
  refine g_ofG 7 (by decide +kernel) rfl (Nat.le_of_ble_eq_true rfl) (fun X hX => ?_)
  unfold F_M_isMove at hs
  refine g_loc (L2 := [(0, .ref 0), (1, .int a1)]) [0, 1] rfl ?_
  refine g_blk 11 [(.iload_n 1, 0, 0, 0, 0), (.iconst 0, 0, 0, 0, 0), (.aload_n 0, 0, 0, 0, 0), (.getfield 7, 7, 0, 0, 0), (.bipush 6, 0, 0, 6, 0), (.iaload, 0, 0, 0, 0), (.iconst 1, 0, 0, 1, 0), (.isub, 0, 0, 0, 0)] [vp_in (6 : Int32) 105] [(0, .ref 0), (1, .int a1)] [.int ((f_now 6) - (1 : Int32)), .int (0 : Int32), .int a1] (HM f_undone f_letters f_showing f_spot f_tokenAt f_value f_laters f_places f_guesses f_ways f_now f_past f_images f_isKept f_text f_shown f_read f_letter f_sizes f_laterNumber f_many f_labelAt f_soAt f_meets f_wayFrom f_wayTo f_wayBy f_reach f_goesOn f_far f_round f_line f_guessAt) (by decide +kernel) rfl (g_and (g_inb_in (by decide +kernel)) g_nil) ?_
  refine g_pN (ct_M_in a1 (0 : Int32) ((f_now 6) - (1 : Int32))) 85 3 lk_7_85 (by decide +kernel) rfl ⟨rfl, rfl, by decide, by decide⟩ [] rfl (Nat.le_of_ble_eq_true rfl) ?_
  have hq := g_sat_s hs
  exact g_zret hX (by decide +kernel) rfl (bo_M_in a1 (0 : Int32) ((f_now 6) - (1 : Int32))) hq
abbrev rm_M_takes : Room := { frames := 2, cells := 0, slots := 0, locals := 43 }
def M_takes_l1 : Nat → Int32 → (Nat → Int32) → Option (Nat → Int32)
  | 0, _, _ => none
  | n + 1, b2_3, w_now_4 => (if ((7 : Int32) + ((3 : Int32) * (w_now_4 6))) ≤ b2_3 then (some w_now_4) else (g_chk (g_inb (b2_3 + (3 : Int32)) 105) (g_chk (g_inb b2_3 105) (M_takes_l1 n (b2_3 + (1 : Int32)) (upd w_now_4 b2_3.toNatClampNeg (w_now_4 ((b2_3 + (3 : Int32))).toNatClampNeg))))))
theorem M_takes_l1_s (n : Nat) (b2_3 : Int32) (w_now_4 : Nat → Int32) : M_takes_l1 (n + 1) b2_3 w_now_4 = (if ((7 : Int32) + ((3 : Int32) * (w_now_4 6))) ≤ b2_3 then (some w_now_4) else (g_chk (g_inb (b2_3 + (3 : Int32)) 105) (g_chk (g_inb b2_3 105) (M_takes_l1 n (b2_3 + (1 : Int32)) (upd w_now_4 b2_3.toNatClampNeg (w_now_4 ((b2_3 + (3 : Int32))).toNatClampNeg)))))) := rfl
def F_M_takes (N : Nat) (f_undone : Int32) (f_now : Nat → Int32) (f_past : Nat → Int32) (a1 : Int32) : Option (Int32 × Int32 × (Nat → Int32) × (Nat → Int32)) := (if (F_M_isMove f_now a1) = 0 then (some ((-1 : Int32), f_undone, f_now, f_past)) else ((F_M_remembers N f_undone f_now f_past).bind fun o2 => ((M_takes_l1 N ((7 : Int32) + ((3 : Int32) * a1)) (upd f_now 6 ((f_now 6) - (1 : Int32)))).bind fun o5 => (some ((o5 6), o2.1, o5, o2.2)))))
set_option maxRecDepth 100000 in
theorem ct_M_takes (N : Nat) (f_undone : Int32) (f_letters : Int32) (f_showing : Int32) (f_spot : Int32) (f_tokenAt : Int32) (f_value : Int32) (f_laters : Int32) (f_places : Int32) (f_guesses : Int32) (f_ways : Int32) (f_now : Nat → Int32) (f_past : Nat → Int32) (f_images : Nat → Int32) (f_isKept : Nat → Int32) (f_text : Nat → Int32) (f_shown : Nat → Int32) (f_read : Nat → Int32) (f_letter : Nat → Int32) (f_sizes : Nat → Int32) (f_laterNumber : Nat → Int32) (f_many : Nat → Int32) (f_labelAt : Nat → Int32) (f_soAt : Nat → Int32) (f_meets : Nat → Int32) (f_wayFrom : Nat → Int32) (f_wayTo : Nat → Int32) (f_wayBy : Nat → Int32) (f_reach : Nat → Int64) (f_goesOn : Nat → Int32) (f_far : Nat → Int32) (f_round : Nat → Int32) (f_line : Nat → Int32) (f_guessAt : Nat → Int32) (a1 : Int32) : g_F y_M_takes c_M_takes 3 (some .int) rm_M_takes [.ref 0, .int a1] (HM f_undone f_letters f_showing f_spot f_tokenAt f_value f_laters f_places f_guesses f_ways f_now f_past f_images f_isKept f_text f_shown f_read f_letter f_sizes f_laterNumber f_many f_labelAt f_soAt f_meets f_wayFrom f_wayTo f_wayBy f_reach f_goesOn f_far f_round f_line f_guessAt) (F_M_takes N f_undone f_now f_past a1) (fun o => some (.int o.1)) (fun o => (HM o.2.1 f_letters f_showing f_spot f_tokenAt f_value f_laters f_places f_guesses f_ways o.2.2.1 o.2.2.2 f_images f_isKept f_text f_shown f_read f_letter f_sizes f_laterNumber f_many f_labelAt f_soAt f_meets f_wayFrom f_wayTo f_wayBy f_reach f_goesOn f_far f_round f_line f_guessAt)) := by
  intro l P hs
  refine g_ofG 7 (by decide +kernel) rfl (Nat.le_of_ble_eq_true rfl) (fun X hX => ?_)
  unfold F_M_takes at hs
  refine g_loc (L2 := [(0, .ref 0), (1, .int a1)]) [0, 1] rfl ?_
  refine g_blk 2 [(.aload_n 0, 0, 0, 0, 0), (.iload_n 1, 0, 0, 0, 0)] [] [(0, .ref 0), (1, .int a1)] [.int a1, .ref 0] (HM f_undone f_letters f_showing f_spot f_tokenAt f_value f_laters f_places f_guesses f_ways f_now f_past f_images f_isKept f_text f_shown f_read f_letter f_sizes f_laterNumber f_many f_labelAt f_soAt f_meets f_wayFrom f_wayTo f_wayBy f_reach f_goesOn f_far f_round f_line f_guessAt) (by decide +kernel) rfl g_nil ?_
  refine g_pM (ct_M_isMove f_undone f_letters f_showing f_spot f_tokenAt f_value f_laters f_places f_guesses f_ways f_now f_past f_images f_isKept f_text f_shown f_read f_letter f_sizes f_laterNumber f_many f_labelAt f_soAt f_meets f_wayFrom f_wayTo f_wayBy f_reach f_goesOn f_far f_round f_line f_guessAt a1) 144 true 1 lk_7_144 (by decide +kernel) rfl ⟨rfl, rfl, by decide, by decide⟩ [] rfl (Nat.le_of_ble_eq_true rfl) (fun _ => ⟨0, 7, _, rfl, rfl, by decide, rfl⟩) ?_
  refine g_brn 10 (.ifCond .ne 5) ((F_M_isMove f_now a1) = 0) [] (by decide +kernel) rfl (fun c1 => ?_) (fun c1 => ?_)
  · have hs := g_sat_f hs c1
    refine g_blk 11 [(.aload_n 0, 0, 0, 0, 0)] [] [(0, .ref 0), (1, .int a1)] [.ref 0] (HM f_undone f_letters f_showing f_spot f_tokenAt f_value f_laters f_places f_guesses f_ways f_now f_past f_images f_isKept f_text f_shown f_read f_letter f_sizes f_laterNumber f_many f_labelAt f_soAt f_meets f_wayFrom f_wayTo f_wayBy f_reach f_goesOn f_far f_round f_line f_guessAt) (by decide +kernel) rfl g_nil ?_
    refine g_fM (ct_M_remembers N f_undone f_letters f_showing f_spot f_tokenAt f_value f_laters f_places f_guesses f_ways f_now f_past f_images f_isKept f_text f_shown f_read f_letter f_sizes f_laterNumber f_many f_labelAt f_soAt f_meets f_wayFrom f_wayTo f_wayBy f_reach f_goesOn f_far f_round f_line f_guessAt) 128 true 0 lk_7_128 (by decide +kernel) rfl ⟨rfl, rfl, by decide, by decide⟩ [] rfl (Nat.le_of_ble_eq_true rfl) (fun _ => ⟨0, 7, _, rfl, rfl, by decide, rfl⟩) hs (fun o2 hs => ?_)
    refine g_blk 32 [(.aload_n 0, 0, 0, 0, 0), (.getfield 7, 7, 0, 0, 0), (.bipush 6, 0, 0, 6, 0), (.dup2, 0, 0, 0, 0), (.iaload, 0, 0, 0, 0), (.iconst 1, 0, 0, 1, 0), (.isub, 0, 0, 0, 0), (.iastore, 0, 0, 0, 0), (.bipush 7, 0, 0, 7, 0), (.iconst 3, 0, 0, 3, 0), (.iload_n 1, 0, 0, 0, 0), (.imul, 0, 0, 0, 0), (.iadd, 0, 0, 0, 0), (.istore_n 2, 0, 0, 0, 0)] [vp_in (6 : Int32) 105, vp_in (6 : Int32) 105] [(2, .int ((7 : Int32) + ((3 : Int32) * a1))), (0, .ref 0), (1, .int a1)] [] (HM o2.1 f_letters f_showing f_spot f_tokenAt f_value f_laters f_places f_guesses f_ways (upd f_now 6 ((f_now 6) - (1 : Int32))) o2.2 f_images f_isKept f_text f_shown f_read f_letter f_sizes f_laterNumber f_many f_labelAt f_soAt f_meets f_wayFrom f_wayTo f_wayBy f_reach f_goesOn f_far f_round f_line f_guessAt) (by decide +kernel) rfl (g_and (g_inb_in (by decide +kernel)) (g_and (g_inb_in (by decide +kernel)) g_nil)) ?_
    refine g_loc (L2 := [(0, .ref 0), (2, .int ((7 : Int32) + ((3 : Int32) * a1)))]) [1, 0] rfl ?_
    refine g_join (fun (o5 : Nat → Int32) => g_G X rm_M_takes c_M_takes 3 7 (some .int) 68 [(0, .ref 0)] [] (HM o2.1 f_letters f_showing f_spot f_tokenAt f_value f_laters f_places f_guesses f_ways o5 o2.2 f_images f_isKept f_text f_shown f_read f_letter f_sizes f_laterNumber f_many f_labelAt f_soAt f_meets f_wayFrom f_wayTo f_wayBy f_reach f_goesOn f_far f_round f_line f_guessAt)) hs (fun o5 hs => ?_) (fun hs => ?_)
    · refine g_blk 75 [(.aload_n 0, 0, 0, 0, 0), (.getfield 7, 7, 0, 0, 0), (.bipush 6, 0, 0, 6, 0), (.iaload, 0, 0, 0, 0)] [vp_in (6 : Int32) 105] [(0, .ref 0)] [.int (o5 6)] (HM o2.1 f_letters f_showing f_spot f_tokenAt f_value f_laters f_places f_guesses f_ways o5 o2.2 f_images f_isKept f_text f_shown f_read f_letter f_sizes f_laterNumber f_many f_labelAt f_soAt f_meets f_wayFrom f_wayTo f_wayBy f_reach f_goesOn f_far f_round f_line f_guessAt) (by decide +kernel) rfl (g_and (g_inb_in (by decide +kernel)) g_nil) ?_
      have hq := g_sat_s hs
      exact g_iret hX (by decide +kernel) rfl hq
    · have hlM_takes_l1 : ∀ (n : Nat) (b2_3 : Int32) (w_now_4 : Nat → Int32), g_sat (M_takes_l1 n b2_3 w_now_4) (fun (o5 : Nat → Int32) => g_G X rm_M_takes c_M_takes 3 7 (some .int) 68 [(0, .ref 0)] [] (HM o2.1 f_letters f_showing f_spot f_tokenAt f_value f_laters f_places f_guesses f_ways o5 o2.2 f_images f_isKept f_text f_shown f_read f_letter f_sizes f_laterNumber f_many f_labelAt f_soAt f_meets f_wayFrom f_wayTo f_wayBy f_reach f_goesOn f_far f_round f_line f_guessAt)) → g_G X rm_M_takes c_M_takes 3 7 (some .int) 32 [(0, .ref 0), (2, .int b2_3)] [] (HM o2.1 f_letters f_showing f_spot f_tokenAt f_value f_laters f_places f_guesses f_ways w_now_4 o2.2 f_images f_isKept f_text f_shown f_read f_letter f_sizes f_laterNumber f_many f_labelAt f_soAt f_meets f_wayFrom f_wayTo f_wayBy f_reach f_goesOn f_far f_round f_line f_guessAt) := by
        intro n
        induction n with
        | zero =>
          intro b2_3 w_now_4 hs
          obtain ⟨_, h0, _⟩ := hs
          cases h0
        | succ n ih =>
          intro b2_3 w_now_4 hs
          rw [M_takes_l1_s] at hs
          refine g_blk 45 [(.iload_n 2, 0, 0, 0, 0), (.bipush 7, 0, 0, 7, 0), (.iconst 3, 0, 0, 3, 0), (.aload_n 0, 0, 0, 0, 0), (.getfield 7, 7, 0, 0, 0), (.bipush 6, 0, 0, 6, 0), (.iaload, 0, 0, 0, 0), (.imul, 0, 0, 0, 0), (.iadd, 0, 0, 0, 0)] [vp_in (6 : Int32) 105] [(0, .ref 0), (2, .int b2_3)] [.int ((7 : Int32) + ((3 : Int32) * (w_now_4 6))), .int b2_3] (HM o2.1 f_letters f_showing f_spot f_tokenAt f_value f_laters f_places f_guesses f_ways w_now_4 o2.2 f_images f_isKept f_text f_shown f_read f_letter f_sizes f_laterNumber f_many f_labelAt f_soAt f_meets f_wayFrom f_wayTo f_wayBy f_reach f_goesOn f_far f_round f_line f_guessAt) (by decide +kernel) rfl (g_and (g_inb_in (by decide +kernel)) g_nil) ?_
          refine g_br 68 (.if_icmp .ge 23) (((7 : Int32) + ((3 : Int32) * (w_now_4 6))) ≤ b2_3) [] (by decide +kernel) rfl (fun c6 => ?_) (fun c6 => ?_)
          · have hs := g_sat_t hs c6
            refine g_loc (L2 := [(0, .ref 0)]) [0] rfl ?_
            have hq := g_sat_s hs
            exact hq
          · have hs := g_sat_f hs c6
            obtain ⟨h7, hs⟩ := g_sat_c hs
            obtain ⟨h8, hs⟩ := g_sat_c hs
            refine g_blk 32 [(.aload_n 0, 0, 0, 0, 0), (.getfield 7, 7, 0, 0, 0), (.iload_n 2, 0, 0, 0, 0), (.aload_n 0, 0, 0, 0, 0), (.getfield 7, 7, 0, 0, 0), (.iload_n 2, 0, 0, 0, 0), (.iconst 3, 0, 0, 3, 0), (.iadd, 0, 0, 0, 0), (.iaload, 0, 0, 0, 0), (.iastore, 0, 0, 0, 0), (.iinc 2 1, 0, 0, 1, 0), (.goto (-33), 0, 0, 0, 0)] [vp_in (b2_3 + (3 : Int32)) 105, vp_in b2_3 105] [(2, .int (b2_3 + (1 : Int32))), (0, .ref 0)] [] (HM o2.1 f_letters f_showing f_spot f_tokenAt f_value f_laters f_places f_guesses f_ways (upd w_now_4 b2_3.toNatClampNeg (w_now_4 ((b2_3 + (3 : Int32))).toNatClampNeg)) o2.2 f_images f_isKept f_text f_shown f_read f_letter f_sizes f_laterNumber f_many f_labelAt f_soAt f_meets f_wayFrom f_wayTo f_wayBy f_reach f_goesOn f_far f_round f_line f_guessAt) (by decide +kernel) rfl (g_and (g_inb_in h7) (g_and (g_inb_in h8) g_nil)) ?_
            refine g_loc (L2 := [(0, .ref 0), (2, .int (b2_3 + (1 : Int32)))]) [1, 0] rfl ?_
            exact ih _ _ hs
      exact hlM_takes_l1 N _ _ hs
  · have hs := g_sat_t hs c1
    refine g_blk 9 [(.iconst (-1), 0, 0, (-1), 0)] [] [(0, .ref 0), (1, .int a1)] [.int (-1 : Int32)] (HM f_undone f_letters f_showing f_spot f_tokenAt f_value f_laters f_places f_guesses f_ways f_now f_past f_images f_isKept f_text f_shown f_read f_letter f_sizes f_laterNumber f_many f_labelAt f_soAt f_meets f_wayFrom f_wayTo f_wayBy f_reach f_goesOn f_far f_round f_line f_guessAt) (by decide +kernel) rfl g_nil ?_
    have hq := g_sat_s hs
    exact g_iret hX (by decide +kernel) rfl hq
abbrev rm_M_isSlot : Room := { frames := 1, cells := 0, slots := 0, locals := 22 }
def F_M_isSlot (a0 : Int32) : Int32 := (F_M_in a0 (0 : Int32) (2 : Int32))
theorem bo_M_isSlot (a0 : Int32) : F_M_isSlot a0 = 0 ∨ F_M_isSlot a0 = 1 := by
  unfold F_M_isSlot
  repeat (first | exact Or.inl rfl | exact Or.inr rfl | exact bo_M_in _ _ _ | split)
set_option maxRecDepth 100000 in
theorem ct_M_isSlot (a0 : Int32) : g_F y_M_isSlot c_M_isSlot 1 (some .boolean) rm_M_isSlot [.int a0] [] (some (F_M_isSlot a0)) (fun o => some (.int o)) (fun _ => []) := by
  intro l P hs
  refine g_ofG 7 (by decide +kernel) rfl (Nat.le_of_ble_eq_true rfl) (fun X hX => ?_)
  unfold F_M_isSlot at hs
  refine g_loc (L2 := [(0, .int a0)]) [0] rfl ?_
  refine g_blk 3 [(.iload_n 0, 0, 0, 0, 0), (.iconst 0, 0, 0, 0, 0), (.iconst 2, 0, 0, 2, 0)] [] [(0, .int a0)] [.int (2 : Int32), .int (0 : Int32), .int a0] [] (by decide +kernel) rfl g_nil ?_
  refine g_pN (ct_M_in a0 (0 : Int32) (2 : Int32)) 85 3 lk_7_85 (by decide +kernel) rfl ⟨rfl, rfl, by decide, by decide⟩ [] rfl (Nat.le_of_ble_eq_true rfl) ?_
  have hq := g_sat_s hs
  exact g_zret hX (by decide +kernel) rfl (bo_M_in a0 (0 : Int32) (2 : Int32)) hq
abbrev rm_M_copies : Room := { frames := 1, cells := 0, slots := 0, locals := 21 }
def M_copies_l1 (a1 : Int32) (a2 : Int32) : Nat → Int32 → (Nat → Int32) → Option (Nat → Int32)
  | 0, _, _ => none
  | n + 1, b3_2, w_now_3 => (if (17 : Int32) ≤ b3_2 then (some w_now_3) else (g_chk (g_inb (a1 + b3_2) 105) (g_chk (g_inb (a2 + b3_2) 105) (M_copies_l1 a1 a2 n (b3_2 + (1 : Int32)) (upd w_now_3 ((a2 + b3_2)).toNatClampNeg (w_now_3 ((a1 + b3_2)).toNatClampNeg))))))
theorem M_copies_l1_s (a1 : Int32) (a2 : Int32) (n : Nat) (b3_2 : Int32) (w_now_3 : Nat → Int32) : M_copies_l1 a1 a2 (n + 1) b3_2 w_now_3 = (if (17 : Int32) ≤ b3_2 then (some w_now_3) else (g_chk (g_inb (a1 + b3_2) 105) (g_chk (g_inb (a2 + b3_2) 105) (M_copies_l1 a1 a2 n (b3_2 + (1 : Int32)) (upd w_now_3 ((a2 + b3_2)).toNatClampNeg (w_now_3 ((a1 + b3_2)).toNatClampNeg)))))) := rfl
def F_M_copies (N : Nat) (f_undone : Int32) (f_now : Nat → Int32) (f_past : Nat → Int32) (a1 : Int32) (a2 : Int32) : Option (Int32 × Int32 × (Nat → Int32) × (Nat → Int32)) := ((F_M_remembers N f_undone f_now f_past).bind fun o1 => ((M_copies_l1 a1 a2 N (0 : Int32) f_now).bind fun o4 => (g_chk (g_inb a2 105) (some ((o4 a2.toNatClampNeg), o1.1, o4, o1.2)))))
set_option maxRecDepth 100000 in
theorem ct_M_copies (N : Nat) (f_undone : Int32) (f_letters : Int32) (f_showing : Int32) (f_spot : Int32) (f_tokenAt : Int32) (f_value : Int32) (f_laters : Int32) (f_places : Int32) (f_guesses : Int32) (f_ways : Int32) (f_now : Nat → Int32) (f_past : Nat → Int32) (f_images : Nat → Int32) (f_isKept : Nat → Int32) (f_text : Nat → Int32) (f_shown : Nat → Int32) (f_read : Nat → Int32) (f_letter : Nat → Int32) (f_sizes : Nat → Int32) (f_laterNumber : Nat → Int32) (f_many : Nat → Int32) (f_labelAt : Nat → Int32) (f_soAt : Nat → Int32) (f_meets : Nat → Int32) (f_wayFrom : Nat → Int32) (f_wayTo : Nat → Int32) (f_wayBy : Nat → Int32) (f_reach : Nat → Int64) (f_goesOn : Nat → Int32) (f_far : Nat → Int32) (f_round : Nat → Int32) (f_line : Nat → Int32) (f_guessAt : Nat → Int32) (a1 : Int32) (a2 : Int32) : g_F y_M_copies c_M_copies 4 (some .int) rm_M_copies [.ref 0, .int a1, .int a2] (HM f_undone f_letters f_showing f_spot f_tokenAt f_value f_laters f_places f_guesses f_ways f_now f_past f_images f_isKept f_text f_shown f_read f_letter f_sizes f_laterNumber f_many f_labelAt f_soAt f_meets f_wayFrom f_wayTo f_wayBy f_reach f_goesOn f_far f_round f_line f_guessAt) (F_M_copies N f_undone f_now f_past a1 a2) (fun o => some (.int o.1)) (fun o => (HM o.2.1 f_letters f_showing f_spot f_tokenAt f_value f_laters f_places f_guesses f_ways o.2.2.1 o.2.2.2 f_images f_isKept f_text f_shown f_read f_letter f_sizes f_laterNumber f_many f_labelAt f_soAt f_meets f_wayFrom f_wayTo f_wayBy f_reach f_goesOn f_far f_round f_line f_guessAt)) := by
  intro l P hs
  refine g_ofG 7 (by decide +kernel) rfl (Nat.le_of_ble_eq_true rfl) (fun X hX => ?_)
  unfold F_M_copies at hs
  refine g_loc (L2 := [(0, .ref 0), (1, .int a1), (2, .int a2)]) [0, 1, 2] rfl ?_
  refine g_blk 1 [(.aload_n 0, 0, 0, 0, 0)] [] [(0, .ref 0), (1, .int a1), (2, .int a2)] [.ref 0] (HM f_undone f_letters f_showing f_spot f_tokenAt f_value f_laters f_places f_guesses f_ways f_now f_past f_images f_isKept f_text f_shown f_read f_letter f_sizes f_laterNumber f_many f_labelAt f_soAt f_meets f_wayFrom f_wayTo f_wayBy f_reach f_goesOn f_far f_round f_line f_guessAt) (by decide +kernel) rfl g_nil ?_
  refine g_fM (ct_M_remembers N f_undone f_letters f_showing f_spot f_tokenAt f_value f_laters f_places f_guesses f_ways f_now f_past f_images f_isKept f_text f_shown f_read f_letter f_sizes f_laterNumber f_many f_labelAt f_soAt f_meets f_wayFrom f_wayTo f_wayBy f_reach f_goesOn f_far f_round f_line f_guessAt) 128 true 0 lk_7_128 (by decide +kernel) rfl ⟨rfl, rfl, by decide, by decide⟩ [] rfl (Nat.le_of_ble_eq_true rfl) (fun _ => ⟨0, 7, _, rfl, rfl, by decide, rfl⟩) hs (fun o1 hs => ?_)
  refine g_blk 6 [(.iconst 0, 0, 0, 0, 0), (.istore_n 3, 0, 0, 0, 0)] [] [(3, .int (0 : Int32)), (0, .ref 0), (1, .int a1), (2, .int a2)] [] (HM o1.1 f_letters f_showing f_spot f_tokenAt f_value f_laters f_places f_guesses f_ways f_now o1.2 f_images f_isKept f_text f_shown f_read f_letter f_sizes f_laterNumber f_many f_labelAt f_soAt f_meets f_wayFrom f_wayTo f_wayBy f_reach f_goesOn f_far f_round f_line f_guessAt) (by decide +kernel) rfl g_nil ?_
  refine g_loc (L2 := [(0, .ref 0), (1, .int a1), (2, .int a2), (3, .int (0 : Int32))]) [1, 2, 3, 0] rfl ?_
  refine g_join (fun (o4 : Nat → Int32) => g_G X rm_M_copies c_M_copies 4 7 (some .int) 34 [(0, .ref 0), (2, .int a2)] [] (HM o1.1 f_letters f_showing f_spot f_tokenAt f_value f_laters f_places f_guesses f_ways o4 o1.2 f_images f_isKept f_text f_shown f_read f_letter f_sizes f_laterNumber f_many f_labelAt f_soAt f_meets f_wayFrom f_wayTo f_wayBy f_reach f_goesOn f_far f_round f_line f_guessAt)) hs (fun o4 hs => ?_) (fun hs => ?_)
  · obtain ⟨h8, hs⟩ := g_sat_c hs
    refine g_blk 40 [(.aload_n 0, 0, 0, 0, 0), (.getfield 7, 7, 0, 0, 0), (.iload_n 2, 0, 0, 0, 0), (.iaload, 0, 0, 0, 0)] [vp_in a2 105] [(0, .ref 0), (2, .int a2)] [.int (o4 a2.toNatClampNeg)] (HM o1.1 f_letters f_showing f_spot f_tokenAt f_value f_laters f_places f_guesses f_ways o4 o1.2 f_images f_isKept f_text f_shown f_read f_letter f_sizes f_laterNumber f_many f_labelAt f_soAt f_meets f_wayFrom f_wayTo f_wayBy f_reach f_goesOn f_far f_round f_line f_guessAt) (by decide +kernel) rfl (g_and (g_inb_in h8) g_nil) ?_
    have hq := g_sat_s hs
    exact g_iret hX (by decide +kernel) rfl hq
  · have hlM_copies_l1 : ∀ (n : Nat) (b3_2 : Int32) (w_now_3 : Nat → Int32), g_sat (M_copies_l1 a1 a2 n b3_2 w_now_3) (fun (o4 : Nat → Int32) => g_G X rm_M_copies c_M_copies 4 7 (some .int) 34 [(0, .ref 0), (2, .int a2)] [] (HM o1.1 f_letters f_showing f_spot f_tokenAt f_value f_laters f_places f_guesses f_ways o4 o1.2 f_images f_isKept f_text f_shown f_read f_letter f_sizes f_laterNumber f_many f_labelAt f_soAt f_meets f_wayFrom f_wayTo f_wayBy f_reach f_goesOn f_far f_round f_line f_guessAt)) → g_G X rm_M_copies c_M_copies 4 7 (some .int) 6 [(0, .ref 0), (1, .int a1), (2, .int a2), (3, .int b3_2)] [] (HM o1.1 f_letters f_showing f_spot f_tokenAt f_value f_laters f_places f_guesses f_ways w_now_3 o1.2 f_images f_isKept f_text f_shown f_read f_letter f_sizes f_laterNumber f_many f_labelAt f_soAt f_meets f_wayFrom f_wayTo f_wayBy f_reach f_goesOn f_far f_round f_line f_guessAt) := by
      intro n
      induction n with
      | zero =>
        intro b3_2 w_now_3 hs
        obtain ⟨_, h0, _⟩ := hs
        cases h0
      | succ n ih =>
        intro b3_2 w_now_3 hs
        rw [M_copies_l1_s] at hs
        refine g_blk 9 [(.iload_n 3, 0, 0, 0, 0), (.bipush 17, 0, 0, 17, 0)] [] [(0, .ref 0), (1, .int a1), (2, .int a2), (3, .int b3_2)] [.int (17 : Int32), .int b3_2] (HM o1.1 f_letters f_showing f_spot f_tokenAt f_value f_laters f_places f_guesses f_ways w_now_3 o1.2 f_images f_isKept f_text f_shown f_read f_letter f_sizes f_laterNumber f_many f_labelAt f_soAt f_meets f_wayFrom f_wayTo f_wayBy f_reach f_goesOn f_far f_round f_line f_guessAt) (by decide +kernel) rfl g_nil ?_
        refine g_br 34 (.if_icmp .ge 25) ((17 : Int32) ≤ b3_2) [] (by decide +kernel) rfl (fun c5 => ?_) (fun c5 => ?_)
        · have hs := g_sat_t hs c5
          refine g_loc (L2 := [(0, .ref 0), (2, .int a2)]) [0, 2] rfl ?_
          have hq := g_sat_s hs
          exact hq
        · have hs := g_sat_f hs c5
          obtain ⟨h6, hs⟩ := g_sat_c hs
          obtain ⟨h7, hs⟩ := g_sat_c hs
          refine g_blk 6 [(.aload_n 0, 0, 0, 0, 0), (.getfield 7, 7, 0, 0, 0), (.iload_n 2, 0, 0, 0, 0), (.iload_n 3, 0, 0, 0, 0), (.iadd, 0, 0, 0, 0), (.aload_n 0, 0, 0, 0, 0), (.getfield 7, 7, 0, 0, 0), (.iload_n 1, 0, 0, 0, 0), (.iload_n 3, 0, 0, 0, 0), (.iadd, 0, 0, 0, 0), (.iaload, 0, 0, 0, 0), (.iastore, 0, 0, 0, 0), (.iinc 3 1, 0, 0, 1, 0), (.goto (-25), 0, 0, 0, 0)] [vp_in (a1 + b3_2) 105, vp_in (a2 + b3_2) 105] [(3, .int (b3_2 + (1 : Int32))), (0, .ref 0), (1, .int a1), (2, .int a2)] [] (HM o1.1 f_letters f_showing f_spot f_tokenAt f_value f_laters f_places f_guesses f_ways (upd w_now_3 ((a2 + b3_2)).toNatClampNeg (w_now_3 ((a1 + b3_2)).toNatClampNeg)) o1.2 f_images f_isKept f_text f_shown f_read f_letter f_sizes f_laterNumber f_many f_labelAt f_soAt f_meets f_wayFrom f_wayTo f_wayBy f_reach f_goesOn f_far f_round f_line f_guessAt) (by decide +kernel) rfl (g_and (g_inb_in h6) (g_and (g_inb_in h7) g_nil)) ?_
          refine g_loc (L2 := [(0, .ref 0), (1, .int a1), (2, .int a2), (3, .int (b3_2 + (1 : Int32)))]) [1, 2, 3, 0] rfl ?_
          exact ih _ _ hs
    exact hlM_copies_l1 N _ _ hs
abbrev rm_M_stores : Room := { frames := 2, cells := 0, slots := 0, locals := 44 }
def F_M_stores (N : Nat) (f_undone : Int32) (f_now : Nat → Int32) (f_past : Nat → Int32) (a1 : Int32) : Option (Int32 × Int32 × (Nat → Int32) × (Nat → Int32)) := ((if (F_M_isSlot a1) = 0 then (some ((-1 : Int32), f_undone, f_now, f_past)) else ((F_M_copies N f_undone f_now f_past (37 : Int32) ((54 : Int32) + ((17 : Int32) * a1))).bind fun o3 => (some (o3.1, o3.2.1, o3.2.2.1, o3.2.2.2)))).bind fun o2 => (some (o2.1, o2.2.1, o2.2.2.1, o2.2.2.2)))
set_option maxRecDepth 100000 in
theorem ct_M_stores (N : Nat) (f_undone : Int32) (f_letters : Int32) (f_showing : Int32) (f_spot : Int32) (f_tokenAt : Int32) (f_value : Int32) (f_laters : Int32) (f_places : Int32) (f_guesses : Int32) (f_ways : Int32) (f_now : Nat → Int32) (f_past : Nat → Int32) (f_images : Nat → Int32) (f_isKept : Nat → Int32) (f_text : Nat → Int32) (f_shown : Nat → Int32) (f_read : Nat → Int32) (f_letter : Nat → Int32) (f_sizes : Nat → Int32) (f_laterNumber : Nat → Int32) (f_many : Nat → Int32) (f_labelAt : Nat → Int32) (f_soAt : Nat → Int32) (f_meets : Nat → Int32) (f_wayFrom : Nat → Int32) (f_wayTo : Nat → Int32) (f_wayBy : Nat → Int32) (f_reach : Nat → Int64) (f_goesOn : Nat → Int32) (f_far : Nat → Int32) (f_round : Nat → Int32) (f_line : Nat → Int32) (f_guessAt : Nat → Int32) (a1 : Int32) : g_F y_M_stores c_M_stores 2 (some .int) rm_M_stores [.ref 0, .int a1] (HM f_undone f_letters f_showing f_spot f_tokenAt f_value f_laters f_places f_guesses f_ways f_now f_past f_images f_isKept f_text f_shown f_read f_letter f_sizes f_laterNumber f_many f_labelAt f_soAt f_meets f_wayFrom f_wayTo f_wayBy f_reach f_goesOn f_far f_round f_line f_guessAt) (F_M_stores N f_undone f_now f_past a1) (fun o => some (.int o.1)) (fun o => (HM o.2.1 f_letters f_showing f_spot f_tokenAt f_value f_laters f_places f_guesses f_ways o.2.2.1 o.2.2.2 f_images f_isKept f_text f_shown f_read f_letter f_sizes f_laterNumber f_many f_labelAt f_soAt f_meets f_wayFrom f_wayTo f_wayBy f_reach f_goesOn f_far f_round f_line f_guessAt)) := by
  intro l P hs
  refine g_ofG 7 (by decide +kernel) rfl (Nat.le_of_ble_eq_true rfl) (fun X hX => ?_)
  unfold F_M_stores at hs
  refine g_loc (L2 := [(0, .ref 0), (1, .int a1)]) [0, 1] rfl ?_
  refine g_blk 1 [(.iload_n 1, 0, 0, 0, 0)] [] [(0, .ref 0), (1, .int a1)] [.int a1] (HM f_undone f_letters f_showing f_spot f_tokenAt f_value f_laters f_places f_guesses f_ways f_now f_past f_images f_isKept f_text f_shown f_read f_letter f_sizes f_laterNumber f_many f_labelAt f_soAt f_meets f_wayFrom f_wayTo f_wayBy f_reach f_goesOn f_far f_round f_line f_guessAt) (by decide +kernel) rfl g_nil ?_
  refine g_pN (ct_M_isSlot a1) 147 1 lk_7_147 (by decide +kernel) rfl ⟨rfl, rfl, by decide, by decide⟩ [] rfl (Nat.le_of_ble_eq_true rfl) ?_
  refine g_join (fun (o2 : Int32 × Int32 × (Nat → Int32) × (Nat → Int32)) => g_G X rm_M_stores c_M_stores 2 7 (some .int) 24 [] [.int o2.1] (HM o2.2.1 f_letters f_showing f_spot f_tokenAt f_value f_laters f_places f_guesses f_ways o2.2.2.1 o2.2.2.2 f_images f_isKept f_text f_shown f_read f_letter f_sizes f_laterNumber f_many f_labelAt f_soAt f_meets f_wayFrom f_wayTo f_wayBy f_reach f_goesOn f_far f_round f_line f_guessAt)) hs (fun o2 hs => ?_) (fun hs => ?_)
  · have hq := g_sat_s hs
    exact g_iret hX (by decide +kernel) rfl hq
  · refine g_br 23 (.ifCond .eq 19) ((F_M_isSlot a1) = 0) [] (by decide +kernel) rfl (fun c1 => ?_) (fun c1 => ?_)
    · have hs := g_sat_t hs c1
      refine g_blk 24 [(.iconst (-1), 0, 0, (-1), 0)] [] [(0, .ref 0), (1, .int a1)] [.int (-1 : Int32)] (HM f_undone f_letters f_showing f_spot f_tokenAt f_value f_laters f_places f_guesses f_ways f_now f_past f_images f_isKept f_text f_shown f_read f_letter f_sizes f_laterNumber f_many f_labelAt f_soAt f_meets f_wayFrom f_wayTo f_wayBy f_reach f_goesOn f_far f_round f_line f_guessAt) (by decide +kernel) rfl g_nil ?_
      refine g_loc (L2 := []) [] rfl ?_
      have hq := g_sat_s hs
      exact hq
    · have hs := g_sat_f hs c1
      refine g_blk 17 [(.aload_n 0, 0, 0, 0, 0), (.bipush 37, 0, 0, 37, 0), (.bipush 54, 0, 0, 54, 0), (.bipush 17, 0, 0, 17, 0), (.iload_n 1, 0, 0, 0, 0), (.imul, 0, 0, 0, 0), (.iadd, 0, 0, 0, 0)] [] [(0, .ref 0), (1, .int a1)] [.int ((54 : Int32) + ((17 : Int32) * a1)), .int (37 : Int32), .ref 0] (HM f_undone f_letters f_showing f_spot f_tokenAt f_value f_laters f_places f_guesses f_ways f_now f_past f_images f_isKept f_text f_shown f_read f_letter f_sizes f_laterNumber f_many f_labelAt f_soAt f_meets f_wayFrom f_wayTo f_wayBy f_reach f_goesOn f_far f_round f_line f_guessAt) (by decide +kernel) rfl g_nil ?_
      refine g_fM (ct_M_copies N f_undone f_letters f_showing f_spot f_tokenAt f_value f_laters f_places f_guesses f_ways f_now f_past f_images f_isKept f_text f_shown f_read f_letter f_sizes f_laterNumber f_many f_labelAt f_soAt f_meets f_wayFrom f_wayTo f_wayBy f_reach f_goesOn f_far f_round f_line f_guessAt (37 : Int32) ((54 : Int32) + ((17 : Int32) * a1))) 150 true 2 lk_7_150 (by decide +kernel) rfl ⟨rfl, rfl, by decide, by decide⟩ [] rfl (Nat.le_of_ble_eq_true rfl) (fun _ => ⟨0, 7, _, rfl, rfl, by decide, rfl⟩) hs (fun o3 hs => ?_)
      refine g_blk 24 [(.goto 4, 0, 0, 0, 0)] [] [(0, .ref 0), (1, .int a1)] [.int o3.1] (HM o3.2.1 f_letters f_showing f_spot f_tokenAt f_value f_laters f_places f_guesses f_ways o3.2.2.1 o3.2.2.2 f_images f_isKept f_text f_shown f_read f_letter f_sizes f_laterNumber f_many f_labelAt f_soAt f_meets f_wayFrom f_wayTo f_wayBy f_reach f_goesOn f_far f_round f_line f_guessAt) (by decide +kernel) rfl g_nil ?_
      refine g_loc (L2 := []) [] rfl ?_
      have hq := g_sat_s hs
      exact hq
abbrev rm_M_fetches : Room := { frames := 2, cells := 0, slots := 0, locals := 44 }
def F_M_fetches (N : Nat) (f_undone : Int32) (f_now : Nat → Int32) (f_past : Nat → Int32) (a1 : Int32) : Option (Int32 × Int32 × (Nat → Int32) × (Nat → Int32)) := ((if (F_M_isSlot a1) = 0 then (some ((-1 : Int32), f_undone, f_now, f_past)) else ((F_M_copies N f_undone f_now f_past ((54 : Int32) + ((17 : Int32) * a1)) (37 : Int32)).bind fun o3 => (some (o3.1, o3.2.1, o3.2.2.1, o3.2.2.2)))).bind fun o2 => (some (o2.1, o2.2.1, o2.2.2.1, o2.2.2.2)))
set_option maxRecDepth 100000 in
theorem ct_M_fetches (N : Nat) (f_undone : Int32) (f_letters : Int32) (f_showing : Int32) (f_spot : Int32) (f_tokenAt : Int32) (f_value : Int32) (f_laters : Int32) (f_places : Int32) (f_guesses : Int32) (f_ways : Int32) (f_now : Nat → Int32) (f_past : Nat → Int32) (f_images : Nat → Int32) (f_isKept : Nat → Int32) (f_text : Nat → Int32) (f_shown : Nat → Int32) (f_read : Nat → Int32) (f_letter : Nat → Int32) (f_sizes : Nat → Int32) (f_laterNumber : Nat → Int32) (f_many : Nat → Int32) (f_labelAt : Nat → Int32) (f_soAt : Nat → Int32) (f_meets : Nat → Int32) (f_wayFrom : Nat → Int32) (f_wayTo : Nat → Int32) (f_wayBy : Nat → Int32) (f_reach : Nat → Int64) (f_goesOn : Nat → Int32) (f_far : Nat → Int32) (f_round : Nat → Int32) (f_line : Nat → Int32) (f_guessAt : Nat → Int32) (a1 : Int32) : g_F y_M_fetches c_M_fetches 2 (some .int) rm_M_fetches [.ref 0, .int a1] (HM f_undone f_letters f_showing f_spot f_tokenAt f_value f_laters f_places f_guesses f_ways f_now f_past f_images f_isKept f_text f_shown f_read f_letter f_sizes f_laterNumber f_many f_labelAt f_soAt f_meets f_wayFrom f_wayTo f_wayBy f_reach f_goesOn f_far f_round f_line f_guessAt) (F_M_fetches N f_undone f_now f_past a1) (fun o => some (.int o.1)) (fun o => (HM o.2.1 f_letters f_showing f_spot f_tokenAt f_value f_laters f_places f_guesses f_ways o.2.2.1 o.2.2.2 f_images f_isKept f_text f_shown f_read f_letter f_sizes f_laterNumber f_many f_labelAt f_soAt f_meets f_wayFrom f_wayTo f_wayBy f_reach f_goesOn f_far f_round f_line f_guessAt)) := by
  intro l P hs
  refine g_ofG 7 (by decide +kernel) rfl (Nat.le_of_ble_eq_true rfl) (fun X hX => ?_)
  unfold F_M_fetches at hs
  refine g_loc (L2 := [(0, .ref 0), (1, .int a1)]) [0, 1] rfl ?_
  refine g_blk 1 [(.iload_n 1, 0, 0, 0, 0)] [] [(0, .ref 0), (1, .int a1)] [.int a1] (HM f_undone f_letters f_showing f_spot f_tokenAt f_value f_laters f_places f_guesses f_ways f_now f_past f_images f_isKept f_text f_shown f_read f_letter f_sizes f_laterNumber f_many f_labelAt f_soAt f_meets f_wayFrom f_wayTo f_wayBy f_reach f_goesOn f_far f_round f_line f_guessAt) (by decide +kernel) rfl g_nil ?_
  refine g_pN (ct_M_isSlot a1) 147 1 lk_7_147 (by decide +kernel) rfl ⟨rfl, rfl, by decide, by decide⟩ [] rfl (Nat.le_of_ble_eq_true rfl) ?_
  refine g_join (fun (o2 : Int32 × Int32 × (Nat → Int32) × (Nat → Int32)) => g_G X rm_M_fetches c_M_fetches 2 7 (some .int) 24 [] [.int o2.1] (HM o2.2.1 f_letters f_showing f_spot f_tokenAt f_value f_laters f_places f_guesses f_ways o2.2.2.1 o2.2.2.2 f_images f_isKept f_text f_shown f_read f_letter f_sizes f_laterNumber f_many f_labelAt f_soAt f_meets f_wayFrom f_wayTo f_wayBy f_reach f_goesOn f_far f_round f_line f_guessAt)) hs (fun o2 hs => ?_) (fun hs => ?_)
  · have hq := g_sat_s hs
    exact g_iret hX (by decide +kernel) rfl hq
  · refine g_br 23 (.ifCond .eq 19) ((F_M_isSlot a1) = 0) [] (by decide +kernel) rfl (fun c1 => ?_) (fun c1 => ?_)
    · have hs := g_sat_t hs c1
      refine g_blk 24 [(.iconst (-1), 0, 0, (-1), 0)] [] [(0, .ref 0), (1, .int a1)] [.int (-1 : Int32)] (HM f_undone f_letters f_showing f_spot f_tokenAt f_value f_laters f_places f_guesses f_ways f_now f_past f_images f_isKept f_text f_shown f_read f_letter f_sizes f_laterNumber f_many f_labelAt f_soAt f_meets f_wayFrom f_wayTo f_wayBy f_reach f_goesOn f_far f_round f_line f_guessAt) (by decide +kernel) rfl g_nil ?_
      refine g_loc (L2 := []) [] rfl ?_
      have hq := g_sat_s hs
      exact hq
    · have hs := g_sat_f hs c1
      refine g_blk 17 [(.aload_n 0, 0, 0, 0, 0), (.bipush 54, 0, 0, 54, 0), (.bipush 17, 0, 0, 17, 0), (.iload_n 1, 0, 0, 0, 0), (.imul, 0, 0, 0, 0), (.iadd, 0, 0, 0, 0), (.bipush 37, 0, 0, 37, 0)] [] [(0, .ref 0), (1, .int a1)] [.int (37 : Int32), .int ((54 : Int32) + ((17 : Int32) * a1)), .ref 0] (HM f_undone f_letters f_showing f_spot f_tokenAt f_value f_laters f_places f_guesses f_ways f_now f_past f_images f_isKept f_text f_shown f_read f_letter f_sizes f_laterNumber f_many f_labelAt f_soAt f_meets f_wayFrom f_wayTo f_wayBy f_reach f_goesOn f_far f_round f_line f_guessAt) (by decide +kernel) rfl g_nil ?_
      refine g_fM (ct_M_copies N f_undone f_letters f_showing f_spot f_tokenAt f_value f_laters f_places f_guesses f_ways f_now f_past f_images f_isKept f_text f_shown f_read f_letter f_sizes f_laterNumber f_many f_labelAt f_soAt f_meets f_wayFrom f_wayTo f_wayBy f_reach f_goesOn f_far f_round f_line f_guessAt ((54 : Int32) + ((17 : Int32) * a1)) (37 : Int32)) 150 true 2 lk_7_150 (by decide +kernel) rfl ⟨rfl, rfl, by decide, by decide⟩ [] rfl (Nat.le_of_ble_eq_true rfl) (fun _ => ⟨0, 7, _, rfl, rfl, by decide, rfl⟩) hs (fun o3 hs => ?_)
      refine g_blk 24 [(.goto 4, 0, 0, 0, 0)] [] [(0, .ref 0), (1, .int a1)] [.int o3.1] (HM o3.2.1 f_letters f_showing f_spot f_tokenAt f_value f_laters f_places f_guesses f_ways o3.2.2.1 o3.2.2.2 f_images f_isKept f_text f_shown f_read f_letter f_sizes f_laterNumber f_many f_labelAt f_soAt f_meets f_wayFrom f_wayTo f_wayBy f_reach f_goesOn f_far f_round f_line f_guessAt) (by decide +kernel) rfl g_nil ?_
      refine g_loc (L2 := []) [] rfl ?_
      have hq := g_sat_s hs
      exact hq
abbrev rm_M_label : Room := { frames := 2, cells := 0, slots := 0, locals := 43 }
def F_M_label (f_now : Nat → Int32) (a1 : Int32) : Option Int32 := ((if (F_M_isState f_now a1) = 0 then (some (-1 : Int32)) else (g_chk (g_inb ((1 : Int32) + a1) 105) (some (f_now (((1 : Int32) + a1)).toNatClampNeg)))).bind fun o3 => (some o3))
set_option maxRecDepth 100000 in
theorem ct_M_label (f_undone : Int32) (f_letters : Int32) (f_showing : Int32) (f_spot : Int32) (f_tokenAt : Int32) (f_value : Int32) (f_laters : Int32) (f_places : Int32) (f_guesses : Int32) (f_ways : Int32) (f_now : Nat → Int32) (f_past : Nat → Int32) (f_images : Nat → Int32) (f_isKept : Nat → Int32) (f_text : Nat → Int32) (f_shown : Nat → Int32) (f_read : Nat → Int32) (f_letter : Nat → Int32) (f_sizes : Nat → Int32) (f_laterNumber : Nat → Int32) (f_many : Nat → Int32) (f_labelAt : Nat → Int32) (f_soAt : Nat → Int32) (f_meets : Nat → Int32) (f_wayFrom : Nat → Int32) (f_wayTo : Nat → Int32) (f_wayBy : Nat → Int32) (f_reach : Nat → Int64) (f_goesOn : Nat → Int32) (f_far : Nat → Int32) (f_round : Nat → Int32) (f_line : Nat → Int32) (f_guessAt : Nat → Int32) (a1 : Int32) : g_F y_M_label c_M_label 2 (some .int) rm_M_label [.ref 0, .int a1] (HM f_undone f_letters f_showing f_spot f_tokenAt f_value f_laters f_places f_guesses f_ways f_now f_past f_images f_isKept f_text f_shown f_read f_letter f_sizes f_laterNumber f_many f_labelAt f_soAt f_meets f_wayFrom f_wayTo f_wayBy f_reach f_goesOn f_far f_round f_line f_guessAt) (F_M_label f_now a1) (fun o => some (.int o)) (fun _ => (HM f_undone f_letters f_showing f_spot f_tokenAt f_value f_laters f_places f_guesses f_ways f_now f_past f_images f_isKept f_text f_shown f_read f_letter f_sizes f_laterNumber f_many f_labelAt f_soAt f_meets f_wayFrom f_wayTo f_wayBy f_reach f_goesOn f_far f_round f_line f_guessAt)) := by
  intro l P hs
  refine g_ofG 7 (by decide +kernel) rfl (Nat.le_of_ble_eq_true rfl) (fun X hX => ?_)
  unfold F_M_label at hs
  refine g_loc (L2 := [(0, .ref 0), (1, .int a1)]) [0, 1] rfl ?_
  refine g_blk 2 [(.aload_n 0, 0, 0, 0, 0), (.iload_n 1, 0, 0, 0, 0)] [] [(0, .ref 0), (1, .int a1)] [.int a1, .ref 0] (HM f_undone f_letters f_showing f_spot f_tokenAt f_value f_laters f_places f_guesses f_ways f_now f_past f_images f_isKept f_text f_shown f_read f_letter f_sizes f_laterNumber f_many f_labelAt f_soAt f_meets f_wayFrom f_wayTo f_wayBy f_reach f_goesOn f_far f_round f_line f_guessAt) (by decide +kernel) rfl g_nil ?_
  refine g_pM (ct_M_isState f_undone f_letters f_showing f_spot f_tokenAt f_value f_laters f_places f_guesses f_ways f_now f_past f_images f_isKept f_text f_shown f_read f_letter f_sizes f_laterNumber f_many f_labelAt f_soAt f_meets f_wayFrom f_wayTo f_wayBy f_reach f_goesOn f_far f_round f_line f_guessAt a1) 141 true 1 lk_7_141 (by decide +kernel) rfl ⟨rfl, rfl, by decide, by decide⟩ [] rfl (Nat.le_of_ble_eq_true rfl) (fun _ => ⟨0, 7, _, rfl, rfl, by decide, rfl⟩) ?_
  refine g_join (fun (o3 : Int32) => g_G X rm_M_label c_M_label 2 7 (some .int) 20 [] [.int o3] (HM f_undone f_letters f_showing f_spot f_tokenAt f_value f_laters f_places f_guesses f_ways f_now f_past f_images f_isKept f_text f_shown f_read f_letter f_sizes f_laterNumber f_many f_labelAt f_soAt f_meets f_wayFrom f_wayTo f_wayBy f_reach f_goesOn f_far f_round f_line f_guessAt)) hs (fun o3 hs => ?_) (fun hs => ?_)
  · have hq := g_sat_s hs
    exact g_iret hX (by decide +kernel) rfl hq
  · refine g_br 19 (.ifCond .eq 14) ((F_M_isState f_now a1) = 0) [] (by decide +kernel) rfl (fun c1 => ?_) (fun c1 => ?_)
    · have hs := g_sat_t hs c1
      refine g_blk 20 [(.iconst (-1), 0, 0, (-1), 0)] [] [(0, .ref 0), (1, .int a1)] [.int (-1 : Int32)] (HM f_undone f_letters f_showing f_spot f_tokenAt f_value f_laters f_places f_guesses f_ways f_now f_past f_images f_isKept f_text f_shown f_read f_letter f_sizes f_laterNumber f_many f_labelAt f_soAt f_meets f_wayFrom f_wayTo f_wayBy f_reach f_goesOn f_far f_round f_line f_guessAt) (by decide +kernel) rfl g_nil ?_
      refine g_loc (L2 := []) [] rfl ?_
      have hq := g_sat_s hs
      exact hq
    · have hs := g_sat_f hs c1
      obtain ⟨h4, hs⟩ := g_sat_c hs
      refine g_blk 20 [(.aload_n 0, 0, 0, 0, 0), (.getfield 7, 7, 0, 0, 0), (.iconst 1, 0, 0, 1, 0), (.iload_n 1, 0, 0, 0, 0), (.iadd, 0, 0, 0, 0), (.iaload, 0, 0, 0, 0), (.goto 4, 0, 0, 0, 0)] [vp_in ((1 : Int32) + a1) 105] [(0, .ref 0), (1, .int a1)] [.int (f_now (((1 : Int32) + a1)).toNatClampNeg)] (HM f_undone f_letters f_showing f_spot f_tokenAt f_value f_laters f_places f_guesses f_ways f_now f_past f_images f_isKept f_text f_shown f_read f_letter f_sizes f_laterNumber f_many f_labelAt f_soAt f_meets f_wayFrom f_wayTo f_wayBy f_reach f_goesOn f_far f_round f_line f_guessAt) (by decide +kernel) rfl (g_and (g_inb_in h4) g_nil) ?_
      refine g_loc (L2 := []) [] rfl ?_
      have hq := g_sat_s hs
      exact hq
abbrev rm_M_move : Room := { frames := 2, cells := 0, slots := 0, locals := 43 }
def F_M_move (f_now : Nat → Int32) (a1 : Int32) (a2 : Int32) : Option Int32 := ((if (F_M_isMove f_now a1) = 0 then (some (-1 : Int32)) else (if (F_M_in a2 (0 : Int32) (2 : Int32)) = 0 then (some (-1 : Int32)) else (g_chk (g_inb (((7 : Int32) + ((3 : Int32) * a1)) + a2) 105) (some (f_now ((((7 : Int32) + ((3 : Int32) * a1)) + a2)).toNatClampNeg))))).bind fun o3 => (some o3))
set_option maxRecDepth 100000 in
theorem ct_M_move (f_undone : Int32) (f_letters : Int32) (f_showing : Int32) (f_spot : Int32) (f_tokenAt : Int32) (f_value : Int32) (f_laters : Int32) (f_places : Int32) (f_guesses : Int32) (f_ways : Int32) (f_now : Nat → Int32) (f_past : Nat → Int32) (f_images : Nat → Int32) (f_isKept : Nat → Int32) (f_text : Nat → Int32) (f_shown : Nat → Int32) (f_read : Nat → Int32) (f_letter : Nat → Int32) (f_sizes : Nat → Int32) (f_laterNumber : Nat → Int32) (f_many : Nat → Int32) (f_labelAt : Nat → Int32) (f_soAt : Nat → Int32) (f_meets : Nat → Int32) (f_wayFrom : Nat → Int32) (f_wayTo : Nat → Int32) (f_wayBy : Nat → Int32) (f_reach : Nat → Int64) (f_goesOn : Nat → Int32) (f_far : Nat → Int32) (f_round : Nat → Int32) (f_line : Nat → Int32) (f_guessAt : Nat → Int32) (a1 : Int32) (a2 : Int32) : g_F y_M_move c_M_move 3 (some .int) rm_M_move [.ref 0, .int a1, .int a2] (HM f_undone f_letters f_showing f_spot f_tokenAt f_value f_laters f_places f_guesses f_ways f_now f_past f_images f_isKept f_text f_shown f_read f_letter f_sizes f_laterNumber f_many f_labelAt f_soAt f_meets f_wayFrom f_wayTo f_wayBy f_reach f_goesOn f_far f_round f_line f_guessAt) (F_M_move f_now a1 a2) (fun o => some (.int o)) (fun _ => (HM f_undone f_letters f_showing f_spot f_tokenAt f_value f_laters f_places f_guesses f_ways f_now f_past f_images f_isKept f_text f_shown f_read f_letter f_sizes f_laterNumber f_many f_labelAt f_soAt f_meets f_wayFrom f_wayTo f_wayBy f_reach f_goesOn f_far f_round f_line f_guessAt)) := by
  intro l P hs
  refine g_ofG 7 (by decide +kernel) rfl (Nat.le_of_ble_eq_true rfl) (fun X hX => ?_)
  unfold F_M_move at hs
  refine g_loc (L2 := [(0, .ref 0), (1, .int a1), (2, .int a2)]) [0, 1, 2] rfl ?_
  refine g_blk 2 [(.aload_n 0, 0, 0, 0, 0), (.iload_n 1, 0, 0, 0, 0)] [] [(0, .ref 0), (1, .int a1), (2, .int a2)] [.int a1, .ref 0] (HM f_undone f_letters f_showing f_spot f_tokenAt f_value f_laters f_places f_guesses f_ways f_now f_past f_images f_isKept f_text f_shown f_read f_letter f_sizes f_laterNumber f_many f_labelAt f_soAt f_meets f_wayFrom f_wayTo f_wayBy f_reach f_goesOn f_far f_round f_line f_guessAt) (by decide +kernel) rfl g_nil ?_
  refine g_pM (ct_M_isMove f_undone f_letters f_showing f_spot f_tokenAt f_value f_laters f_places f_guesses f_ways f_now f_past f_images f_isKept f_text f_shown f_read f_letter f_sizes f_laterNumber f_many f_labelAt f_soAt f_meets f_wayFrom f_wayTo f_wayBy f_reach f_goesOn f_far f_round f_line f_guessAt a1) 144 true 1 lk_7_144 (by decide +kernel) rfl ⟨rfl, rfl, by decide, by decide⟩ [] rfl (Nat.le_of_ble_eq_true rfl) (fun _ => ⟨0, 7, _, rfl, rfl, by decide, rfl⟩) ?_
  refine g_join (fun (o3 : Int32) => g_G X rm_M_move c_M_move 3 7 (some .int) 34 [] [.int o3] (HM f_undone f_letters f_showing f_spot f_tokenAt f_value f_laters f_places f_guesses f_ways f_now f_past f_images f_isKept f_text f_shown f_read f_letter f_sizes f_laterNumber f_many f_labelAt f_soAt f_meets f_wayFrom f_wayTo f_wayBy f_reach f_goesOn f_far f_round f_line f_guessAt)) hs (fun o3 hs => ?_) (fun hs => ?_)
  · have hq := g_sat_s hs
    exact g_iret hX (by decide +kernel) rfl hq
  · refine g_br 33 (.ifCond .eq 28) ((F_M_isMove f_now a1) = 0) [] (by decide +kernel) rfl (fun c1 => ?_) (fun c1 => ?_)
    · have hs := g_sat_t hs c1
      refine g_blk 34 [(.iconst (-1), 0, 0, (-1), 0)] [] [(0, .ref 0), (1, .int a1), (2, .int a2)] [.int (-1 : Int32)] (HM f_undone f_letters f_showing f_spot f_tokenAt f_value f_laters f_places f_guesses f_ways f_now f_past f_images f_isKept f_text f_shown f_read f_letter f_sizes f_laterNumber f_many f_labelAt f_soAt f_meets f_wayFrom f_wayTo f_wayBy f_reach f_goesOn f_far f_round f_line f_guessAt) (by decide +kernel) rfl g_nil ?_
      refine g_loc (L2 := []) [] rfl ?_
      have hq := g_sat_s hs
      exact hq
    · have hs := g_sat_f hs c1
      refine g_blk 11 [(.iload_n 2, 0, 0, 0, 0), (.iconst 0, 0, 0, 0, 0), (.iconst 2, 0, 0, 2, 0)] [] [(0, .ref 0), (1, .int a1), (2, .int a2)] [.int (2 : Int32), .int (0 : Int32), .int a2] (HM f_undone f_letters f_showing f_spot f_tokenAt f_value f_laters f_places f_guesses f_ways f_now f_past f_images f_isKept f_text f_shown f_read f_letter f_sizes f_laterNumber f_many f_labelAt f_soAt f_meets f_wayFrom f_wayTo f_wayBy f_reach f_goesOn f_far f_round f_line f_guessAt) (by decide +kernel) rfl g_nil ?_
      refine g_pN (ct_M_in a2 (0 : Int32) (2 : Int32)) 85 3 lk_7_85 (by decide +kernel) rfl ⟨rfl, rfl, by decide, by decide⟩ [] rfl (Nat.le_of_ble_eq_true rfl) ?_
      refine g_br 33 (.ifCond .eq 19) ((F_M_in a2 (0 : Int32) (2 : Int32)) = 0) [] (by decide +kernel) rfl (fun c4 => ?_) (fun c4 => ?_)
      · have hs := g_sat_t hs c4
        refine g_blk 34 [(.iconst (-1), 0, 0, (-1), 0)] [] [(0, .ref 0), (1, .int a1), (2, .int a2)] [.int (-1 : Int32)] (HM f_undone f_letters f_showing f_spot f_tokenAt f_value f_laters f_places f_guesses f_ways f_now f_past f_images f_isKept f_text f_shown f_read f_letter f_sizes f_laterNumber f_many f_labelAt f_soAt f_meets f_wayFrom f_wayTo f_wayBy f_reach f_goesOn f_far f_round f_line f_guessAt) (by decide +kernel) rfl g_nil ?_
        refine g_loc (L2 := []) [] rfl ?_
        have hq := g_sat_s hs
        exact hq
      · have hs := g_sat_f hs c4
        obtain ⟨h5, hs⟩ := g_sat_c hs
        refine g_blk 34 [(.aload_n 0, 0, 0, 0, 0), (.getfield 7, 7, 0, 0, 0), (.bipush 7, 0, 0, 7, 0), (.iconst 3, 0, 0, 3, 0), (.iload_n 1, 0, 0, 0, 0), (.imul, 0, 0, 0, 0), (.iadd, 0, 0, 0, 0), (.iload_n 2, 0, 0, 0, 0), (.iadd, 0, 0, 0, 0), (.iaload, 0, 0, 0, 0), (.goto 4, 0, 0, 0, 0)] [vp_in (((7 : Int32) + ((3 : Int32) * a1)) + a2) 105] [(0, .ref 0), (1, .int a1), (2, .int a2)] [.int (f_now ((((7 : Int32) + ((3 : Int32) * a1)) + a2)).toNatClampNeg)] (HM f_undone f_letters f_showing f_spot f_tokenAt f_value f_laters f_places f_guesses f_ways f_now f_past f_images f_isKept f_text f_shown f_read f_letter f_sizes f_laterNumber f_many f_labelAt f_soAt f_meets f_wayFrom f_wayTo f_wayBy f_reach f_goesOn f_far f_round f_line f_guessAt) (by decide +kernel) rfl (g_and (g_inb_in h5) g_nil) ?_
        refine g_loc (L2 := []) [] rfl ?_
        have hq := g_sat_s hs
        exact hq
abbrev rm_M_laysFormula : Room := { frames := 1, cells := 0, slots := 0, locals := 20 }
def M_laysFormula_l1 (f_now : Nat → Int32) (a1 : Int32) (a2 : Int32) : Nat → Int32 → Int32 → (Nat → Int32) → (Nat → Int32) → Option (Int32 × (Nat → Int32) × (Nat → Int32))
  | 0, _, _, _, _ => none
  | n + 1, b4_3, w_laters_4, w_letter_5, w_laterNumber_6 => (if (f_now a1.toNatClampNeg) ≤ b4_3 then (some (w_laters_4, w_letter_5, w_laterNumber_6)) else (g_chk (g_inb ((a1 + (1 : Int32)) + b4_3) 105) (g_chk (g_inb (((16 : Int32) * a2) + b4_3) 32) (g_chk (g_inb (((16 : Int32) * a2) + b4_3) 32) (M_laysFormula_l1 f_now a1 a2 n (b4_3 + (1 : Int32)) (w_laters_4 + (if (F_M_isLater (f_now (((a1 + (1 : Int32)) + b4_3)).toNatClampNeg)) = 0 then (0 : Int32) else (1 : Int32))) (upd w_letter_5 ((((16 : Int32) * a2) + b4_3)).toNatClampNeg (f_now (((a1 + (1 : Int32)) + b4_3)).toNatClampNeg)) (upd w_laterNumber_6 ((((16 : Int32) * a2) + b4_3)).toNatClampNeg (if (F_M_isLater (f_now (((a1 + (1 : Int32)) + b4_3)).toNatClampNeg)) = 0 then (-9 : Int32) else w_laters_4)))))))
theorem M_laysFormula_l1_s (f_now : Nat → Int32) (a1 : Int32) (a2 : Int32) (n : Nat) (b4_3 : Int32) (w_laters_4 : Int32) (w_letter_5 : Nat → Int32) (w_laterNumber_6 : Nat → Int32) : M_laysFormula_l1 f_now a1 a2 (n + 1) b4_3 w_laters_4 w_letter_5 w_laterNumber_6 = (if (f_now a1.toNatClampNeg) ≤ b4_3 then (some (w_laters_4, w_letter_5, w_laterNumber_6)) else (g_chk (g_inb ((a1 + (1 : Int32)) + b4_3) 105) (g_chk (g_inb (((16 : Int32) * a2) + b4_3) 32) (g_chk (g_inb (((16 : Int32) * a2) + b4_3) 32) (M_laysFormula_l1 f_now a1 a2 n (b4_3 + (1 : Int32)) (w_laters_4 + (if (F_M_isLater (f_now (((a1 + (1 : Int32)) + b4_3)).toNatClampNeg)) = 0 then (0 : Int32) else (1 : Int32))) (upd w_letter_5 ((((16 : Int32) * a2) + b4_3)).toNatClampNeg (f_now (((a1 + (1 : Int32)) + b4_3)).toNatClampNeg)) (upd w_laterNumber_6 ((((16 : Int32) * a2) + b4_3)).toNatClampNeg (if (F_M_isLater (f_now (((a1 + (1 : Int32)) + b4_3)).toNatClampNeg)) = 0 then (-9 : Int32) else w_laters_4))))))) := rfl
def M_laysFormula_l3 (o7 : Int32 × (Nat → Int32) × (Nat → Int32)) (a2 : Int32) (b4_20 : Int32) (w_sizes_21 : Nat → Int32) : Nat → Int32 → Int32 → Option Int32
  | 0, _, _ => none
  | n + 1, b7_25, b8_26 => (if (F_M_insideOf (o7.2.1 ((((16 : Int32) * a2) + b4_20)).toNatClampNeg)) ≤ b8_26 then (some b7_25) else (g_chk (g_inb ((((16 : Int32) * a2) + b4_20) + b7_25) 32) (M_laysFormula_l3 o7 a2 b4_20 w_sizes_21 n (b7_25 + (w_sizes_21 (((((16 : Int32) * a2) + b4_20) + b7_25)).toNatClampNeg)) (b8_26 + (1 : Int32)))))
theorem M_laysFormula_l3_s (o7 : Int32 × (Nat → Int32) × (Nat → Int32)) (a2 : Int32) (b4_20 : Int32) (w_sizes_21 : Nat → Int32) (n : Nat) (b7_25 : Int32) (b8_26 : Int32) : M_laysFormula_l3 o7 a2 b4_20 w_sizes_21 (n + 1) b7_25 b8_26 = (if (F_M_insideOf (o7.2.1 ((((16 : Int32) * a2) + b4_20)).toNatClampNeg)) ≤ b8_26 then (some b7_25) else (g_chk (g_inb ((((16 : Int32) * a2) + b4_20) + b7_25) 32) (M_laysFormula_l3 o7 a2 b4_20 w_sizes_21 n (b7_25 + (w_sizes_21 (((((16 : Int32) * a2) + b4_20) + b7_25)).toNatClampNeg)) (b8_26 + (1 : Int32))))) := rfl
def M_laysFormula_l2 (N : Nat) (a2 : Int32) (o7 : Int32 × (Nat → Int32) × (Nat → Int32)) : Nat → Int32 → (Nat → Int32) → Option (Nat → Int32)
  | 0, _, _ => none
  | n + 1, b4_20, w_sizes_21 => (if b4_20 < 0 then (some w_sizes_21) else (g_chk (g_inb (((16 : Int32) * a2) + b4_20) 32) ((M_laysFormula_l3 o7 a2 b4_20 w_sizes_21 N (1 : Int32) (0 : Int32)).bind fun o27 => (g_chk (g_inb (((16 : Int32) * a2) + b4_20) 32) (M_laysFormula_l2 N a2 o7 n (b4_20 + (-1 : Int32)) (upd w_sizes_21 ((((16 : Int32) * a2) + b4_20)).toNatClampNeg o27))))))
theorem M_laysFormula_l2_s (N : Nat) (a2 : Int32) (o7 : Int32 × (Nat → Int32) × (Nat → Int32)) (n : Nat) (b4_20 : Int32) (w_sizes_21 : Nat → Int32) : M_laysFormula_l2 N a2 o7 (n + 1) b4_20 w_sizes_21 = (if b4_20 < 0 then (some w_sizes_21) else (g_chk (g_inb (((16 : Int32) * a2) + b4_20) 32) ((M_laysFormula_l3 o7 a2 b4_20 w_sizes_21 N (1 : Int32) (0 : Int32)).bind fun o27 => (g_chk (g_inb (((16 : Int32) * a2) + b4_20) 32) (M_laysFormula_l2 N a2 o7 n (b4_20 + (-1 : Int32)) (upd w_sizes_21 ((((16 : Int32) * a2) + b4_20)).toNatClampNeg o27)))))) := rfl
def F_M_laysFormula (N : Nat) (f_laters : Int32) (f_now : Nat → Int32) (f_letter : Nat → Int32) (f_sizes : Nat → Int32) (f_laterNumber : Nat → Int32) (f_many : Nat → Int32) (a1 : Int32) (a2 : Int32) : Option (Int32 × (Nat → Int32) × (Nat → Int32) × (Nat → Int32) × (Nat → Int32)) := (g_chk (g_inb a1 105) (g_chk (g_inb a2 2) ((M_laysFormula_l1 f_now a1 a2 N (0 : Int32) f_laters f_letter f_laterNumber).bind fun o7 => ((M_laysFormula_l2 N a2 o7 N ((f_now a1.toNatClampNeg) - (1 : Int32)) f_sizes).bind fun o22 => (some (o7.1, o7.2.1, o22, o7.2.2, (upd f_many a2.toNatClampNeg (f_now a1.toNatClampNeg))))))))
set_option maxRecDepth 100000 in
theorem ct_M_laysFormula (N : Nat) (f_undone : Int32) (f_letters : Int32) (f_showing : Int32) (f_spot : Int32) (f_tokenAt : Int32) (f_value : Int32) (f_laters : Int32) (f_places : Int32) (f_guesses : Int32) (f_ways : Int32) (f_now : Nat → Int32) (f_past : Nat → Int32) (f_images : Nat → Int32) (f_isKept : Nat → Int32) (f_text : Nat → Int32) (f_shown : Nat → Int32) (f_read : Nat → Int32) (f_letter : Nat → Int32) (f_sizes : Nat → Int32) (f_laterNumber : Nat → Int32) (f_many : Nat → Int32) (f_labelAt : Nat → Int32) (f_soAt : Nat → Int32) (f_meets : Nat → Int32) (f_wayFrom : Nat → Int32) (f_wayTo : Nat → Int32) (f_wayBy : Nat → Int32) (f_reach : Nat → Int64) (f_goesOn : Nat → Int32) (f_far : Nat → Int32) (f_round : Nat → Int32) (f_line : Nat → Int32) (f_guessAt : Nat → Int32) (a1 : Int32) (a2 : Int32) : g_F y_M_laysFormula c_M_laysFormula 9 none rm_M_laysFormula [.ref 0, .int a1, .int a2] (HM f_undone f_letters f_showing f_spot f_tokenAt f_value f_laters f_places f_guesses f_ways f_now f_past f_images f_isKept f_text f_shown f_read f_letter f_sizes f_laterNumber f_many f_labelAt f_soAt f_meets f_wayFrom f_wayTo f_wayBy f_reach f_goesOn f_far f_round f_line f_guessAt) (F_M_laysFormula N f_laters f_now f_letter f_sizes f_laterNumber f_many a1 a2) (fun o => none) (fun o => (HM f_undone f_letters f_showing f_spot f_tokenAt f_value o.1 f_places f_guesses f_ways f_now f_past f_images f_isKept f_text f_shown f_read o.2.1 o.2.2.1 o.2.2.2.1 o.2.2.2.2 f_labelAt f_soAt f_meets f_wayFrom f_wayTo f_wayBy f_reach f_goesOn f_far f_round f_line f_guessAt)) := by
  intro l P hs
  refine g_ofG 7 (by decide +kernel) rfl (Nat.le_of_ble_eq_true rfl) (fun X hX => ?_)
  unfold F_M_laysFormula at hs
  refine g_loc (L2 := [(0, .ref 0), (1, .int a1), (2, .int a2)]) [0, 1, 2] rfl ?_
  obtain ⟨h1, hs⟩ := g_sat_c hs
  obtain ⟨h2, hs⟩ := g_sat_c hs
  refine g_blk 17 [(.aload_n 0, 0, 0, 0, 0), (.getfield 7, 7, 0, 0, 0), (.iload_n 1, 0, 0, 0, 0), (.iaload, 0, 0, 0, 0), (.istore_n 3, 0, 0, 0, 0), (.aload_n 0, 0, 0, 0, 0), (.getfield 41, 7, 16, 0, 0), (.iload_n 2, 0, 0, 0, 0), (.iload_n 3, 0, 0, 0, 0), (.iastore, 0, 0, 0, 0), (.iconst 0, 0, 0, 0, 0), (.istore 4, 0, 0, 0, 0)] [vp_in a1 105, vp_in a2 2] [(4, .int (0 : Int32)), (3, .int (f_now a1.toNatClampNeg)), (0, .ref 0), (1, .int a1), (2, .int a2)] [] (HM f_undone f_letters f_showing f_spot f_tokenAt f_value f_laters f_places f_guesses f_ways f_now f_past f_images f_isKept f_text f_shown f_read f_letter f_sizes f_laterNumber (upd f_many a2.toNatClampNeg (f_now a1.toNatClampNeg)) f_labelAt f_soAt f_meets f_wayFrom f_wayTo f_wayBy f_reach f_goesOn f_far f_round f_line f_guessAt) (by decide +kernel) rfl (g_and (g_inb_in h1) (g_and (g_inb_in h2) g_nil)) ?_
  refine g_loc (L2 := [(0, .ref 0), (1, .int a1), (2, .int a2), (3, .int (f_now a1.toNatClampNeg)), (4, .int (0 : Int32))]) [2, 3, 4, 1, 0] rfl ?_
  refine g_join (fun (o7 : Int32 × (Nat → Int32) × (Nat → Int32)) => g_G X rm_M_laysFormula c_M_laysFormula 9 7 none 107 [(0, .ref 0), (2, .int a2), (3, .int (f_now a1.toNatClampNeg))] [] (HM f_undone f_letters f_showing f_spot f_tokenAt f_value o7.1 f_places f_guesses f_ways f_now f_past f_images f_isKept f_text f_shown f_read o7.2.1 f_sizes o7.2.2 (upd f_many a2.toNatClampNeg (f_now a1.toNatClampNeg)) f_labelAt f_soAt f_meets f_wayFrom f_wayTo f_wayBy f_reach f_goesOn f_far f_round f_line f_guessAt)) hs (fun o7 hs => ?_) (fun hs => ?_)
  · refine g_blk 112 [(.iload_n 3, 0, 0, 0, 0), (.iconst 1, 0, 0, 1, 0), (.isub, 0, 0, 0, 0), (.istore 4, 0, 0, 0, 0)] [] [(4, .int ((f_now a1.toNatClampNeg) - (1 : Int32))), (0, .ref 0), (2, .int a2), (3, .int (f_now a1.toNatClampNeg))] [] (HM f_undone f_letters f_showing f_spot f_tokenAt f_value o7.1 f_places f_guesses f_ways f_now f_past f_images f_isKept f_text f_shown f_read o7.2.1 f_sizes o7.2.2 (upd f_many a2.toNatClampNeg (f_now a1.toNatClampNeg)) f_labelAt f_soAt f_meets f_wayFrom f_wayTo f_wayBy f_reach f_goesOn f_far f_round f_line f_guessAt) (by decide +kernel) rfl g_nil ?_
    refine g_loc (L2 := [(0, .ref 0), (2, .int a2), (4, .int ((f_now a1.toNatClampNeg) - (1 : Int32)))]) [1, 2, 0] rfl ?_
    refine g_join (fun (o22 : Nat → Int32) => g_G X rm_M_laysFormula c_M_laysFormula 9 7 none 187 [] [] (HM f_undone f_letters f_showing f_spot f_tokenAt f_value o7.1 f_places f_guesses f_ways f_now f_past f_images f_isKept f_text f_shown f_read o7.2.1 o22 o7.2.2 (upd f_many a2.toNatClampNeg (f_now a1.toNatClampNeg)) f_labelAt f_soAt f_meets f_wayFrom f_wayTo f_wayBy f_reach f_goesOn f_far f_round f_line f_guessAt)) hs (fun o22 hs => ?_) (fun hs => ?_)
    · have hq := g_sat_s hs
      exact g_vret hX (by decide +kernel) rfl hq
    · have hlM_laysFormula_l2 : ∀ (n : Nat) (b4_20 : Int32) (w_sizes_21 : Nat → Int32), g_sat (M_laysFormula_l2 N a2 o7 n b4_20 w_sizes_21) (fun (o22 : Nat → Int32) => g_G X rm_M_laysFormula c_M_laysFormula 9 7 none 187 [] [] (HM f_undone f_letters f_showing f_spot f_tokenAt f_value o7.1 f_places f_guesses f_ways f_now f_past f_images f_isKept f_text f_shown f_read o7.2.1 o22 o7.2.2 (upd f_many a2.toNatClampNeg (f_now a1.toNatClampNeg)) f_labelAt f_soAt f_meets f_wayFrom f_wayTo f_wayBy f_reach f_goesOn f_far f_round f_line f_guessAt)) → g_G X rm_M_laysFormula c_M_laysFormula 9 7 none 112 [(0, .ref 0), (2, .int a2), (4, .int b4_20)] [] (HM f_undone f_letters f_showing f_spot f_tokenAt f_value o7.1 f_places f_guesses f_ways f_now f_past f_images f_isKept f_text f_shown f_read o7.2.1 w_sizes_21 o7.2.2 (upd f_many a2.toNatClampNeg (f_now a1.toNatClampNeg)) f_labelAt f_soAt f_meets f_wayFrom f_wayTo f_wayBy f_reach f_goesOn f_far f_round f_line f_guessAt) := by
        intro n
        induction n with
        | zero =>
          intro b4_20 w_sizes_21 hs
          obtain ⟨_, h0, _⟩ := hs
          cases h0
        | succ n ih =>
          intro b4_20 w_sizes_21 hs
          rw [M_laysFormula_l2_s] at hs
          refine g_blk 114 [(.iload 4, 0, 0, 0, 0)] [] [(0, .ref 0), (2, .int a2), (4, .int b4_20)] [.int b4_20] (HM f_undone f_letters f_showing f_spot f_tokenAt f_value o7.1 f_places f_guesses f_ways f_now f_past f_images f_isKept f_text f_shown f_read o7.2.1 w_sizes_21 o7.2.2 (upd f_many a2.toNatClampNeg (f_now a1.toNatClampNeg)) f_labelAt f_soAt f_meets f_wayFrom f_wayTo f_wayBy f_reach f_goesOn f_far f_round f_line f_guessAt) (by decide +kernel) rfl g_nil ?_
          refine g_br 187 (.ifCond .lt 73) (b4_20 < 0) [] (by decide +kernel) rfl (fun c23 => ?_) (fun c23 => ?_)
          · have hs := g_sat_t hs c23
            refine g_loc (L2 := []) [] rfl ?_
            have hq := g_sat_s hs
            exact hq
          · have hs := g_sat_f hs c23
            obtain ⟨h24, hs⟩ := g_sat_c hs
            refine g_blk 133 [(.bipush 16, 0, 0, 16, 0), (.iload_n 2, 0, 0, 0, 0), (.imul, 0, 0, 0, 0), (.iload 4, 0, 0, 0, 0), (.iadd, 0, 0, 0, 0), (.istore 5, 0, 0, 0, 0), (.aload_n 0, 0, 0, 0, 0), (.getfield 32, 7, 13, 0, 0), (.iload 5, 0, 0, 0, 0), (.iaload, 0, 0, 0, 0)] [vp_in (((16 : Int32) * a2) + b4_20) 32] [(5, .int (((16 : Int32) * a2) + b4_20)), (0, .ref 0), (2, .int a2), (4, .int b4_20)] [.int (o7.2.1 ((((16 : Int32) * a2) + b4_20)).toNatClampNeg)] (HM f_undone f_letters f_showing f_spot f_tokenAt f_value o7.1 f_places f_guesses f_ways f_now f_past f_images f_isKept f_text f_shown f_read o7.2.1 w_sizes_21 o7.2.2 (upd f_many a2.toNatClampNeg (f_now a1.toNatClampNeg)) f_labelAt f_soAt f_meets f_wayFrom f_wayTo f_wayBy f_reach f_goesOn f_far f_round f_line f_guessAt) (by decide +kernel) rfl (g_and (g_inb_in h24) g_nil) ?_
            refine g_pN (ct_M_insideOf (o7.2.1 ((((16 : Int32) * a2) + b4_20)).toNatClampNeg)) 134 1 lk_7_134 (by decide +kernel) rfl ⟨rfl, rfl, by decide, by decide⟩ [] rfl (Nat.le_of_ble_eq_true rfl) ?_
            refine g_blk 144 [(.istore 6, 0, 0, 0, 0), (.iconst 1, 0, 0, 1, 0), (.istore 7, 0, 0, 0, 0), (.iconst 0, 0, 0, 0, 0), (.istore 8, 0, 0, 0, 0)] [] [(8, .int (0 : Int32)), (7, .int (1 : Int32)), (6, .int (F_M_insideOf (o7.2.1 ((((16 : Int32) * a2) + b4_20)).toNatClampNeg))), (5, .int (((16 : Int32) * a2) + b4_20)), (0, .ref 0), (2, .int a2), (4, .int b4_20)] [] (HM f_undone f_letters f_showing f_spot f_tokenAt f_value o7.1 f_places f_guesses f_ways f_now f_past f_images f_isKept f_text f_shown f_read o7.2.1 w_sizes_21 o7.2.2 (upd f_many a2.toNatClampNeg (f_now a1.toNatClampNeg)) f_labelAt f_soAt f_meets f_wayFrom f_wayTo f_wayBy f_reach f_goesOn f_far f_round f_line f_guessAt) (by decide +kernel) rfl g_nil ?_
            refine g_loc (L2 := [(0, .ref 0), (2, .int a2), (4, .int b4_20), (5, .int (((16 : Int32) * a2) + b4_20)), (6, .int (F_M_insideOf (o7.2.1 ((((16 : Int32) * a2) + b4_20)).toNatClampNeg))), (7, .int (1 : Int32)), (8, .int (0 : Int32))]) [4, 5, 6, 3, 2, 1, 0] rfl ?_
            refine g_join (fun (o27 : Int32) => g_G X rm_M_laysFormula c_M_laysFormula 9 7 none 172 [(0, .ref 0), (2, .int a2), (4, .int b4_20), (5, .int (((16 : Int32) * a2) + b4_20)), (7, .int o27)] [] (HM f_undone f_letters f_showing f_spot f_tokenAt f_value o7.1 f_places f_guesses f_ways f_now f_past f_images f_isKept f_text f_shown f_read o7.2.1 w_sizes_21 o7.2.2 (upd f_many a2.toNatClampNeg (f_now a1.toNatClampNeg)) f_labelAt f_soAt f_meets f_wayFrom f_wayTo f_wayBy f_reach f_goesOn f_far f_round f_line f_guessAt)) hs (fun o27 hs => ?_) (fun hs => ?_)
            · obtain ⟨h30, hs⟩ := g_sat_c hs
              refine g_blk 112 [(.aload_n 0, 0, 0, 0, 0), (.getfield 35, 7, 14, 0, 0), (.iload 5, 0, 0, 0, 0), (.iload 7, 0, 0, 0, 0), (.iastore, 0, 0, 0, 0), (.iinc 4 (-1), 0, 0, (-1), 0), (.goto (-72), 0, 0, 0, 0)] [vp_in (((16 : Int32) * a2) + b4_20) 32] [(4, .int (b4_20 + (-1 : Int32))), (0, .ref 0), (2, .int a2), (5, .int (((16 : Int32) * a2) + b4_20)), (7, .int o27)] [] (HM f_undone f_letters f_showing f_spot f_tokenAt f_value o7.1 f_places f_guesses f_ways f_now f_past f_images f_isKept f_text f_shown f_read o7.2.1 (upd w_sizes_21 ((((16 : Int32) * a2) + b4_20)).toNatClampNeg o27) o7.2.2 (upd f_many a2.toNatClampNeg (f_now a1.toNatClampNeg)) f_labelAt f_soAt f_meets f_wayFrom f_wayTo f_wayBy f_reach f_goesOn f_far f_round f_line f_guessAt) (by decide +kernel) rfl (g_and (g_inb_in h30) g_nil) ?_
              refine g_loc (L2 := [(0, .ref 0), (2, .int a2), (4, .int (b4_20 + (-1 : Int32)))]) [1, 2, 0] rfl ?_
              exact ih _ _ hs
            · have hlM_laysFormula_l3 : ∀ (n : Nat) (b7_25 : Int32) (b8_26 : Int32), g_sat (M_laysFormula_l3 o7 a2 b4_20 w_sizes_21 n b7_25 b8_26) (fun (o27 : Int32) => g_G X rm_M_laysFormula c_M_laysFormula 9 7 none 172 [(0, .ref 0), (2, .int a2), (4, .int b4_20), (5, .int (((16 : Int32) * a2) + b4_20)), (7, .int o27)] [] (HM f_undone f_letters f_showing f_spot f_tokenAt f_value o7.1 f_places f_guesses f_ways f_now f_past f_images f_isKept f_text f_shown f_read o7.2.1 w_sizes_21 o7.2.2 (upd f_many a2.toNatClampNeg (f_now a1.toNatClampNeg)) f_labelAt f_soAt f_meets f_wayFrom f_wayTo f_wayBy f_reach f_goesOn f_far f_round f_line f_guessAt)) → g_G X rm_M_laysFormula c_M_laysFormula 9 7 none 144 [(0, .ref 0), (2, .int a2), (4, .int b4_20), (5, .int (((16 : Int32) * a2) + b4_20)), (6, .int (F_M_insideOf (o7.2.1 ((((16 : Int32) * a2) + b4_20)).toNatClampNeg))), (7, .int b7_25), (8, .int b8_26)] [] (HM f_undone f_letters f_showing f_spot f_tokenAt f_value o7.1 f_places f_guesses f_ways f_now f_past f_images f_isKept f_text f_shown f_read o7.2.1 w_sizes_21 o7.2.2 (upd f_many a2.toNatClampNeg (f_now a1.toNatClampNeg)) f_labelAt f_soAt f_meets f_wayFrom f_wayTo f_wayBy f_reach f_goesOn f_far f_round f_line f_guessAt) := by
                intro n
                induction n with
                | zero =>
                  intro b7_25 b8_26 hs
                  obtain ⟨_, h0, _⟩ := hs
                  cases h0
                | succ n ih =>
                  intro b7_25 b8_26 hs
                  rw [M_laysFormula_l3_s] at hs
                  refine g_blk 148 [(.iload 8, 0, 0, 0, 0), (.iload 6, 0, 0, 0, 0)] [] [(0, .ref 0), (2, .int a2), (4, .int b4_20), (5, .int (((16 : Int32) * a2) + b4_20)), (6, .int (F_M_insideOf (o7.2.1 ((((16 : Int32) * a2) + b4_20)).toNatClampNeg))), (7, .int b7_25), (8, .int b8_26)] [.int (F_M_insideOf (o7.2.1 ((((16 : Int32) * a2) + b4_20)).toNatClampNeg)), .int b8_26] (HM f_undone f_letters f_showing f_spot f_tokenAt f_value o7.1 f_places f_guesses f_ways f_now f_past f_images f_isKept f_text f_shown f_read o7.2.1 w_sizes_21 o7.2.2 (upd f_many a2.toNatClampNeg (f_now a1.toNatClampNeg)) f_labelAt f_soAt f_meets f_wayFrom f_wayTo f_wayBy f_reach f_goesOn f_far f_round f_line f_guessAt) (by decide +kernel) rfl g_nil ?_
                  refine g_br 172 (.if_icmp .ge 24) ((F_M_insideOf (o7.2.1 ((((16 : Int32) * a2) + b4_20)).toNatClampNeg)) ≤ b8_26) [] (by decide +kernel) rfl (fun c28 => ?_) (fun c28 => ?_)
                  · have hs := g_sat_t hs c28
                    refine g_loc (L2 := [(0, .ref 0), (2, .int a2), (4, .int b4_20), (5, .int (((16 : Int32) * a2) + b4_20)), (7, .int b7_25)]) [0, 1, 2, 3, 5] rfl ?_
                    have hq := g_sat_s hs
                    exact hq
                  · have hs := g_sat_f hs c28
                    obtain ⟨h29, hs⟩ := g_sat_c hs
                    refine g_blk 144 [(.iload 7, 0, 0, 0, 0), (.aload_n 0, 0, 0, 0, 0), (.getfield 35, 7, 14, 0, 0), (.iload 5, 0, 0, 0, 0), (.iload 7, 0, 0, 0, 0), (.iadd, 0, 0, 0, 0), (.iaload, 0, 0, 0, 0), (.iadd, 0, 0, 0, 0), (.istore 7, 0, 0, 0, 0), (.iinc 8 1, 0, 0, 1, 0), (.goto (-25), 0, 0, 0, 0)] [vp_in ((((16 : Int32) * a2) + b4_20) + b7_25) 32] [(8, .int (b8_26 + (1 : Int32))), (7, .int (b7_25 + (w_sizes_21 (((((16 : Int32) * a2) + b4_20) + b7_25)).toNatClampNeg))), (0, .ref 0), (2, .int a2), (4, .int b4_20), (5, .int (((16 : Int32) * a2) + b4_20)), (6, .int (F_M_insideOf (o7.2.1 ((((16 : Int32) * a2) + b4_20)).toNatClampNeg)))] [] (HM f_undone f_letters f_showing f_spot f_tokenAt f_value o7.1 f_places f_guesses f_ways f_now f_past f_images f_isKept f_text f_shown f_read o7.2.1 w_sizes_21 o7.2.2 (upd f_many a2.toNatClampNeg (f_now a1.toNatClampNeg)) f_labelAt f_soAt f_meets f_wayFrom f_wayTo f_wayBy f_reach f_goesOn f_far f_round f_line f_guessAt) (by decide +kernel) rfl (g_and (g_inb_in h29) g_nil) ?_
                    refine g_loc (L2 := [(0, .ref 0), (2, .int a2), (4, .int b4_20), (5, .int (((16 : Int32) * a2) + b4_20)), (6, .int (F_M_insideOf (o7.2.1 ((((16 : Int32) * a2) + b4_20)).toNatClampNeg))), (7, .int (b7_25 + (w_sizes_21 (((((16 : Int32) * a2) + b4_20) + b7_25)).toNatClampNeg))), (8, .int (b8_26 + (1 : Int32)))]) [2, 3, 4, 5, 6, 1, 0] rfl ?_
                    exact ih _ _ hs
              exact hlM_laysFormula_l3 N _ _ hs
      exact hlM_laysFormula_l2 N _ _ hs
  · have hlM_laysFormula_l1 : ∀ (n : Nat) (b4_3 : Int32) (w_laters_4 : Int32) (w_letter_5 : Nat → Int32) (w_laterNumber_6 : Nat → Int32), g_sat (M_laysFormula_l1 f_now a1 a2 n b4_3 w_laters_4 w_letter_5 w_laterNumber_6) (fun (o7 : Int32 × (Nat → Int32) × (Nat → Int32)) => g_G X rm_M_laysFormula c_M_laysFormula 9 7 none 107 [(0, .ref 0), (2, .int a2), (3, .int (f_now a1.toNatClampNeg))] [] (HM f_undone f_letters f_showing f_spot f_tokenAt f_value o7.1 f_places f_guesses f_ways f_now f_past f_images f_isKept f_text f_shown f_read o7.2.1 f_sizes o7.2.2 (upd f_many a2.toNatClampNeg (f_now a1.toNatClampNeg)) f_labelAt f_soAt f_meets f_wayFrom f_wayTo f_wayBy f_reach f_goesOn f_far f_round f_line f_guessAt)) → g_G X rm_M_laysFormula c_M_laysFormula 9 7 none 17 [(0, .ref 0), (1, .int a1), (2, .int a2), (3, .int (f_now a1.toNatClampNeg)), (4, .int b4_3)] [] (HM f_undone f_letters f_showing f_spot f_tokenAt f_value w_laters_4 f_places f_guesses f_ways f_now f_past f_images f_isKept f_text f_shown f_read w_letter_5 f_sizes w_laterNumber_6 (upd f_many a2.toNatClampNeg (f_now a1.toNatClampNeg)) f_labelAt f_soAt f_meets f_wayFrom f_wayTo f_wayBy f_reach f_goesOn f_far f_round f_line f_guessAt) := by
      intro n
      induction n with
      | zero =>
        intro b4_3 w_laters_4 w_letter_5 w_laterNumber_6 hs
        obtain ⟨_, h0, _⟩ := hs
        cases h0
      | succ n ih =>
        intro b4_3 w_laters_4 w_letter_5 w_laterNumber_6 hs
        rw [M_laysFormula_l1_s] at hs
        refine g_blk 20 [(.iload 4, 0, 0, 0, 0), (.iload_n 3, 0, 0, 0, 0)] [] [(0, .ref 0), (1, .int a1), (2, .int a2), (3, .int (f_now a1.toNatClampNeg)), (4, .int b4_3)] [.int (f_now a1.toNatClampNeg), .int b4_3] (HM f_undone f_letters f_showing f_spot f_tokenAt f_value w_laters_4 f_places f_guesses f_ways f_now f_past f_images f_isKept f_text f_shown f_read w_letter_5 f_sizes w_laterNumber_6 (upd f_many a2.toNatClampNeg (f_now a1.toNatClampNeg)) f_labelAt f_soAt f_meets f_wayFrom f_wayTo f_wayBy f_reach f_goesOn f_far f_round f_line f_guessAt) (by decide +kernel) rfl g_nil ?_
        refine g_br 107 (.if_icmp .ge 87) ((f_now a1.toNatClampNeg) ≤ b4_3) [] (by decide +kernel) rfl (fun c8 => ?_) (fun c8 => ?_)
        · have hs := g_sat_t hs c8
          refine g_loc (L2 := [(0, .ref 0), (2, .int a2), (3, .int (f_now a1.toNatClampNeg))]) [0, 2, 3] rfl ?_
          have hq := g_sat_s hs
          exact hq
        · have hs := g_sat_f hs c8
          obtain ⟨h9, hs⟩ := g_sat_c hs
          obtain ⟨h10, hs⟩ := g_sat_c hs
          refine g_blk 63 [(.aload_n 0, 0, 0, 0, 0), (.getfield 7, 7, 0, 0, 0), (.iload_n 1, 0, 0, 0, 0), (.iconst 1, 0, 0, 1, 0), (.iadd, 0, 0, 0, 0), (.iload 4, 0, 0, 0, 0), (.iadd, 0, 0, 0, 0), (.iaload, 0, 0, 0, 0), (.istore 5, 0, 0, 0, 0), (.aload_n 0, 0, 0, 0, 0), (.getfield 32, 7, 13, 0, 0), (.bipush 16, 0, 0, 16, 0), (.iload_n 2, 0, 0, 0, 0), (.imul, 0, 0, 0, 0), (.iload 4, 0, 0, 0, 0), (.iadd, 0, 0, 0, 0), (.iload 5, 0, 0, 0, 0), (.iastore, 0, 0, 0, 0), (.aload_n 0, 0, 0, 0, 0), (.getfield 38, 7, 15, 0, 0), (.bipush 16, 0, 0, 16, 0), (.iload_n 2, 0, 0, 0, 0), (.imul, 0, 0, 0, 0), (.iload 4, 0, 0, 0, 0), (.iadd, 0, 0, 0, 0), (.iload 5, 0, 0, 0, 0)] [vp_in ((a1 + (1 : Int32)) + b4_3) 105, vp_in (((16 : Int32) * a2) + b4_3) 32] [(5, .int (f_now (((a1 + (1 : Int32)) + b4_3)).toNatClampNeg)), (0, .ref 0), (1, .int a1), (2, .int a2), (3, .int (f_now a1.toNatClampNeg)), (4, .int b4_3)] [.int (f_now (((a1 + (1 : Int32)) + b4_3)).toNatClampNeg), .int (((16 : Int32) * a2) + b4_3), .ref 10] (HM f_undone f_letters f_showing f_spot f_tokenAt f_value w_laters_4 f_places f_guesses f_ways f_now f_past f_images f_isKept f_text f_shown f_read (upd w_letter_5 ((((16 : Int32) * a2) + b4_3)).toNatClampNeg (f_now (((a1 + (1 : Int32)) + b4_3)).toNatClampNeg)) f_sizes w_laterNumber_6 (upd f_many a2.toNatClampNeg (f_now a1.toNatClampNeg)) f_labelAt f_soAt f_meets f_wayFrom f_wayTo f_wayBy f_reach f_goesOn f_far f_round f_line f_guessAt) (by decide +kernel) rfl (g_and (g_inb_in h9) (g_and (g_inb_in h10) g_nil)) ?_
          refine g_pN (ct_M_isLater (f_now (((a1 + (1 : Int32)) + b4_3)).toNatClampNeg)) 131 1 lk_7_131 (by decide +kernel) rfl ⟨rfl, rfl, by decide, by decide⟩ [.int (((16 : Int32) * a2) + b4_3), .ref 10] rfl (Nat.le_of_ble_eq_true rfl) ?_
          have hJ17 : ∀ (v12 : Int32) (ev12 : v12 = (if (F_M_isLater (f_now (((a1 + (1 : Int32)) + b4_3)).toNatClampNeg)) = 0 then (-9 : Int32) else w_laters_4)), g_G X rm_M_laysFormula c_M_laysFormula 9 7 none 78 [(0, .ref 0), (1, .int a1), (2, .int a2), (3, .int (f_now a1.toNatClampNeg)), (4, .int b4_3), (5, .int (f_now (((a1 + (1 : Int32)) + b4_3)).toNatClampNeg))] [.int v12, .int (((16 : Int32) * a2) + b4_3), .ref 10] (HM f_undone f_letters f_showing f_spot f_tokenAt f_value w_laters_4 f_places f_guesses f_ways f_now f_past f_images f_isKept f_text f_shown f_read (upd w_letter_5 ((((16 : Int32) * a2) + b4_3)).toNatClampNeg (f_now (((a1 + (1 : Int32)) + b4_3)).toNatClampNeg)) f_sizes w_laterNumber_6 (upd f_many a2.toNatClampNeg (f_now a1.toNatClampNeg)) f_labelAt f_soAt f_meets f_wayFrom f_wayTo f_wayBy f_reach f_goesOn f_far f_round f_line f_guessAt) := by
            intro v12 ev12
            subst ev12
            obtain ⟨h13, hs⟩ := g_sat_c hs
            refine g_blk 86 [(.iastore, 0, 0, 0, 0), (.aload_n 0, 0, 0, 0, 0), (.dup, 0, 0, 0, 0), (.getfield 154, 7, 17, 0, 0), (.iload 5, 0, 0, 0, 0)] [vp_in (((16 : Int32) * a2) + b4_3) 32] [(0, .ref 0), (1, .int a1), (2, .int a2), (3, .int (f_now a1.toNatClampNeg)), (4, .int b4_3), (5, .int (f_now (((a1 + (1 : Int32)) + b4_3)).toNatClampNeg))] [.int (f_now (((a1 + (1 : Int32)) + b4_3)).toNatClampNeg), .int w_laters_4, .ref 0] (HM f_undone f_letters f_showing f_spot f_tokenAt f_value w_laters_4 f_places f_guesses f_ways f_now f_past f_images f_isKept f_text f_shown f_read (upd w_letter_5 ((((16 : Int32) * a2) + b4_3)).toNatClampNeg (f_now (((a1 + (1 : Int32)) + b4_3)).toNatClampNeg)) f_sizes (upd w_laterNumber_6 ((((16 : Int32) * a2) + b4_3)).toNatClampNeg (if (F_M_isLater (f_now (((a1 + (1 : Int32)) + b4_3)).toNatClampNeg)) = 0 then (-9 : Int32) else w_laters_4)) (upd f_many a2.toNatClampNeg (f_now a1.toNatClampNeg)) f_labelAt f_soAt f_meets f_wayFrom f_wayTo f_wayBy f_reach f_goesOn f_far f_round f_line f_guessAt) (by decide +kernel) rfl (g_and (g_inb_in h13) g_nil) ?_
            refine g_pN (ct_M_isLater (f_now (((a1 + (1 : Int32)) + b4_3)).toNatClampNeg)) 131 1 lk_7_131 (by decide +kernel) rfl ⟨rfl, rfl, by decide, by decide⟩ [.int w_laters_4, .ref 0] rfl (Nat.le_of_ble_eq_true rfl) ?_
            have hJ15 : ∀ (v15 : Int32) (ev15 : v15 = (if (F_M_isLater (f_now (((a1 + (1 : Int32)) + b4_3)).toNatClampNeg)) = 0 then (0 : Int32) else (1 : Int32))), g_G X rm_M_laysFormula c_M_laysFormula 9 7 none 97 [(0, .ref 0), (1, .int a1), (2, .int a2), (3, .int (f_now a1.toNatClampNeg)), (4, .int b4_3)] [.int v15, .int w_laters_4, .ref 0] (HM f_undone f_letters f_showing f_spot f_tokenAt f_value w_laters_4 f_places f_guesses f_ways f_now f_past f_images f_isKept f_text f_shown f_read (upd w_letter_5 ((((16 : Int32) * a2) + b4_3)).toNatClampNeg (f_now (((a1 + (1 : Int32)) + b4_3)).toNatClampNeg)) f_sizes (upd w_laterNumber_6 ((((16 : Int32) * a2) + b4_3)).toNatClampNeg (if (F_M_isLater (f_now (((a1 + (1 : Int32)) + b4_3)).toNatClampNeg)) = 0 then (-9 : Int32) else w_laters_4)) (upd f_many a2.toNatClampNeg (f_now a1.toNatClampNeg)) f_labelAt f_soAt f_meets f_wayFrom f_wayTo f_wayBy f_reach f_goesOn f_far f_round f_line f_guessAt) := by
              intro v15 ev15
              subst ev15
              refine g_blk 17 [(.iadd, 0, 0, 0, 0), (.putfield 154, 7, 17, 1, 0), (.iinc 4 1, 0, 0, 1, 0), (.goto (-87), 0, 0, 0, 0)] [] [(4, .int (b4_3 + (1 : Int32))), (0, .ref 0), (1, .int a1), (2, .int a2), (3, .int (f_now a1.toNatClampNeg))] [] (HM f_undone f_letters f_showing f_spot f_tokenAt f_value (w_laters_4 + (if (F_M_isLater (f_now (((a1 + (1 : Int32)) + b4_3)).toNatClampNeg)) = 0 then (0 : Int32) else (1 : Int32))) f_places f_guesses f_ways f_now f_past f_images f_isKept f_text f_shown f_read (upd w_letter_5 ((((16 : Int32) * a2) + b4_3)).toNatClampNeg (f_now (((a1 + (1 : Int32)) + b4_3)).toNatClampNeg)) f_sizes (upd w_laterNumber_6 ((((16 : Int32) * a2) + b4_3)).toNatClampNeg (if (F_M_isLater (f_now (((a1 + (1 : Int32)) + b4_3)).toNatClampNeg)) = 0 then (-9 : Int32) else w_laters_4)) (upd f_many a2.toNatClampNeg (f_now a1.toNatClampNeg)) f_labelAt f_soAt f_meets f_wayFrom f_wayTo f_wayBy f_reach f_goesOn f_far f_round f_line f_guessAt) (by decide +kernel) rfl g_nil ?_
              refine g_loc (L2 := [(0, .ref 0), (1, .int a1), (2, .int a2), (3, .int (f_now a1.toNatClampNeg)), (4, .int (b4_3 + (1 : Int32)))]) [1, 2, 3, 4, 0] rfl ?_
              exact ih _ _ _ _ hs
            refine g_br 96 (.ifCond .eq 7) ((F_M_isLater (f_now (((a1 + (1 : Int32)) + b4_3)).toNatClampNeg)) = 0) [.int w_laters_4, .ref 0] (by decide +kernel) rfl (fun c17 => ?_) (fun c17 => ?_)
            · refine g_blk 97 [(.iconst 0, 0, 0, 0, 0)] [] [(0, .ref 0), (1, .int a1), (2, .int a2), (3, .int (f_now a1.toNatClampNeg)), (4, .int b4_3), (5, .int (f_now (((a1 + (1 : Int32)) + b4_3)).toNatClampNeg))] [.int (0 : Int32), .int w_laters_4, .ref 0] (HM f_undone f_letters f_showing f_spot f_tokenAt f_value w_laters_4 f_places f_guesses f_ways f_now f_past f_images f_isKept f_text f_shown f_read (upd w_letter_5 ((((16 : Int32) * a2) + b4_3)).toNatClampNeg (f_now (((a1 + (1 : Int32)) + b4_3)).toNatClampNeg)) f_sizes (upd w_laterNumber_6 ((((16 : Int32) * a2) + b4_3)).toNatClampNeg (if (F_M_isLater (f_now (((a1 + (1 : Int32)) + b4_3)).toNatClampNeg)) = 0 then (-9 : Int32) else w_laters_4)) (upd f_many a2.toNatClampNeg (f_now a1.toNatClampNeg)) f_labelAt f_soAt f_meets f_wayFrom f_wayTo f_wayBy f_reach f_goesOn f_far f_round f_line f_guessAt) (by decide +kernel) rfl g_nil ?_
              refine g_loc (L2 := [(0, .ref 0), (1, .int a1), (2, .int a2), (3, .int (f_now a1.toNatClampNeg)), (4, .int b4_3)]) [0, 1, 2, 3, 4] rfl ?_
              exact hJ15 _ (by rw [if_pos c17])
            · refine g_blk 97 [(.iconst 1, 0, 0, 1, 0), (.goto 4, 0, 0, 0, 0)] [] [(0, .ref 0), (1, .int a1), (2, .int a2), (3, .int (f_now a1.toNatClampNeg)), (4, .int b4_3), (5, .int (f_now (((a1 + (1 : Int32)) + b4_3)).toNatClampNeg))] [.int (1 : Int32), .int w_laters_4, .ref 0] (HM f_undone f_letters f_showing f_spot f_tokenAt f_value w_laters_4 f_places f_guesses f_ways f_now f_past f_images f_isKept f_text f_shown f_read (upd w_letter_5 ((((16 : Int32) * a2) + b4_3)).toNatClampNeg (f_now (((a1 + (1 : Int32)) + b4_3)).toNatClampNeg)) f_sizes (upd w_laterNumber_6 ((((16 : Int32) * a2) + b4_3)).toNatClampNeg (if (F_M_isLater (f_now (((a1 + (1 : Int32)) + b4_3)).toNatClampNeg)) = 0 then (-9 : Int32) else w_laters_4)) (upd f_many a2.toNatClampNeg (f_now a1.toNatClampNeg)) f_labelAt f_soAt f_meets f_wayFrom f_wayTo f_wayBy f_reach f_goesOn f_far f_round f_line f_guessAt) (by decide +kernel) rfl g_nil ?_
              refine g_loc (L2 := [(0, .ref 0), (1, .int a1), (2, .int a2), (3, .int (f_now a1.toNatClampNeg)), (4, .int b4_3)]) [0, 1, 2, 3, 4] rfl ?_
              exact hJ15 _ (by rw [if_neg c17])
          refine g_br 76 (.ifCond .eq 10) ((F_M_isLater (f_now (((a1 + (1 : Int32)) + b4_3)).toNatClampNeg)) = 0) [.int (((16 : Int32) * a2) + b4_3), .ref 10] (by decide +kernel) rfl (fun c19 => ?_) (fun c19 => ?_)
          · refine g_blk 78 [(.bipush (-9), 0, 0, (-9), 0)] [] [(5, .int (f_now (((a1 + (1 : Int32)) + b4_3)).toNatClampNeg)), (0, .ref 0), (1, .int a1), (2, .int a2), (3, .int (f_now a1.toNatClampNeg)), (4, .int b4_3)] [.int (-9 : Int32), .int (((16 : Int32) * a2) + b4_3), .ref 10] (HM f_undone f_letters f_showing f_spot f_tokenAt f_value w_laters_4 f_places f_guesses f_ways f_now f_past f_images f_isKept f_text f_shown f_read (upd w_letter_5 ((((16 : Int32) * a2) + b4_3)).toNatClampNeg (f_now (((a1 + (1 : Int32)) + b4_3)).toNatClampNeg)) f_sizes w_laterNumber_6 (upd f_many a2.toNatClampNeg (f_now a1.toNatClampNeg)) f_labelAt f_soAt f_meets f_wayFrom f_wayTo f_wayBy f_reach f_goesOn f_far f_round f_line f_guessAt) (by decide +kernel) rfl g_nil ?_
            refine g_loc (L2 := [(0, .ref 0), (1, .int a1), (2, .int a2), (3, .int (f_now a1.toNatClampNeg)), (4, .int b4_3), (5, .int (f_now (((a1 + (1 : Int32)) + b4_3)).toNatClampNeg))]) [1, 2, 3, 4, 5, 0] rfl ?_
            exact hJ17 _ (by rw [if_pos c19])
          · refine g_blk 78 [(.aload_n 0, 0, 0, 0, 0), (.getfield 154, 7, 17, 0, 0), (.goto 5, 0, 0, 0, 0)] [] [(5, .int (f_now (((a1 + (1 : Int32)) + b4_3)).toNatClampNeg)), (0, .ref 0), (1, .int a1), (2, .int a2), (3, .int (f_now a1.toNatClampNeg)), (4, .int b4_3)] [.int w_laters_4, .int (((16 : Int32) * a2) + b4_3), .ref 10] (HM f_undone f_letters f_showing f_spot f_tokenAt f_value w_laters_4 f_places f_guesses f_ways f_now f_past f_images f_isKept f_text f_shown f_read (upd w_letter_5 ((((16 : Int32) * a2) + b4_3)).toNatClampNeg (f_now (((a1 + (1 : Int32)) + b4_3)).toNatClampNeg)) f_sizes w_laterNumber_6 (upd f_many a2.toNatClampNeg (f_now a1.toNatClampNeg)) f_labelAt f_soAt f_meets f_wayFrom f_wayTo f_wayBy f_reach f_goesOn f_far f_round f_line f_guessAt) (by decide +kernel) rfl g_nil ?_
            refine g_loc (L2 := [(0, .ref 0), (1, .int a1), (2, .int a2), (3, .int (f_now a1.toNatClampNeg)), (4, .int b4_3), (5, .int (f_now (((a1 + (1 : Int32)) + b4_3)).toNatClampNeg))]) [1, 2, 3, 4, 5, 0] rfl ?_
            exact hJ17 _ (by rw [if_neg c19])
    exact hlM_laysFormula_l1 N _ _ _ _ hs
