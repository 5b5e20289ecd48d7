abbrev rm_M_judgedAt : Room := { frames := 4, cells := 0, slots := 0, locals := 108 }
def M_judgedAt_l1 (f_showing : Int32) : Nat → Int32 → (Nat → Int32) → Option (Nat → Int32)
  | 0, _, _ => none
  | n + 1, b2_2, w_guessAt_3 => (if f_showing ≤ b2_2 then (some w_guessAt_3) else (g_chk (g_inb b2_2 8) (M_judgedAt_l1 f_showing n (b2_2 + (1 : Int32)) (upd w_guessAt_3 b2_2.toNatClampNeg (0 : Int32)))))
theorem M_judgedAt_l1_s (f_showing : Int32) (n : Nat) (b2_2 : Int32) (w_guessAt_3 : Nat → Int32) : M_judgedAt_l1 f_showing (n + 1) b2_2 w_guessAt_3 = (if f_showing ≤ b2_2 then (some w_guessAt_3) else (g_chk (g_inb b2_2 8) (M_judgedAt_l1 f_showing n (b2_2 + (1 : Int32)) (upd w_guessAt_3 b2_2.toNatClampNeg (0 : Int32))))) := rfl
def M_judgedAt_l2 (N : Nat) (o1 : Int32 × (Nat → Int32) × (Nat → Int32) × (Nat → Int32) × (Nat → Int32)) (f_showing : Int32) (f_shown : Nat → Int32) (a1 : Int32) : Nat → Int32 → (Nat → Int32) → Option (Nat → Int32)
  | 0, _, _ => none
  | n + 1, b2_7, w_guessAt_8 => (if b2_7 < 0 then (some w_guessAt_8) else (g_chk (g_inb b2_7 32) ((if (o1.2.2.2.1 b2_7.toNatClampNeg) = (-9 : Int32) then (some w_guessAt_8) else ((F_M_tellsLater N f_showing f_shown o1.2.1 o1.2.2.1 o1.2.2.2.1 o1.2.2.2.2 w_guessAt_8 b2_7 a1).bind fun o14 => (some o14))).bind fun o13 => (M_judgedAt_l2 N o1 f_showing f_shown a1 n (b2_7 + (-1 : Int32)) o13))))
theorem M_judgedAt_l2_s (N : Nat) (o1 : Int32 × (Nat → Int32) × (Nat → Int32) × (Nat → Int32) × (Nat → Int32)) (f_showing : Int32) (f_shown : Nat → Int32) (a1 : Int32) (n : Nat) (b2_7 : Int32) (w_guessAt_8 : Nat → Int32) : M_judgedAt_l2 N o1 f_showing f_shown a1 (n + 1) b2_7 w_guessAt_8 = (if b2_7 < 0 then (some w_guessAt_8) else (g_chk (g_inb b2_7 32) ((if (o1.2.2.2.1 b2_7.toNatClampNeg) = (-9 : Int32) then (some w_guessAt_8) else ((F_M_tellsLater N f_showing f_shown o1.2.1 o1.2.2.1 o1.2.2.2.1 o1.2.2.2.2 w_guessAt_8 b2_7 a1).bind fun o14 => (some o14))).bind fun o13 => (M_judgedAt_l2 N o1 f_showing f_shown a1 n (b2_7 + (-1 : Int32)) o13)))) := rfl
def F_M_judgedAt (N : Nat) (f_showing : Int32) (f_now : Nat → Int32) (f_shown : Nat → Int32) (f_letter : Nat → Int32) (f_sizes : Nat → Int32) (f_laterNumber : Nat → Int32) (f_many : Nat → Int32) (f_guessAt : Nat → Int32) (a1 : Int32) : Option (Int32 × Int32 × (Nat → Int32) × (Nat → Int32) × (Nat → Int32) × (Nat → Int32) × (Nat → Int32)) := ((F_M_laysOne N f_now f_letter f_sizes f_laterNumber f_many).bind fun o1 => ((M_judgedAt_l1 f_showing N (0 : Int32) f_guessAt).bind fun o4 => ((M_judgedAt_l2 N o1 f_showing f_shown a1 N ((o1.2.2.2.2 0) - (1 : Int32)) o4).bind fun o9 => ((F_M_partsAt N o1.2.1 o1.2.2.1 o1.2.2.2.1 o1.2.2.2.2 (0 : Int32) (f_shown 0) (o9 0)).bind fun o15 => (some ((o15 &&& (1 : Int32)), o1.1, o1.2.1, o1.2.2.1, o1.2.2.2.1, o1.2.2.2.2, o9))))))
set_option maxRecDepth 100000 in
theorem ct_M_judgedAt (N : Nat) (f_undone : Int32) (f_letters : Int32) (f_showing : Int32) (f_spot : Int32) (f_tokenAt : Int32) (f_value : Int32) (f_laters : Int32) (f_places : Int32) (f_guesses : Int32) (f_ways : Int32) (f_now : Nat → Int32) (f_past : Nat → Int32) (f_images : Nat → Int32) (f_isKept : Nat → Int32) (f_text : Nat → Int32) (f_shown : Nat → Int32) (f_read : Nat → Int32) (f_letter : Nat → Int32) (f_sizes : Nat → Int32) (f_laterNumber : Nat → Int32) (f_many : Nat → Int32) (f_labelAt : Nat → Int32) (f_soAt : Nat → Int32) (f_meets : Nat → Int32) (f_wayFrom : Nat → Int32) (f_wayTo : Nat → Int32) (f_wayBy : Nat → Int32) (f_reach : Nat → Int64) (f_goesOn : Nat → Int32) (f_far : Nat → Int32) (f_round : Nat → Int32) (f_line : Nat → Int32) (f_guessAt : Nat → Int32) (a1 : Int32) : g_F y_M_judgedAt c_M_judgedAt 3 (some .int) rm_M_judgedAt [.ref 0, .int a1] (HM f_undone f_letters f_showing f_spot f_tokenAt f_value f_laters f_places f_guesses f_ways f_now f_past f_images f_isKept f_text f_shown f_read f_letter f_sizes f_laterNumber f_many f_labelAt f_soAt f_meets f_wayFrom f_wayTo f_wayBy f_reach f_goesOn f_far f_round f_line f_guessAt) (F_M_judgedAt N f_showing f_now f_shown f_letter f_sizes f_laterNumber f_many f_guessAt a1) (fun o => some (.int o.1)) (fun o => (HM f_undone f_letters f_showing f_spot f_tokenAt f_value o.2.1 f_places f_guesses f_ways f_now f_past f_images f_isKept f_text f_shown f_read o.2.2.1 o.2.2.2.1 o.2.2.2.2.1 o.2.2.2.2.2.1 f_labelAt f_soAt f_meets f_wayFrom f_wayTo f_wayBy f_reach f_goesOn f_far f_round f_line o.2.2.2.2.2.2)) := by
  intro l P hs
  refine g_ofG 7 (by decide +kernel) rfl (Nat.le_of_ble_eq_true rfl) (fun X hX => ?_)
  unfold F_M_judgedAt at hs
  refine g_loc (L2 := [(0, .ref 0), (1, .int a1)]) [0, 1] rfl ?_
  refine g_blk 1 [(.aload_n 0, 0, 0, 0, 0)] [] [(0, .ref 0), (1, .int a1)] [.ref 0] (HM f_undone f_letters f_showing f_spot f_tokenAt f_value f_laters f_places f_guesses f_ways f_now f_past f_images f_isKept f_text f_shown f_read f_letter f_sizes f_laterNumber f_many f_labelAt f_soAt f_meets f_wayFrom f_wayTo f_wayBy f_reach f_goesOn f_far f_round f_line f_guessAt) (by decide +kernel) rfl g_nil ?_
  refine g_fM (ct_M_laysOne N f_undone f_letters f_showing f_spot f_tokenAt f_value f_laters f_places f_guesses f_ways f_now f_past f_images f_isKept f_text f_shown f_read f_letter f_sizes f_laterNumber f_many f_labelAt f_soAt f_meets f_wayFrom f_wayTo f_wayBy f_reach f_goesOn f_far f_round f_line f_guessAt) 161 true 0 lk_7_161 (by decide +kernel) rfl ⟨rfl, rfl, by decide, by decide⟩ [] rfl (Nat.le_of_ble_eq_true rfl) (fun _ => ⟨0, 7, _, rfl, rfl, by decide, rfl⟩) hs (fun o1 hs => ?_)
  refine g_blk 6 [(.iconst 0, 0, 0, 0, 0), (.istore_n 2, 0, 0, 0, 0)] [] [(2, .int (0 : Int32)), (0, .ref 0), (1, .int a1)] [] (HM f_undone f_letters f_showing f_spot f_tokenAt f_value o1.1 f_places f_guesses f_ways f_now f_past f_images f_isKept f_text f_shown f_read o1.2.1 o1.2.2.1 o1.2.2.2.1 o1.2.2.2.2 f_labelAt f_soAt f_meets f_wayFrom f_wayTo f_wayBy f_reach f_goesOn f_far f_round f_line f_guessAt) (by decide +kernel) rfl g_nil ?_
  refine g_loc (L2 := [(0, .ref 0), (1, .int a1), (2, .int (0 : Int32))]) [1, 2, 0] rfl ?_
  refine g_join (fun (o4 : Nat → Int32) => g_G X rm_M_judgedAt c_M_judgedAt 3 7 (some .int) 27 [(0, .ref 0), (1, .int a1)] [] (HM f_undone f_letters f_showing f_spot f_tokenAt f_value o1.1 f_places f_guesses f_ways f_now f_past f_images f_isKept f_text f_shown f_read o1.2.1 o1.2.2.1 o1.2.2.2.1 o1.2.2.2.2 f_labelAt f_soAt f_meets f_wayFrom f_wayTo f_wayBy f_reach f_goesOn f_far f_round f_line o4)) hs (fun o4 hs => ?_) (fun hs => ?_)
  · refine g_blk 36 [(.aload_n 0, 0, 0, 0, 0), (.getfield 41, 7, 16, 0, 0), (.iconst 0, 0, 0, 0, 0), (.iaload, 0, 0, 0, 0), (.iconst 1, 0, 0, 1, 0), (.isub, 0, 0, 0, 0), (.istore_n 2, 0, 0, 0, 0)] [vp_in (0 : Int32) 2] [(2, .int ((o1.2.2.2.2 0) - (1 : Int32))), (0, .ref 0), (1, .int a1)] [] (HM f_undone f_letters f_showing f_spot f_tokenAt f_value o1.1 f_places f_guesses f_ways f_now f_past f_images f_isKept f_text f_shown f_read o1.2.1 o1.2.2.1 o1.2.2.2.1 o1.2.2.2.2 f_labelAt f_soAt f_meets f_wayFrom f_wayTo f_wayBy f_reach f_goesOn f_far f_round f_line o4) (by decide +kernel) rfl (g_and (g_inb_in (by decide +kernel)) g_nil) ?_
    refine g_loc (L2 := [(0, .ref 0), (1, .int a1), (2, .int ((o1.2.2.2.2 0) - (1 : Int32)))]) [1, 2, 0] rfl ?_
    refine g_join (fun (o9 : Nat → Int32) => g_G X rm_M_judgedAt c_M_judgedAt 3 7 (some .int) 63 [(0, .ref 0)] [] (HM f_undone f_letters f_showing f_spot f_tokenAt f_value o1.1 f_places f_guesses f_ways f_now f_past f_images f_isKept f_text f_shown f_read o1.2.1 o1.2.2.1 o1.2.2.2.1 o1.2.2.2.2 f_labelAt f_soAt f_meets f_wayFrom f_wayTo f_wayBy f_reach f_goesOn f_far f_round f_line o9)) hs (fun o9 hs => ?_) (fun hs => ?_)
    · refine g_blk 77 [(.aload_n 0, 0, 0, 0, 0), (.iconst 0, 0, 0, 0, 0), (.aload_n 0, 0, 0, 0, 0), (.getfield 26, 7, 7, 0, 0), (.iconst 0, 0, 0, 0, 0), (.iaload, 0, 0, 0, 0), (.aload_n 0, 0, 0, 0, 0), (.getfield 78, 7, 32, 0, 0), (.iconst 0, 0, 0, 0, 0), (.iaload, 0, 0, 0, 0)] [vp_in (0 : Int32) 8, vp_in (0 : Int32) 8] [(0, .ref 0)] [.int (o9 0), .int (f_shown 0), .int (0 : Int32), .ref 0] (HM f_undone f_letters f_showing f_spot f_tokenAt f_value o1.1 f_places f_guesses f_ways f_now f_past f_images f_isKept f_text f_shown f_read o1.2.1 o1.2.2.1 o1.2.2.2.1 o1.2.2.2.2 f_labelAt f_soAt f_meets f_wayFrom f_wayTo f_wayBy f_reach f_goesOn f_far f_round f_line o9) (by decide +kernel) rfl (g_and (g_inb_in (by decide +kernel)) (g_and (g_inb_in (by decide +kernel)) g_nil)) ?_
      refine g_fM (ct_M_partsAt N f_undone f_letters f_showing f_spot f_tokenAt f_value o1.1 f_places f_guesses f_ways f_now f_past f_images f_isKept f_text f_shown f_read o1.2.1 o1.2.2.1 o1.2.2.2.1 o1.2.2.2.2 f_labelAt f_soAt f_meets f_wayFrom f_wayTo f_wayBy f_reach f_goesOn f_far f_round f_line o9 (0 : Int32) (f_shown 0) (o9 0)) 185 true 3 lk_7_185 (by decide +kernel) rfl ⟨rfl, rfl, by decide, by decide⟩ [] rfl (Nat.le_of_ble_eq_true rfl) (fun _ => ⟨0, 7, _, rfl, rfl, by decide, rfl⟩) hs (fun o15 hs => ?_)
      refine g_blk 82 [(.iconst 1, 0, 0, 1, 0), (.iand, 0, 0, 0, 0)] [] [(0, .ref 0)] [.int (o15 &&& (1 : Int32))] (HM f_undone f_letters f_showing f_spot f_tokenAt f_value o1.1 f_places f_guesses f_ways f_now f_past f_images f_isKept f_text f_shown f_read o1.2.1 o1.2.2.1 o1.2.2.2.1 o1.2.2.2.2 f_labelAt f_soAt f_meets f_wayFrom f_wayTo f_wayBy f_reach f_goesOn f_far f_round f_line o9) (by decide +kernel) rfl g_nil ?_
      have hq := g_sat_s hs
      exact g_iret hX (by decide +kernel) rfl hq
    · have hlM_judgedAt_l2 : ∀ (n : Nat) (b2_7 : Int32) (w_guessAt_8 : Nat → Int32), g_sat (M_judgedAt_l2 N o1 f_showing f_shown a1 n b2_7 w_guessAt_8) (fun (o9 : Nat → Int32) => g_G X rm_M_judgedAt c_M_judgedAt 3 7 (some .int) 63 [(0, .ref 0)] [] (HM f_undone f_letters f_showing f_spot f_tokenAt f_value o1.1 f_places f_guesses f_ways f_now f_past f_images f_isKept f_text f_shown f_read o1.2.1 o1.2.2.1 o1.2.2.2.1 o1.2.2.2.2 f_labelAt f_soAt f_meets f_wayFrom f_wayTo f_wayBy f_reach f_goesOn f_far f_round f_line o9)) → g_G X rm_M_judgedAt c_M_judgedAt 3 7 (some .int) 36 [(0, .ref 0), (1, .int a1), (2, .int b2_7)] [] (HM f_undone f_letters f_showing f_spot f_tokenAt f_value o1.1 f_places f_guesses f_ways f_now f_past f_images f_isKept f_text f_shown f_read o1.2.1 o1.2.2.1 o1.2.2.2.1 o1.2.2.2.2 f_labelAt f_soAt f_meets f_wayFrom f_wayTo f_wayBy f_reach f_goesOn f_far f_round f_line w_guessAt_8) := by
        intro n
        induction n with
        | zero =>
          intro b2_7 w_guessAt_8 hs
          obtain ⟨_, h0, _⟩ := hs
          cases h0
        | succ n ih =>
          intro b2_7 w_guessAt_8 hs
          rw [M_judgedAt_l2_s] at hs
          refine g_blk 37 [(.iload_n 2, 0, 0, 0, 0)] [] [(0, .ref 0), (1, .int a1), (2, .int b2_7)] [.int b2_7] (HM f_undone f_letters f_showing f_spot f_tokenAt f_value o1.1 f_places f_guesses f_ways f_now f_past f_images f_isKept f_text f_shown f_read o1.2.1 o1.2.2.1 o1.2.2.2.1 o1.2.2.2.2 f_labelAt f_soAt f_meets f_wayFrom f_wayTo f_wayBy f_reach f_goesOn f_far f_round f_line w_guessAt_8) (by decide +kernel) rfl g_nil ?_
          refine g_br 63 (.ifCond .lt 26) (b2_7 < 0) [] (by decide +kernel) rfl (fun c10 => ?_) (fun c10 => ?_)
          · have hs := g_sat_t hs c10
            refine g_loc (L2 := [(0, .ref 0)]) [0] rfl ?_
            have hq := g_sat_s hs
            exact hq
          · have hs := g_sat_f hs c10
            obtain ⟨h11, hs⟩ := g_sat_c hs
            refine g_blk 48 [(.aload_n 0, 0, 0, 0, 0), (.getfield 38, 7, 15, 0, 0), (.iload_n 2, 0, 0, 0, 0), (.iaload, 0, 0, 0, 0), (.bipush (-9), 0, 0, (-9), 0)] [vp_in b2_7 32] [(0, .ref 0), (1, .int a1), (2, .int b2_7)] [.int (-9 : Int32), .int (o1.2.2.2.1 b2_7.toNatClampNeg)] (HM f_undone f_letters f_showing f_spot f_tokenAt f_value o1.1 f_places f_guesses f_ways f_now f_past f_images f_isKept f_text f_shown f_read o1.2.1 o1.2.2.1 o1.2.2.2.1 o1.2.2.2.2 f_labelAt f_soAt f_meets f_wayFrom f_wayTo f_wayBy f_reach f_goesOn f_far f_round f_line w_guessAt_8) (by decide +kernel) rfl (g_and (g_inb_in h11) g_nil) ?_
            refine g_join (fun (o13 : Nat → Int32) => g_G X rm_M_judgedAt c_M_judgedAt 3 7 (some .int) 57 [(0, .ref 0), (1, .int a1), (2, .int b2_7)] [] (HM f_undone f_letters f_showing f_spot f_tokenAt f_value o1.1 f_places f_guesses f_ways f_now f_past f_images f_isKept f_text f_shown f_read o1.2.1 o1.2.2.1 o1.2.2.2.1 o1.2.2.2.2 f_labelAt f_soAt f_meets f_wayFrom f_wayTo f_wayBy f_reach f_goesOn f_far f_round f_line o13)) hs (fun o13 hs => ?_) (fun hs => ?_)
            · refine g_blk 36 [(.iinc 2 (-1), 0, 0, (-1), 0), (.goto (-24), 0, 0, 0, 0)] [] [(2, .int (b2_7 + (-1 : Int32))), (0, .ref 0), (1, .int a1)] [] (HM f_undone f_letters f_showing f_spot f_tokenAt f_value o1.1 f_places f_guesses f_ways f_now f_past f_images f_isKept f_text f_shown f_read o1.2.1 o1.2.2.1 o1.2.2.2.1 o1.2.2.2.2 f_labelAt f_soAt f_meets f_wayFrom f_wayTo f_wayBy f_reach f_goesOn f_far f_round f_line o13) (by decide +kernel) rfl g_nil ?_
              refine g_loc (L2 := [(0, .ref 0), (1, .int a1), (2, .int (b2_7 + (-1 : Int32)))]) [1, 2, 0] rfl ?_
              exact ih _ _ hs
            · refine g_br 57 (.if_icmp .eq 9) ((o1.2.2.2.1 b2_7.toNatClampNeg) = (-9 : Int32)) [] (by decide +kernel) rfl (fun c12 => ?_) (fun c12 => ?_)
              · have hs := g_sat_t hs c12
                have hq := g_sat_s hs
                exact hq
              · have hs := g_sat_f hs c12
                refine g_blk 54 [(.aload_n 0, 0, 0, 0, 0), (.iload_n 2, 0, 0, 0, 0), (.iload_n 1, 0, 0, 0, 0)] [] [(0, .ref 0), (1, .int a1), (2, .int b2_7)] [.int a1, .int b2_7, .ref 0] (HM f_undone f_letters f_showing f_spot f_tokenAt f_value o1.1 f_places f_guesses f_ways f_now f_past f_images f_isKept f_text f_shown f_read o1.2.1 o1.2.2.1 o1.2.2.2.1 o1.2.2.2.2 f_labelAt f_soAt f_meets f_wayFrom f_wayTo f_wayBy f_reach f_goesOn f_far f_round f_line w_guessAt_8) (by decide +kernel) rfl g_nil ?_
                refine g_fM (ct_M_tellsLater N f_undone f_letters f_showing f_spot f_tokenAt f_value o1.1 f_places f_guesses f_ways f_now f_past f_images f_isKept f_text f_shown f_read o1.2.1 o1.2.2.1 o1.2.2.2.1 o1.2.2.2.2 f_labelAt f_soAt f_meets f_wayFrom f_wayTo f_wayBy f_reach f_goesOn f_far f_round f_line w_guessAt_8 b2_7 a1) 253 true 2 lk_7_253 (by decide +kernel) rfl ⟨rfl, rfl, by decide, by decide⟩ [] rfl (Nat.le_of_ble_eq_true rfl) (fun _ => ⟨0, 7, _, rfl, rfl, by decide, rfl⟩) hs (fun o14 hs => ?_)
                have hq := g_sat_s hs
                exact hq
      exact hlM_judgedAt_l2 N _ _ hs
  · have hlM_judgedAt_l1 : ∀ (n : Nat) (b2_2 : Int32) (w_guessAt_3 : Nat → Int32), g_sat (M_judgedAt_l1 f_showing n b2_2 w_guessAt_3) (fun (o4 : Nat → Int32) => g_G X rm_M_judgedAt c_M_judgedAt 3 7 (some .int) 27 [(0, .ref 0), (1, .int a1)] [] (HM f_undone f_letters f_showing f_spot f_tokenAt f_value o1.1 f_places f_guesses f_ways f_now f_past f_images f_isKept f_text f_shown f_read o1.2.1 o1.2.2.1 o1.2.2.2.1 o1.2.2.2.2 f_labelAt f_soAt f_meets f_wayFrom f_wayTo f_wayBy f_reach f_goesOn f_far f_round f_line o4)) → g_G X rm_M_judgedAt c_M_judgedAt 3 7 (some .int) 6 [(0, .ref 0), (1, .int a1), (2, .int b2_2)] [] (HM f_undone f_letters f_showing f_spot f_tokenAt f_value o1.1 f_places f_guesses f_ways f_now f_past f_images f_isKept f_text f_shown f_read o1.2.1 o1.2.2.1 o1.2.2.2.1 o1.2.2.2.2 f_labelAt f_soAt f_meets f_wayFrom f_wayTo f_wayBy f_reach f_goesOn f_far f_round f_line w_guessAt_3) := by
      intro n
      induction n with
      | zero =>
        intro b2_2 w_guessAt_3 hs
        obtain ⟨_, h0, _⟩ := hs
        cases h0
      | succ n ih =>
        intro b2_2 w_guessAt_3 hs
        rw [M_judgedAt_l1_s] at hs
        refine g_blk 11 [(.iload_n 2, 0, 0, 0, 0), (.aload_n 0, 0, 0, 0, 0), (.getfield 250, 7, 8, 0, 0)] [] [(0, .ref 0), (1, .int a1), (2, .int b2_2)] [.int f_showing, .int b2_2] (HM f_undone f_letters f_showing f_spot f_tokenAt f_value o1.1 f_places f_guesses f_ways f_now f_past f_images f_isKept f_text f_shown f_read o1.2.1 o1.2.2.1 o1.2.2.2.1 o1.2.2.2.2 f_labelAt f_soAt f_meets f_wayFrom f_wayTo f_wayBy f_reach f_goesOn f_far f_round f_line w_guessAt_3) (by decide +kernel) rfl g_nil ?_
        refine g_br 27 (.if_icmp .ge 16) (f_showing ≤ b2_2) [] (by decide +kernel) rfl (fun c5 => ?_) (fun c5 => ?_)
        · have hs := g_sat_t hs c5
          refine g_loc (L2 := [(0, .ref 0), (1, .int a1)]) [0, 1] rfl ?_
          have hq := g_sat_s hs
          exact hq
        · have hs := g_sat_f hs c5
          obtain ⟨h6, hs⟩ := g_sat_c hs
          refine g_blk 6 [(.aload_n 0, 0, 0, 0, 0), (.getfield 78, 7, 32, 0, 0), (.iload_n 2, 0, 0, 0, 0), (.iconst 0, 0, 0, 0, 0), (.iastore, 0, 0, 0, 0), (.iinc 2 1, 0, 0, 1, 0), (.goto (-18), 0, 0, 0, 0)] [vp_in b2_2 8] [(2, .int (b2_2 + (1 : Int32))), (0, .ref 0), (1, .int a1)] [] (HM f_undone f_letters f_showing f_spot f_tokenAt f_value o1.1 f_places f_guesses f_ways f_now f_past f_images f_isKept f_text f_shown f_read o1.2.1 o1.2.2.1 o1.2.2.2.1 o1.2.2.2.2 f_labelAt f_soAt f_meets f_wayFrom f_wayTo f_wayBy f_reach f_goesOn f_far f_round f_line (upd w_guessAt_3 b2_2.toNatClampNeg (0 : Int32))) (by decide +kernel) rfl (g_and (g_inb_in h6) g_nil) ?_
          refine g_loc (L2 := [(0, .ref 0), (1, .int a1), (2, .int (b2_2 + (1 : Int32)))]) [1, 2, 0] rfl ?_
          exact ih _ _ hs
    exact hlM_judgedAt_l1 N _ _ hs
abbrev rm_M_judged : Room := { frames := 5, cells := 0, slots := 0, locals := 130 }
def F_M_judged (N : Nat) (f_showing : Int32) (f_laters : Int32) (f_now : Nat → Int32) (f_shown : Nat → Int32) (f_letter : Nat → Int32) (f_sizes : Nat → Int32) (f_laterNumber : Nat → Int32) (f_many : Nat → Int32) (f_guessAt : Nat → Int32) (a1 : Int32) : Option (Int32 × Int32 × (Nat → Int32) × (Nat → Int32) × (Nat → Int32) × (Nat → Int32) × (Nat → Int32)) := ((if (F_M_in a1 (0 : Int32) (f_showing - (1 : Int32))) = 0 then (some ((-1 : Int32), f_laters, f_letter, f_sizes, f_laterNumber, f_many, f_guessAt)) else ((F_M_judgedAt N f_showing f_now f_shown f_letter f_sizes f_laterNumber f_many f_guessAt a1).bind fun o3 => (some (o3.1, o3.2.1, o3.2.2.1, o3.2.2.2.1, o3.2.2.2.2.1, o3.2.2.2.2.2.1, o3.2.2.2.2.2.2)))).bind fun o2 => (some (o2.1, o2.2.1, o2.2.2.1, o2.2.2.2.1, o2.2.2.2.2.1, o2.2.2.2.2.2.1, o2.2.2.2.2.2.2)))
set_option maxRecDepth 100000 in
theorem ct_M_judged (N : Nat) (f_undone : Int32) (f_letters : Int32) (f_showing : Int32) (f_spot : Int32) (f_tokenAt : Int32) (f_value : Int32) (f_laters : Int32) (f_places : Int32) (f_guesses : Int32) (f_ways : Int32) (f_now : Nat → Int32) (f_past : Nat → Int32) (f_images : Nat → Int32) (f_isKept : Nat → Int32) (f_text : Nat → Int32) (f_shown : Nat → Int32) (f_read : Nat → Int32) (f_letter : Nat → Int32) (f_sizes : Nat → Int32) (f_laterNumber : Nat → Int32) (f_many : Nat → Int32) (f_labelAt : Nat → Int32) (f_soAt : Nat → Int32) (f_meets : Nat → Int32) (f_wayFrom : Nat → Int32) (f_wayTo : Nat → Int32) (f_wayBy : Nat → Int32) (f_reach : Nat → Int64) (f_goesOn : Nat → Int32) (f_far : Nat → Int32) (f_round : Nat → Int32) (f_line : Nat → Int32) (f_guessAt : Nat → Int32) (a1 : Int32) : g_F y_M_judged c_M_judged 2 (some .int) rm_M_judged [.ref 0, .int a1] (HM f_undone f_letters f_showing f_spot f_tokenAt f_value f_laters f_places f_guesses f_ways f_now f_past f_images f_isKept f_text f_shown f_read f_letter f_sizes f_laterNumber f_many f_labelAt f_soAt f_meets f_wayFrom f_wayTo f_wayBy f_reach f_goesOn f_far f_round f_line f_guessAt) (F_M_judged N f_showing f_laters f_now f_shown f_letter f_sizes f_laterNumber f_many f_guessAt a1) (fun o => some (.int o.1)) (fun o => (HM f_undone f_letters f_showing f_spot f_tokenAt f_value o.2.1 f_places f_guesses f_ways f_now f_past f_images f_isKept f_text f_shown f_read o.2.2.1 o.2.2.2.1 o.2.2.2.2.1 o.2.2.2.2.2.1 f_labelAt f_soAt f_meets f_wayFrom f_wayTo f_wayBy f_reach f_goesOn f_far f_round f_line o.2.2.2.2.2.2)) := by
  intro l P hs
  refine g_ofG 7 (by decide +kernel) rfl (Nat.le_of_ble_eq_true rfl) (fun X hX => ?_)
  unfold F_M_judged at hs
  refine g_loc (L2 := [(0, .ref 0), (1, .int a1)]) [0, 1] rfl ?_
  refine g_blk 8 [(.iload_n 1, 0, 0, 0, 0), (.iconst 0, 0, 0, 0, 0), (.aload_n 0, 0, 0, 0, 0), (.getfield 250, 7, 8, 0, 0), (.iconst 1, 0, 0, 1, 0), (.isub, 0, 0, 0, 0)] [] [(0, .ref 0), (1, .int a1)] [.int (f_showing - (1 : Int32)), .int (0 : Int32), .int a1] (HM f_undone f_letters f_showing f_spot f_tokenAt f_value f_laters f_places f_guesses f_ways f_now f_past f_images f_isKept f_text f_shown f_read f_letter f_sizes f_laterNumber f_many f_labelAt f_soAt f_meets f_wayFrom f_wayTo f_wayBy f_reach f_goesOn f_far f_round f_line f_guessAt) (by decide +kernel) rfl g_nil ?_
  refine g_pN (ct_M_in a1 (0 : Int32) (f_showing - (1 : Int32))) 85 3 lk_7_85 (by decide +kernel) rfl ⟨rfl, rfl, by decide, by decide⟩ [] rfl (Nat.le_of_ble_eq_true rfl) ?_
  refine g_join (fun (o2 : Int32 × Int32 × (Nat → Int32) × (Nat → Int32) × (Nat → Int32) × (Nat → Int32) × (Nat → Int32)) => g_G X rm_M_judged c_M_judged 2 7 (some .int) 23 [] [.int o2.1] (HM f_undone f_letters f_showing f_spot f_tokenAt f_value o2.2.1 f_places f_guesses f_ways f_now f_past f_images f_isKept f_text f_shown f_read o2.2.2.1 o2.2.2.2.1 o2.2.2.2.2.1 o2.2.2.2.2.2.1 f_labelAt f_soAt f_meets f_wayFrom f_wayTo f_wayBy f_reach f_goesOn f_far f_round f_line o2.2.2.2.2.2.2)) hs (fun o2 hs => ?_) (fun hs => ?_)
  · have hq := g_sat_s hs
    exact g_iret hX (by decide +kernel) rfl hq
  · refine g_br 22 (.ifCond .eq 11) ((F_M_in a1 (0 : Int32) (f_showing - (1 : Int32))) = 0) [] (by decide +kernel) rfl (fun c1 => ?_) (fun c1 => ?_)
    · have hs := g_sat_t hs c1
      refine g_blk 23 [(.iconst (-1), 0, 0, (-1), 0)] [] [(0, .ref 0), (1, .int a1)] [.int (-1 : Int32)] (HM f_undone f_letters f_showing f_spot f_tokenAt f_value f_laters f_places f_guesses f_ways f_now f_past f_images f_isKept f_text f_shown f_read f_letter f_sizes f_laterNumber f_many f_labelAt f_soAt f_meets f_wayFrom f_wayTo f_wayBy f_reach f_goesOn f_far f_round f_line f_guessAt) (by decide +kernel) rfl g_nil ?_
      refine g_loc (L2 := []) [] rfl ?_
      have hq := g_sat_s hs
      exact hq
    · have hs := g_sat_f hs c1
      refine g_blk 16 [(.aload_n 0, 0, 0, 0, 0), (.iload_n 1, 0, 0, 0, 0)] [] [(0, .ref 0), (1, .int a1)] [.int a1, .ref 0] (HM f_undone f_letters f_showing f_spot f_tokenAt f_value f_laters f_places f_guesses f_ways f_now f_past f_images f_isKept f_text f_shown f_read f_letter f_sizes f_laterNumber f_many f_labelAt f_soAt f_meets f_wayFrom f_wayTo f_wayBy f_reach f_goesOn f_far f_round f_line f_guessAt) (by decide +kernel) rfl g_nil ?_
      refine g_fM (ct_M_judgedAt N f_undone f_letters f_showing f_spot f_tokenAt f_value f_laters f_places f_guesses f_ways f_now f_past f_images f_isKept f_text f_shown f_read f_letter f_sizes f_laterNumber f_many f_labelAt f_soAt f_meets f_wayFrom f_wayTo f_wayBy f_reach f_goesOn f_far f_round f_line f_guessAt a1) 256 true 1 lk_7_256 (by decide +kernel) rfl ⟨rfl, rfl, by decide, by decide⟩ [] rfl (Nat.le_of_ble_eq_true rfl) (fun _ => ⟨0, 7, _, rfl, rfl, by decide, rfl⟩) hs (fun o3 hs => ?_)
      refine g_blk 23 [(.goto 4, 0, 0, 0, 0)] [] [(0, .ref 0), (1, .int a1)] [.int o3.1] (HM f_undone f_letters f_showing f_spot f_tokenAt f_value o3.2.1 f_places f_guesses f_ways f_now f_past f_images f_isKept f_text f_shown f_read o3.2.2.1 o3.2.2.2.1 o3.2.2.2.2.1 o3.2.2.2.2.2.1 f_labelAt f_soAt f_meets f_wayFrom f_wayTo f_wayBy f_reach f_goesOn f_far f_round f_line o3.2.2.2.2.2.2) (by decide +kernel) rfl g_nil ?_
      refine g_loc (L2 := []) [] rfl ?_
      have hq := g_sat_s hs
      exact hq
abbrev rm_M_isImage : Room := { frames := 1, cells := 0, slots := 0, locals := 22 }
def F_M_isImage (a0 : Int32) : Int32 := (F_M_in a0 (0 : Int32) (1 : Int32))
theorem bo_M_isImage (a0 : Int32) : F_M_isImage a0 = 0 ∨ F_M_isImage a0 = 1 := by
  unfold F_M_isImage
  repeat (first | exact Or.inl rfl | exact Or.inr rfl | exact bo_M_in _ _ _ | split)
set_option maxRecDepth 100000 in
theorem ct_M_isImage (a0 : Int32) : g_F y_M_isImage c_M_isImage 1 (some .boolean) rm_M_isImage [.int a0] [] (some (F_M_isImage a0)) (fun o => some (.int o)) (fun _ => []) := by
  intro l P hs
  refine g_ofG 7 (by decide +kernel) rfl (Nat.le_of_ble_eq_true rfl) (fun X hX => ?_)
  unfold F_M_isImage at hs
  refine g_loc (L2 := [(0, .int a0)]) [0] rfl ?_
  refine g_blk 3 [(.iload_n 0, 0, 0, 0, 0), (.iconst 0, 0, 0, 0, 0), (.iconst 1, 0, 0, 1, 0)] [] [(0, .int a0)] [.int (1 : Int32), .int (0 : Int32), .int a0] [] (by decide +kernel) rfl g_nil ?_
  refine g_pN (ct_M_in a0 (0 : Int32) (1 : Int32)) 85 3 lk_7_85 (by decide +kernel) rfl ⟨rfl, rfl, by decide, by decide⟩ [] rfl (Nat.le_of_ble_eq_true rfl) ?_
  have hq := g_sat_s hs
  exact g_zret hX (by decide +kernel) rfl (bo_M_in a0 (0 : Int32) (1 : Int32)) hq
abbrev rm_M_keep : Room := { frames := 2, cells := 0, slots := 0, locals := 42 }
def M_keep_l1 (a1 : Int32) (f_now : Nat → Int32) : Nat → Int32 → (Nat → Int32) → Option (Nat → Int32)
  | 0, _, _ => none
  | n + 1, b2_2, w_images_3 => (if (105 : Int32) ≤ b2_2 then (some w_images_3) else (g_chk (g_inb b2_2 105) (g_chk (g_inb (((105 : Int32) * a1) + b2_2) 210) (M_keep_l1 a1 f_now n (b2_2 + (1 : Int32)) (upd w_images_3 ((((105 : Int32) * a1) + b2_2)).toNatClampNeg (f_now b2_2.toNatClampNeg))))))
theorem M_keep_l1_s (a1 : Int32) (f_now : Nat → Int32) (n : Nat) (b2_2 : Int32) (w_images_3 : Nat → Int32) : M_keep_l1 a1 f_now (n + 1) b2_2 w_images_3 = (if (105 : Int32) ≤ b2_2 then (some w_images_3) else (g_chk (g_inb b2_2 105) (g_chk (g_inb (((105 : Int32) * a1) + b2_2) 210) (M_keep_l1 a1 f_now n (b2_2 + (1 : Int32)) (upd w_images_3 ((((105 : Int32) * a1) + b2_2)).toNatClampNeg (f_now b2_2.toNatClampNeg)))))) := rfl
def F_M_keep (N : Nat) (f_now : Nat → Int32) (f_images : Nat → Int32) (f_isKept : Nat → Int32) (a1 : Int32) : Option (Int32 × (Nat → Int32) × (Nat → Int32)) := (if (F_M_isImage a1) = 0 then (some ((-1 : Int32), f_images, f_isKept)) else ((M_keep_l1 a1 f_now N (0 : Int32) f_images).bind fun o4 => (g_chk (g_inb a1 2) (some ((f_now 0), o4, (upd f_isKept a1.toNatClampNeg (vp_nar .boolean (1 : Int32))))))))
set_option maxRecDepth 100000 in
theorem ct_M_keep (N : Nat) (f_undone : Int32) (f_letters : Int32) (f_showing : Int32) (f_spot : Int32) (f_tokenAt : Int32) (f_value : Int32) (f_laters : Int32) (f_places : Int32) (f_guesses : Int32) (f_ways : Int32) (f_now : Nat → Int32) (f_past : Nat → Int32) (f_images : Nat → Int32) (f_isKept : Nat → Int32) (f_text : Nat → Int32) (f_shown : Nat → Int32) (f_read : Nat → Int32) (f_letter : Nat → Int32) (f_sizes : Nat → Int32) (f_laterNumber : Nat → Int32) (f_many : Nat → Int32) (f_labelAt : Nat → Int32) (f_soAt : Nat → Int32) (f_meets : Nat → Int32) (f_wayFrom : Nat → Int32) (f_wayTo : Nat → Int32) (f_wayBy : Nat → Int32) (f_reach : Nat → Int64) (f_goesOn : Nat → Int32) (f_far : Nat → Int32) (f_round : Nat → Int32) (f_line : Nat → Int32) (f_guessAt : Nat → Int32) (a1 : Int32) : g_F y_M_keep c_M_keep 3 (some .int) rm_M_keep [.ref 0, .int a1] (HM f_undone f_letters f_showing f_spot f_tokenAt f_value f_laters f_places f_guesses f_ways f_now f_past f_images f_isKept f_text f_shown f_read f_letter f_sizes f_laterNumber f_many f_labelAt f_soAt f_meets f_wayFrom f_wayTo f_wayBy f_reach f_goesOn f_far f_round f_line f_guessAt) (F_M_keep N f_now f_images f_isKept a1) (fun o => some (.int o.1)) (fun o => (HM f_undone f_letters f_showing f_spot f_tokenAt f_value f_laters f_places f_guesses f_ways f_now f_past o.2.1 o.2.2 f_text f_shown f_read f_letter f_sizes f_laterNumber f_many f_labelAt f_soAt f_meets f_wayFrom f_wayTo f_wayBy f_reach f_goesOn f_far f_round f_line f_guessAt)) := by
  intro l P hs
  refine g_ofG 7 (by decide +kernel) rfl (Nat.le_of_ble_eq_true rfl) (fun X hX => ?_)
  unfold F_M_keep at hs
  refine g_loc (L2 := [(0, .ref 0), (1, .int a1)]) [0, 1] rfl ?_
  refine g_blk 1 [(.iload_n 1, 0, 0, 0, 0)] [] [(0, .ref 0), (1, .int a1)] [.int a1] (HM f_undone f_letters f_showing f_spot f_tokenAt f_value f_laters f_places f_guesses f_ways f_now f_past f_images f_isKept f_text f_shown f_read f_letter f_sizes f_laterNumber f_many f_labelAt f_soAt f_meets f_wayFrom f_wayTo f_wayBy f_reach f_goesOn f_far f_round f_line f_guessAt) (by decide +kernel) rfl g_nil ?_
  refine g_pN (ct_M_isImage a1) 259 1 lk_7_259 (by decide +kernel) rfl ⟨rfl, rfl, by decide, by decide⟩ [] rfl (Nat.le_of_ble_eq_true rfl) ?_
  refine g_brn 9 (.ifCond .ne 5) ((F_M_isImage a1) = 0) [] (by decide +kernel) rfl (fun c1 => ?_) (fun c1 => ?_)
  · have hs := g_sat_f hs c1
    refine g_blk 11 [(.iconst 0, 0, 0, 0, 0), (.istore_n 2, 0, 0, 0, 0)] [] [(2, .int (0 : Int32)), (0, .ref 0), (1, .int a1)] [] (HM f_undone f_letters f_showing f_spot f_tokenAt f_value f_laters f_places f_guesses f_ways f_now f_past f_images f_isKept f_text f_shown f_read f_letter f_sizes f_laterNumber f_many f_labelAt f_soAt f_meets f_wayFrom f_wayTo f_wayBy f_reach f_goesOn f_far f_round f_line f_guessAt) (by decide +kernel) rfl g_nil ?_
    refine g_loc (L2 := [(0, .ref 0), (1, .int a1), (2, .int (0 : Int32))]) [1, 2, 0] rfl ?_
    refine g_join (fun (o4 : Nat → Int32) => g_G X rm_M_keep c_M_keep 3 7 (some .int) 40 [(0, .ref 0), (1, .int a1)] [] (HM f_undone f_letters f_showing f_spot f_tokenAt f_value f_laters f_places f_guesses f_ways f_now f_past o4 f_isKept f_text f_shown f_read f_letter f_sizes f_laterNumber f_many f_labelAt f_soAt f_meets f_wayFrom f_wayTo f_wayBy f_reach f_goesOn f_far f_round f_line f_guessAt)) hs (fun o4 hs => ?_) (fun hs => ?_)
    · obtain ⟨h8, hs⟩ := g_sat_c hs
      refine g_blk 53 [(.aload_n 0, 0, 0, 0, 0), (.getfield 19, 7, 4, 0, 0), (.iload_n 1, 0, 0, 0, 0), (.iconst 1, 0, 0, 1, 0), (.bastore, 0, 0, 0, 0), (.aload_n 0, 0, 0, 0, 0), (.getfield 7, 7, 0, 0, 0), (.iconst 0, 0, 0, 0, 0), (.iaload, 0, 0, 0, 0)] [vp_in a1 2, vp_in (0 : Int32) 105] [(0, .ref 0), (1, .int a1)] [.int (f_now 0)] (HM f_undone f_letters f_showing f_spot f_tokenAt f_value f_laters f_places f_guesses f_ways f_now f_past o4 (upd f_isKept a1.toNatClampNeg (vp_nar .boolean (1 : Int32))) f_text f_shown f_read f_letter f_sizes f_laterNumber f_many f_labelAt f_soAt f_meets f_wayFrom f_wayTo f_wayBy f_reach f_goesOn f_far f_round f_line f_guessAt) (by decide +kernel) rfl (g_and (g_inb_in h8) (g_and (g_inb_in (by decide +kernel)) g_nil)) ?_
      have hq := g_sat_s hs
      exact g_iret hX (by decide +kernel) rfl hq
    · have hlM_keep_l1 : ∀ (n : Nat) (b2_2 : Int32) (w_images_3 : Nat → Int32), g_sat (M_keep_l1 a1 f_now n b2_2 w_images_3) (fun (o4 : Nat → Int32) => g_G X rm_M_keep c_M_keep 3 7 (some .int) 40 [(0, .ref 0), (1, .int a1)] [] (HM f_undone f_letters f_showing f_spot f_tokenAt f_value f_laters f_places f_guesses f_ways f_now f_past o4 f_isKept f_text f_shown f_read f_letter f_sizes f_laterNumber f_many f_labelAt f_soAt f_meets f_wayFrom f_wayTo f_wayBy f_reach f_goesOn f_far f_round f_line f_guessAt)) → g_G X rm_M_keep c_M_keep 3 7 (some .int) 11 [(0, .ref 0), (1, .int a1), (2, .int b2_2)] [] (HM f_undone f_letters f_showing f_spot f_tokenAt f_value f_laters f_places f_guesses f_ways f_now f_past w_images_3 f_isKept f_text f_shown f_read f_letter f_sizes f_laterNumber f_many f_labelAt f_soAt f_meets f_wayFrom f_wayTo f_wayBy f_reach f_goesOn f_far f_round f_line f_guessAt) := by
        intro n
        induction n with
        | zero =>
          intro b2_2 w_images_3 hs
          obtain ⟨_, h0, _⟩ := hs
          cases h0
        | succ n ih =>
          intro b2_2 w_images_3 hs
          rw [M_keep_l1_s] at hs
          refine g_blk 14 [(.iload_n 2, 0, 0, 0, 0), (.bipush 105, 0, 0, 105, 0)] [] [(0, .ref 0), (1, .int a1), (2, .int b2_2)] [.int (105 : Int32), .int b2_2] (HM f_undone f_letters f_showing f_spot f_tokenAt f_value f_laters f_places f_guesses f_ways f_now f_past w_images_3 f_isKept f_text f_shown f_read f_letter f_sizes f_laterNumber f_many f_labelAt f_soAt f_meets f_wayFrom f_wayTo f_wayBy f_reach f_goesOn f_far f_round f_line f_guessAt) (by decide +kernel) rfl g_nil ?_
          refine g_br 40 (.if_icmp .ge 26) ((105 : Int32) ≤ b2_2) [] (by decide +kernel) rfl (fun c5 => ?_) (fun c5 => ?_)
          · have hs := g_sat_t hs c5
            refine g_loc (L2 := [(0, .ref 0), (1, .int a1)]) [0, 1] rfl ?_
            have hq := g_sat_s hs
            exact hq
          · have hs := g_sat_f hs c5
            obtain ⟨h6, hs⟩ := g_sat_c hs
            obtain ⟨h7, hs⟩ := g_sat_c hs
            refine g_blk 11 [(.aload_n 0, 0, 0, 0, 0), (.getfield 16, 7, 3, 0, 0), (.bipush 105, 0, 0, 105, 0), (.iload_n 1, 0, 0, 0, 0), (.imul, 0, 0, 0, 0), (.iload_n 2, 0, 0, 0, 0), (.iadd, 0, 0, 0, 0), (.aload_n 0, 0, 0, 0, 0), (.getfield 7, 7, 0, 0, 0), (.iload_n 2, 0, 0, 0, 0), (.iaload, 0, 0, 0, 0), (.iastore, 0, 0, 0, 0), (.iinc 2 1, 0, 0, 1, 0), (.goto (-26), 0, 0, 0, 0)] [vp_in b2_2 105, vp_in (((105 : Int32) * a1) + b2_2) 210] [(2, .int (b2_2 + (1 : Int32))), (0, .ref 0), (1, .int a1)] [] (HM f_undone f_letters f_showing f_spot f_tokenAt f_value f_laters f_places f_guesses f_ways f_now f_past (upd w_images_3 ((((105 : Int32) * a1) + b2_2)).toNatClampNeg (f_now b2_2.toNatClampNeg)) f_isKept f_text f_shown f_read f_letter f_sizes f_laterNumber f_many f_labelAt f_soAt f_meets f_wayFrom f_wayTo f_wayBy f_reach f_goesOn f_far f_round f_line f_guessAt) (by decide +kernel) rfl (g_and (g_inb_in h6) (g_and (g_inb_in h7) g_nil)) ?_
            refine g_loc (L2 := [(0, .ref 0), (1, .int a1), (2, .int (b2_2 + (1 : Int32)))]) [1, 2, 0] rfl ?_
            exact ih _ _ hs
      exact hlM_keep_l1 N _ _ hs
  · have hs := g_sat_t hs c1
    refine g_blk 8 [(.iconst (-1), 0, 0, (-1), 0)] [] [(0, .ref 0), (1, .int a1)] [.int (-1 : Int32)] (HM f_undone f_letters f_showing f_spot f_tokenAt f_value f_laters f_places f_guesses f_ways f_now f_past f_images f_isKept f_text f_shown f_read f_letter f_sizes f_laterNumber f_many f_labelAt f_soAt f_meets f_wayFrom f_wayTo f_wayBy f_reach f_goesOn f_far f_round f_line f_guessAt) (by decide +kernel) rfl g_nil ?_
    have hq := g_sat_s hs
    exact g_iret hX (by decide +kernel) rfl hq
abbrev rm_M_back : Room := { frames := 2, cells := 0, slots := 0, locals := 42 }
def M_back_l1 (a1 : Int32) (f_images : Nat → Int32) : Nat → Int32 → (Nat → Int32) → Option (Nat → Int32)
  | 0, _, _ => none
  | n + 1, b2_4, w_now_5 => (if (105 : Int32) ≤ b2_4 then (some w_now_5) else (g_chk (g_inb (((105 : Int32) * a1) + b2_4) 210) (g_chk (g_inb b2_4 105) (M_back_l1 a1 f_images n (b2_4 + (1 : Int32)) (upd w_now_5 b2_4.toNatClampNeg (f_images ((((105 : Int32) * a1) + b2_4)).toNatClampNeg))))))
theorem M_back_l1_s (a1 : Int32) (f_images : Nat → Int32) (n : Nat) (b2_4 : Int32) (w_now_5 : Nat → Int32) : M_back_l1 a1 f_images (n + 1) b2_4 w_now_5 = (if (105 : Int32) ≤ b2_4 then (some w_now_5) else (g_chk (g_inb (((105 : Int32) * a1) + b2_4) 210) (g_chk (g_inb b2_4 105) (M_back_l1 a1 f_images n (b2_4 + (1 : Int32)) (upd w_now_5 b2_4.toNatClampNeg (f_images ((((105 : Int32) * a1) + b2_4)).toNatClampNeg)))))) := rfl
def F_M_back (N : Nat) (f_undone : Int32) (f_now : Nat → Int32) (f_images : Nat → Int32) (f_isKept : Nat → Int32) (a1 : Int32) : Option (Int32 × Int32 × (Nat → Int32)) := (if (F_M_isImage a1) = 0 then (some ((-1 : Int32), f_undone, f_now)) else (g_chk (g_inb a1 2) (if (f_isKept a1.toNatClampNeg) = 0 then (some ((-2 : Int32), f_undone, f_now)) else ((M_back_l1 a1 f_images N (0 : Int32) f_now).bind fun o6 => (some ((o6 0), (0 : Int32), o6))))))
set_option maxRecDepth 100000 in
theorem ct_M_back (N : Nat) (f_undone : Int32) (f_letters : Int32) (f_showing : Int32) (f_spot : Int32) (f_tokenAt : Int32) (f_value : Int32) (f_laters : Int32) (f_places : Int32) (f_guesses : Int32) (f_ways : Int32) (f_now : Nat → Int32) (f_past : Nat → Int32) (f_images : Nat → Int32) (f_isKept : Nat → Int32) (f_text : Nat → Int32) (f_shown : Nat → Int32) (f_read : Nat → Int32) (f_letter : Nat → Int32) (f_sizes : Nat → Int32) (f_laterNumber : Nat → Int32) (f_many : Nat → Int32) (f_labelAt : Nat → Int32) (f_soAt : Nat → Int32) (f_meets : Nat → Int32) (f_wayFrom : Nat → Int32) (f_wayTo : Nat → Int32) (f_wayBy : Nat → Int32) (f_reach : Nat → Int64) (f_goesOn : Nat → Int32) (f_far : Nat → Int32) (f_round : Nat → Int32) (f_line : Nat → Int32) (f_guessAt : Nat → Int32) (a1 : Int32) : g_F y_M_back c_M_back 3 (some .int) rm_M_back [.ref 0, .int a1] (HM f_undone f_letters f_showing f_spot f_tokenAt f_value f_laters f_places f_guesses f_ways f_now f_past f_images f_isKept f_text f_shown f_read f_letter f_sizes f_laterNumber f_many f_labelAt f_soAt f_meets f_wayFrom f_wayTo f_wayBy f_reach f_goesOn f_far f_round f_line f_guessAt) (F_M_back N f_undone f_now f_images f_isKept a1) (fun o => some (.int o.1)) (fun o => (HM o.2.1 f_letters f_showing f_spot f_tokenAt f_value f_laters f_places f_guesses f_ways o.2.2 f_past f_images f_isKept f_text f_shown f_read f_letter f_sizes f_laterNumber f_many f_labelAt f_soAt f_meets f_wayFrom f_wayTo f_wayBy f_reach f_goesOn f_far f_round f_line f_guessAt)) := by
  intro l P hs
  refine g_ofG 7 (by decide +kernel) rfl (Nat.le_of_ble_eq_true rfl) (fun X hX => ?_)
  unfold F_M_back at hs
  refine g_loc (L2 := [(0, .ref 0), (1, .int a1)]) [0, 1] rfl ?_
  refine g_blk 1 [(.iload_n 1, 0, 0, 0, 0)] [] [(0, .ref 0), (1, .int a1)] [.int a1] (HM f_undone f_letters f_showing f_spot f_tokenAt f_value f_laters f_places f_guesses f_ways f_now f_past f_images f_isKept f_text f_shown f_read f_letter f_sizes f_laterNumber f_many f_labelAt f_soAt f_meets f_wayFrom f_wayTo f_wayBy f_reach f_goesOn f_far f_round f_line f_guessAt) (by decide +kernel) rfl g_nil ?_
  refine g_pN (ct_M_isImage a1) 259 1 lk_7_259 (by decide +kernel) rfl ⟨rfl, rfl, by decide, by decide⟩ [] rfl (Nat.le_of_ble_eq_true rfl) ?_
  refine g_brn 9 (.ifCond .ne 5) ((F_M_isImage a1) = 0) [] (by decide +kernel) rfl (fun c1 => ?_) (fun c1 => ?_)
  · have hs := g_sat_f hs c1
    obtain ⟨h2, hs⟩ := g_sat_c hs
    refine g_blk 15 [(.aload_n 0, 0, 0, 0, 0), (.getfield 19, 7, 4, 0, 0), (.iload_n 1, 0, 0, 0, 0), (.baload, 0, 0, 0, 0)] [vp_in a1 2] [(0, .ref 0), (1, .int a1)] [.int (f_isKept a1.toNatClampNeg)] (HM f_undone f_letters f_showing f_spot f_tokenAt f_value f_laters f_places f_guesses f_ways f_now f_past f_images f_isKept f_text f_shown f_read f_letter f_sizes f_laterNumber f_many f_labelAt f_soAt f_meets f_wayFrom f_wayTo f_wayBy f_reach f_goesOn f_far f_round f_line f_guessAt) (by decide +kernel) rfl (g_and (g_inb_in h2) g_nil) ?_
    refine g_brn 21 (.ifCond .ne 6) ((f_isKept a1.toNatClampNeg) = 0) [] (by decide +kernel) rfl (fun c3 => ?_) (fun c3 => ?_)
    · have hs := g_sat_f hs c3
      refine g_blk 23 [(.iconst 0, 0, 0, 0, 0), (.istore_n 2, 0, 0, 0, 0)] [] [(2, .int (0 : Int32)), (0, .ref 0), (1, .int a1)] [] (HM f_undone f_letters f_showing f_spot f_tokenAt f_value f_laters f_places f_guesses f_ways f_now f_past f_images f_isKept f_text f_shown f_read f_letter f_sizes f_laterNumber f_many f_labelAt f_soAt f_meets f_wayFrom f_wayTo f_wayBy f_reach f_goesOn f_far f_round f_line f_guessAt) (by decide +kernel) rfl g_nil ?_
      refine g_loc (L2 := [(0, .ref 0), (1, .int a1), (2, .int (0 : Int32))]) [1, 2, 0] rfl ?_
      refine g_join (fun (o6 : Nat → Int32) => g_G X rm_M_back c_M_back 3 7 (some .int) 52 [(0, .ref 0)] [] (HM f_undone f_letters f_showing f_spot f_tokenAt f_value f_laters f_places f_guesses f_ways o6 f_past f_images f_isKept f_text f_shown f_read f_letter f_sizes f_laterNumber f_many f_labelAt f_soAt f_meets f_wayFrom f_wayTo f_wayBy f_reach f_goesOn f_far f_round f_line f_guessAt)) hs (fun o6 hs => ?_) (fun hs => ?_)
      · refine g_blk 63 [(.aload_n 0, 0, 0, 0, 0), (.iconst 0, 0, 0, 0, 0), (.putfield 81, 7, 2, 1, 0), (.aload_n 0, 0, 0, 0, 0), (.getfield 7, 7, 0, 0, 0), (.iconst 0, 0, 0, 0, 0), (.iaload, 0, 0, 0, 0)] [vp_in (0 : Int32) 105] [(0, .ref 0)] [.int (o6 0)] (HM (0 : Int32) f_letters f_showing f_spot f_tokenAt f_value f_laters f_places f_guesses f_ways o6 f_past f_images f_isKept f_text f_shown f_read f_letter f_sizes f_laterNumber f_many f_labelAt f_soAt f_meets f_wayFrom f_wayTo f_wayBy f_reach f_goesOn f_far f_round f_line f_guessAt) (by decide +kernel) rfl (g_and (g_inb_in (by decide +kernel)) g_nil) ?_
        have hq := g_sat_s hs
        exact g_iret hX (by decide +kernel) rfl hq
      · have hlM_back_l1 : ∀ (n : Nat) (b2_4 : Int32) (w_now_5 : Nat → Int32), g_sat (M_back_l1 a1 f_images n b2_4 w_now_5) (fun (o6 : Nat → Int32) => g_G X rm_M_back c_M_back 3 7 (some .int) 52 [(0, .ref 0)] [] (HM f_undone f_letters f_showing f_spot f_tokenAt f_value f_laters f_places f_guesses f_ways o6 f_past f_images f_isKept f_text f_shown f_read f_letter f_sizes f_laterNumber f_many f_labelAt f_soAt f_meets f_wayFrom f_wayTo f_wayBy f_reach f_goesOn f_far f_round f_line f_guessAt)) → g_G X rm_M_back c_M_back 3 7 (some .int) 23 [(0, .ref 0), (1, .int a1), (2, .int b2_4)] [] (HM f_undone f_letters f_showing f_spot f_tokenAt f_value f_laters f_places f_guesses f_ways w_now_5 f_past f_images f_isKept f_text f_shown f_read f_letter f_sizes f_laterNumber f_many f_labelAt f_soAt f_meets f_wayFrom f_wayTo f_wayBy f_reach f_goesOn f_far f_round f_line f_guessAt) := by
          intro n
          induction n with
          | zero =>
            intro b2_4 w_now_5 hs
            obtain ⟨_, h0, _⟩ := hs
            cases h0
          | succ n ih =>
            intro b2_4 w_now_5 hs
            rw [M_back_l1_s] at hs
            refine g_blk 26 [(.iload_n 2, 0, 0, 0, 0), (.bipush 105, 0, 0, 105, 0)] [] [(0, .ref 0), (1, .int a1), (2, .int b2_4)] [.int (105 : Int32), .int b2_4] (HM f_undone f_letters f_showing f_spot f_tokenAt f_value f_laters f_places f_guesses f_ways w_now_5 f_past f_images f_isKept f_text f_shown f_read f_letter f_sizes f_laterNumber f_many f_labelAt f_soAt f_meets f_wayFrom f_wayTo f_wayBy f_reach f_goesOn f_far f_round f_line f_guessAt) (by decide +kernel) rfl g_nil ?_
            refine g_br 52 (.if_icmp .ge 26) ((105 : Int32) ≤ b2_4) [] (by decide +kernel) rfl (fun c7 => ?_) (fun c7 => ?_)
            · have hs := g_sat_t hs c7
              refine g_loc (L2 := [(0, .ref 0)]) [0] rfl ?_
              have hq := g_sat_s hs
              exact hq
            · have hs := g_sat_f hs c7
              obtain ⟨h8, hs⟩ := g_sat_c hs
              obtain ⟨h9, hs⟩ := g_sat_c hs
              refine g_blk 23 [(.aload_n 0, 0, 0, 0, 0), (.getfield 7, 7, 0, 0, 0), (.iload_n 2, 0, 0, 0, 0), (.aload_n 0, 0, 0, 0, 0), (.getfield 16, 7, 3, 0, 0), (.bipush 105, 0, 0, 105, 0), (.iload_n 1, 0, 0, 0, 0), (.imul, 0, 0, 0, 0), (.iload_n 2, 0, 0, 0, 0), (.iadd, 0, 0, 0, 0), (.iaload, 0, 0, 0, 0), (.iastore, 0, 0, 0, 0), (.iinc 2 1, 0, 0, 1, 0), (.goto (-26), 0, 0, 0, 0)] [vp_in (((105 : Int32) * a1) + b2_4) 210, vp_in b2_4 105] [(2, .int (b2_4 + (1 : Int32))), (0, .ref 0), (1, .int a1)] [] (HM f_undone f_letters f_showing f_spot f_tokenAt f_value f_laters f_places f_guesses f_ways (upd w_now_5 b2_4.toNatClampNeg (f_images ((((105 : Int32) * a1) + b2_4)).toNatClampNeg)) f_past f_images f_isKept f_text f_shown f_read f_letter f_sizes f_laterNumber f_many f_labelAt f_soAt f_meets f_wayFrom f_wayTo f_wayBy f_reach f_goesOn f_far f_round f_line f_guessAt) (by decide +kernel) rfl (g_and (g_inb_in h8) (g_and (g_inb_in h9) g_nil)) ?_
              refine g_loc (L2 := [(0, .ref 0), (1, .int a1), (2, .int (b2_4 + (1 : Int32)))]) [1, 2, 0] rfl ?_
              exact ih _ _ hs
        exact hlM_back_l1 N _ _ hs
    · have hs := g_sat_t hs c3
      refine g_blk 20 [(.bipush (-2), 0, 0, (-2), 0)] [] [(0, .ref 0), (1, .int a1)] [.int (-2 : Int32)] (HM f_undone f_letters f_showing f_spot f_tokenAt f_value f_laters f_places f_guesses f_ways f_now f_past f_images f_isKept f_text f_shown f_read f_letter f_sizes f_laterNumber f_many f_labelAt f_soAt f_meets f_wayFrom f_wayTo f_wayBy f_reach f_goesOn f_far f_round f_line f_guessAt) (by decide +kernel) rfl g_nil ?_
      have hq := g_sat_s hs
      exact g_iret hX (by decide +kernel) rfl hq
  · have hs := g_sat_t hs c1
    refine g_blk 8 [(.iconst (-1), 0, 0, (-1), 0)] [] [(0, .ref 0), (1, .int a1)] [.int (-1 : Int32)] (HM f_undone f_letters f_showing f_spot f_tokenAt f_value f_laters f_places f_guesses f_ways f_now f_past f_images f_isKept f_text f_shown f_read f_letter f_sizes f_laterNumber f_many f_labelAt f_soAt f_meets f_wayFrom f_wayTo f_wayBy f_reach f_goesOn f_far f_round f_line f_guessAt) (by decide +kernel) rfl g_nil ?_
    have hq := g_sat_s hs
    exact g_iret hX (by decide +kernel) rfl hq
abbrev rm_M_count : Room := { frames := 4, cells := 0, slots := 0, locals := 88 }
def F_M_count (N : Nat) (f_undone : Int32) (f_letters : Int32) (f_showing : Int32) (f_laters : Int32) (f_now : Nat → Int32) (f_letter : Nat → Int32) (f_sizes : Nat → Int32) (f_laterNumber : Nat → Int32) (f_many : Nat → Int32) (a1 : Int32) : Option (Int32 × Int32 × (Nat → Int32) × (Nat → Int32) × (Nat → Int32) × (Nat → Int32)) := (if a1 = 0 then (some ((f_now 0), f_laters, f_letter, f_sizes, f_laterNumber, f_many)) else (if a1 = 1 then (some ((f_now 6), f_laters, f_letter, f_sizes, f_laterNumber, f_many)) else (if a1 = 2 then (some ((f_now 37), f_laters, f_letter, f_sizes, f_laterNumber, f_many)) else (if a1 = 3 then ((F_M_latersNow N f_now f_letter f_sizes f_laterNumber f_many).bind fun o5 => (some (o5.1, o5.2.1, o5.2.2.1, o5.2.2.2.1, o5.2.2.2.2.1, o5.2.2.2.2.2))) else (if a1 = 4 then (some (f_showing, f_laters, f_letter, f_sizes, f_laterNumber, f_many)) else (if a1 = 5 then (some (f_letters, f_laters, f_letter, f_sizes, f_laterNumber, f_many)) else (if a1 = 6 then (some (f_undone, f_laters, f_letter, f_sizes, f_laterNumber, f_many)) else (some ((-1 : Int32), f_laters, f_letter, f_sizes, f_laterNumber, f_many)))))))))
set_option maxRecDepth 100000 in
theorem ct_M_count (N : Nat) (f_undone : Int32) (f_letters : Int32) (f_showing : Int32) (f_spot : Int32) (f_tokenAt : Int32) (f_value : Int32) (f_laters : Int32) (f_places : Int32) (f_guesses : Int32) (f_ways : Int32) (f_now : Nat → Int32) (f_past : Nat → Int32) (f_images : Nat → Int32) (f_isKept : Nat → Int32) (f_text : Nat → Int32) (f_shown : Nat → Int32) (f_read : Nat → Int32) (f_letter : Nat → Int32) (f_sizes : Nat → Int32) (f_laterNumber : Nat → Int32) (f_many : Nat → Int32) (f_labelAt : Nat → Int32) (f_soAt : Nat → Int32) (f_meets : Nat → Int32) (f_wayFrom : Nat → Int32) (f_wayTo : Nat → Int32) (f_wayBy : Nat → Int32) (f_reach : Nat → Int64) (f_goesOn : Nat → Int32) (f_far : Nat → Int32) (f_round : Nat → Int32) (f_line : Nat → Int32) (f_guessAt : Nat → Int32) (a1 : Int32) : g_F y_M_count c_M_count 2 (some .int) rm_M_count [.ref 0, .int a1] (HM f_undone f_letters f_showing f_spot f_tokenAt f_value f_laters f_places f_guesses f_ways f_now f_past f_images f_isKept f_text f_shown f_read f_letter f_sizes f_laterNumber f_many f_labelAt f_soAt f_meets f_wayFrom f_wayTo f_wayBy f_reach f_goesOn f_far f_round f_line f_guessAt) (F_M_count N f_undone f_letters f_showing f_laters f_now f_letter f_sizes f_laterNumber f_many a1) (fun o => some (.int o.1)) (fun o => (HM f_undone f_letters f_showing f_spot f_tokenAt f_value o.2.1 f_places f_guesses f_ways f_now f_past f_images f_isKept f_text f_shown f_read o.2.2.1 o.2.2.2.1 o.2.2.2.2.1 o.2.2.2.2.2 f_labelAt f_soAt f_meets f_wayFrom f_wayTo f_wayBy f_reach f_goesOn f_far f_round f_line f_guessAt)) := by
  intro l P hs
  refine g_ofG 7 (by decide +kernel) rfl (Nat.le_of_ble_eq_true rfl) (fun X hX => ?_)
  unfold F_M_count at hs
  refine g_loc (L2 := [(0, .ref 0), (1, .int a1)]) [0, 1] rfl ?_
  refine g_blk 1 [(.iload_n 1, 0, 0, 0, 0)] [] [(0, .ref 0), (1, .int a1)] [.int a1] (HM f_undone f_letters f_showing f_spot f_tokenAt f_value f_laters f_places f_guesses f_ways f_now f_past f_images f_isKept f_text f_shown f_read f_letter f_sizes f_laterNumber f_many f_labelAt f_soAt f_meets f_wayFrom f_wayTo f_wayBy f_reach f_goesOn f_far f_round f_line f_guessAt) (by decide +kernel) rfl g_nil ?_
  refine g_tsw 87 [(0, 44), (1, 51), (2, 59), (3, 67), (4, 72), (5, 77), (6, 82)] 86 0 6 #[43, 50, 58, 66, 71, 76, 81] 43 (by decide +kernel) (fun t ht => ?_)
  by_cases c1 : a1 = 0
  · have hs := g_sat_t hs c1
    simp only [g_sw, if_pos c1] at ht
    subst ht
    refine g_blk 50 [(.aload_n 0, 0, 0, 0, 0), (.getfield 7, 7, 0, 0, 0), (.iconst 0, 0, 0, 0, 0), (.iaload, 0, 0, 0, 0)] [vp_in (0 : Int32) 105] [(0, .ref 0), (1, .int a1)] [.int (f_now 0)] (HM f_undone f_letters f_showing f_spot f_tokenAt f_value f_laters f_places f_guesses f_ways f_now f_past f_images f_isKept f_text f_shown f_read f_letter f_sizes f_laterNumber f_many f_labelAt f_soAt f_meets f_wayFrom f_wayTo f_wayBy f_reach f_goesOn f_far f_round f_line f_guessAt) (by decide +kernel) rfl (g_and (g_inb_in (by decide +kernel)) g_nil) ?_
    have hq := g_sat_s hs
    exact g_iret hX (by decide +kernel) rfl hq
  · have hs := g_sat_f hs c1
    rw [g_sw, if_neg c1] at ht
    by_cases c2 : a1 = 1
    · have hs := g_sat_t hs c2
      simp only [g_sw, if_pos c2] at ht
      subst ht
      refine g_blk 58 [(.aload_n 0, 0, 0, 0, 0), (.getfield 7, 7, 0, 0, 0), (.bipush 6, 0, 0, 6, 0), (.iaload, 0, 0, 0, 0)] [vp_in (6 : Int32) 105] [(0, .ref 0), (1, .int a1)] [.int (f_now 6)] (HM f_undone f_letters f_showing f_spot f_tokenAt f_value f_laters f_places f_guesses f_ways f_now f_past f_images f_isKept f_text f_shown f_read f_letter f_sizes f_laterNumber f_many f_labelAt f_soAt f_meets f_wayFrom f_wayTo f_wayBy f_reach f_goesOn f_far f_round f_line f_guessAt) (by decide +kernel) rfl (g_and (g_inb_in (by decide +kernel)) g_nil) ?_
      have hq := g_sat_s hs
      exact g_iret hX (by decide +kernel) rfl hq
    · have hs := g_sat_f hs c2
      rw [g_sw, if_neg c2] at ht
      by_cases c3 : a1 = 2
      · have hs := g_sat_t hs c3
        simp only [g_sw, if_pos c3] at ht
        subst ht
        refine g_blk 66 [(.aload_n 0, 0, 0, 0, 0), (.getfield 7, 7, 0, 0, 0), (.bipush 37, 0, 0, 37, 0), (.iaload, 0, 0, 0, 0)] [vp_in (37 : Int32) 105] [(0, .ref 0), (1, .int a1)] [.int (f_now 37)] (HM f_undone f_letters f_showing f_spot f_tokenAt f_value f_laters f_places f_guesses f_ways f_now f_past f_images f_isKept f_text f_shown f_read f_letter f_sizes f_laterNumber f_many f_labelAt f_soAt f_meets f_wayFrom f_wayTo f_wayBy f_reach f_goesOn f_far f_round f_line f_guessAt) (by decide +kernel) rfl (g_and (g_inb_in (by decide +kernel)) g_nil) ?_
        have hq := g_sat_s hs
        exact g_iret hX (by decide +kernel) rfl hq
      · have hs := g_sat_f hs c3
        rw [g_sw, if_neg c3] at ht
        by_cases c4 : a1 = 3
        · have hs := g_sat_t hs c4
          simp only [g_sw, if_pos c4] at ht
          subst ht
          refine g_blk 68 [(.aload_n 0, 0, 0, 0, 0)] [] [(0, .ref 0), (1, .int a1)] [.ref 0] (HM f_undone f_letters f_showing f_spot f_tokenAt f_value f_laters f_places f_guesses f_ways f_now f_past f_images f_isKept f_text f_shown f_read f_letter f_sizes f_laterNumber f_many f_labelAt f_soAt f_meets f_wayFrom f_wayTo f_wayBy f_reach f_goesOn f_far f_round f_line f_guessAt) (by decide +kernel) rfl g_nil ?_
          refine g_fM (ct_M_latersNow N f_undone f_letters f_showing f_spot f_tokenAt f_value f_laters f_places f_guesses f_ways f_now f_past f_images f_isKept f_text f_shown f_read f_letter f_sizes f_laterNumber f_many f_labelAt f_soAt f_meets f_wayFrom f_wayTo f_wayBy f_reach f_goesOn f_far f_round f_line f_guessAt) 262 true 0 lk_7_262 (by decide +kernel) rfl ⟨rfl, rfl, by decide, by decide⟩ [] rfl (Nat.le_of_ble_eq_true rfl) (fun _ => ⟨0, 7, _, rfl, rfl, by decide, rfl⟩) hs (fun o5 hs => ?_)
          have hq := g_sat_s hs
          exact g_iret hX (by decide +kernel) rfl hq
        · have hs := g_sat_f hs c4
          rw [g_sw, if_neg c4] at ht
          by_cases c6 : a1 = 4
          · have hs := g_sat_t hs c6
            simp only [g_sw, if_pos c6] at ht
            subst ht
            refine g_blk 76 [(.aload_n 0, 0, 0, 0, 0), (.getfield 250, 7, 8, 0, 0)] [] [(0, .ref 0), (1, .int a1)] [.int f_showing] (HM f_undone f_letters f_showing f_spot f_tokenAt f_value f_laters f_places f_guesses f_ways f_now f_past f_images f_isKept f_text f_shown f_read f_letter f_sizes f_laterNumber f_many f_labelAt f_soAt f_meets f_wayFrom f_wayTo f_wayBy f_reach f_goesOn f_far f_round f_line f_guessAt) (by decide +kernel) rfl g_nil ?_
            have hq := g_sat_s hs
            exact g_iret hX (by decide +kernel) rfl hq
          · have hs := g_sat_f hs c6
            rw [g_sw, if_neg c6] at ht
            by_cases c7 : a1 = 5
            · have hs := g_sat_t hs c7
              simp only [g_sw, if_pos c7] at ht
              subst ht
              refine g_blk 81 [(.aload_n 0, 0, 0, 0, 0), (.getfield 89, 7, 6, 0, 0)] [] [(0, .ref 0), (1, .int a1)] [.int f_letters] (HM f_undone f_letters f_showing f_spot f_tokenAt f_value f_laters f_places f_guesses f_ways f_now f_past f_images f_isKept f_text f_shown f_read f_letter f_sizes f_laterNumber f_many f_labelAt f_soAt f_meets f_wayFrom f_wayTo f_wayBy f_reach f_goesOn f_far f_round f_line f_guessAt) (by decide +kernel) rfl g_nil ?_
              have hq := g_sat_s hs
              exact g_iret hX (by decide +kernel) rfl hq
            · have hs := g_sat_f hs c7
              rw [g_sw, if_neg c7] at ht
              by_cases c8 : a1 = 6
              · have hs := g_sat_t hs c8
                simp only [g_sw, if_pos c8] at ht
                subst ht
                refine g_blk 86 [(.aload_n 0, 0, 0, 0, 0), (.getfield 81, 7, 2, 0, 0)] [] [(0, .ref 0), (1, .int a1)] [.int f_undone] (HM f_undone f_letters f_showing f_spot f_tokenAt f_value f_laters f_places f_guesses f_ways f_now f_past f_images f_isKept f_text f_shown f_read f_letter f_sizes f_laterNumber f_many f_labelAt f_soAt f_meets f_wayFrom f_wayTo f_wayBy f_reach f_goesOn f_far f_round f_line f_guessAt) (by decide +kernel) rfl g_nil ?_
                have hq := g_sat_s hs
                exact g_iret hX (by decide +kernel) rfl hq
              · have hs := g_sat_f hs c8
                rw [g_sw, if_neg c8] at ht
                have ht : 87 = t := ht
                subst ht
                refine g_blk 88 [(.iconst (-1), 0, 0, (-1), 0)] [] [(0, .ref 0), (1, .int a1)] [.int (-1 : Int32)] (HM f_undone f_letters f_showing f_spot f_tokenAt f_value f_laters f_places f_guesses f_ways f_now f_past f_images f_isKept f_text f_shown f_read f_letter f_sizes f_laterNumber f_many f_labelAt f_soAt f_meets f_wayFrom f_wayTo f_wayBy f_reach f_goesOn f_far f_round f_line f_guessAt) (by decide +kernel) rfl g_nil ?_
                have hq := g_sat_s hs
                exact g_iret hX (by decide +kernel) rfl hq
