abbrev HM (f_undone : Int32) (f_letters : Int32) (f_showing : Int32) (f_spot : Int32) (f_tokenAt : Int32) (f_value : Int32) (f_laters : Int32) (f_places : Int32) (f_guesses : Int32) (f_ways : Int32) (f_now : Nat → Int32) (f_past : Nat → Int32) (f_images : Nat → Int32) (f_isKept : Nat → Int32) (f_text : Nat → Int32) (f_shown : Nat → Int32) (f_read : Nat → Int32) (f_letter : Nat → Int32) (f_sizes : Nat → Int32) (f_laterNumber : Nat → Int32) (f_many : Nat → Int32) (f_labelAt : Nat → Int32) (f_soAt : Nat → Int32) (f_meets : Nat → Int32) (f_wayFrom : Nat → Int32) (f_wayTo : Nat → Int32) (f_wayBy : Nat → Int32) (f_reach : Nat → Int64) (f_goesOn : Nat → Int32) (f_far : Nat → Int32) (f_round : Nat → Int32) (f_line : Nat → Int32) (f_guessAt : Nat → Int32) : List g_E := [.inr (7, [.ref 1, .ref 2, .int f_undone, .ref 3, .ref 4, .ref 5, .int f_letters, .ref 6, .int f_showing, .ref 7, .int f_spot, .int f_tokenAt, .int f_value, .ref 8, .ref 9, .ref 10, .ref 11, .int f_laters, .int f_places, .int f_guesses, .ref 12, .ref 13, .ref 14, .ref 15, .ref 16, .ref 17, .int f_ways, .ref 18, .ref 19, .ref 20, .ref 21, .ref 22, .ref 23]), .inl (.int, 105, .inl f_now), .inl (.int, 630, .inl f_past), .inl (.int, 210, .inl f_images), .inl (.boolean, 2, .inl f_isKept), .inl (.int, 120, .inl f_text), .inl (.int, 8, .inl f_shown), .inl (.int, 105, .inl f_read), .inl (.int, 32, .inl f_letter), .inl (.int, 32, .inl f_sizes), .inl (.int, 32, .inl f_laterNumber), .inl (.int, 2, .inl f_many), .inl (.int, 8, .inl f_labelAt), .inl (.int, 128, .inl f_soAt), .inl (.int, 64, .inl f_meets), .inl (.int, 640, .inl f_wayFrom), .inl (.int, 640, .inl f_wayTo), .inl (.int, 640, .inl f_wayBy), .inl (.long, 64, .inr (.inl f_reach)), .inl (.boolean, 64, .inl f_goesOn), .inl (.int, 64, .inl f_far), .inl (.int, 2048, .inl f_round), .inl (.int, 2048, .inl f_line), .inl (.int, 8, .inl f_guessAt)]
abbrev rm_M_in : Room := { frames := 0, cells := 0, slots := 0, locals := 0 }
def F_M_in (a0 : Int32) (a1 : Int32) (a2 : Int32) : Int32 := (if a0 < a1 then (0 : Int32) else (if a2 < a0 then (0 : Int32) else (1 : Int32)))
theorem bo_M_in (a0 : Int32) (a1 : Int32) (a2 : Int32) : F_M_in a0 a1 a2 = 0 ∨ F_M_in a0 a1 a2 = 1 := by
  unfold F_M_in
  repeat (first | exact Or.inl rfl | exact Or.inr rfl | split)
set_option maxRecDepth 100000 in
theorem ct_M_in (a0 : Int32) (a1 : Int32) (a2 : Int32) : g_F y_M_in c_M_in 3 (some .boolean) rm_M_in [.int a0, .int a1, .int a2] [] (some (F_M_in a0 a1 a2)) (fun o => some (.int o)) (fun _ => []) := by
  intro l P hs
  refine g_ofG 7 (by decide +kernel) rfl (Nat.le_of_ble_eq_true rfl) (fun X hX => ?_)
  unfold F_M_in at hs
  refine g_loc (L2 := [(0, .int a0), (1, .int a1), (2, .int a2)]) [0, 1, 2] rfl ?_
  refine g_blk 2 [(.iload_n 0, 0, 0, 0, 0), (.iload_n 1, 0, 0, 0, 0)] [] [(0, .int a0), (1, .int a1), (2, .int a2)] [.int a1, .int a0] [] (by decide +kernel) rfl g_nil ?_
  have hJ2 : ∀ (v2 : Int32) (ev2 : v2 = (if a0 < a1 then (0 : Int32) else (if a2 < a0 then (0 : Int32) else (1 : Int32)))), g_G X rm_M_in c_M_in 3 7 (some .boolean) 15 [] [.int v2] [] := by
    intro v2 ev2
    subst ev2
    have hq := g_sat_s hs
    exact g_zret hX (by decide +kernel) rfl (by repeat (first | exact Or.inl rfl | exact Or.inr rfl | split)) hq
  refine g_br 14 (.if_icmp .lt 12) (a0 < a1) [] (by decide +kernel) rfl (fun c4 => ?_) (fun c4 => ?_)
  · refine g_blk 15 [(.iconst 0, 0, 0, 0, 0)] [] [(0, .int a0), (1, .int a1), (2, .int a2)] [.int (0 : Int32)] [] (by decide +kernel) rfl g_nil ?_
    refine g_loc (L2 := []) [] rfl ?_
    exact hJ2 _ (by rw [if_pos c4])
  · refine g_blk 7 [(.iload_n 0, 0, 0, 0, 0), (.iload_n 2, 0, 0, 0, 0)] [] [(0, .int a0), (1, .int a1), (2, .int a2)] [.int a2, .int a0] [] (by decide +kernel) rfl g_nil ?_
    refine g_br 14 (.if_icmp .gt 7) (a2 < a0) [] (by decide +kernel) rfl (fun c5 => ?_) (fun c5 => ?_)
    · refine g_blk 15 [(.iconst 0, 0, 0, 0, 0)] [] [(0, .int a0), (1, .int a1), (2, .int a2)] [.int (0 : Int32)] [] (by decide +kernel) rfl g_nil ?_
      refine g_loc (L2 := []) [] rfl ?_
      exact hJ2 _ (by rw [if_neg c4, if_pos c5])
    · refine g_blk 15 [(.iconst 1, 0, 0, 1, 0), (.goto 4, 0, 0, 0, 0)] [] [(0, .int a0), (1, .int a1), (2, .int a2)] [.int (1 : Int32)] [] (by decide +kernel) rfl g_nil ?_
      refine g_loc (L2 := []) [] rfl ?_
      exact hJ2 _ (by rw [if_neg c4, if_neg c5])
abbrev rm_M_has : Room := { frames := 0, cells := 0, slots := 0, locals := 0 }
def F_M_has (a0 : Int32) (a1 : Int32) : Int32 := (if ((g_ishr a0 a1) &&& (1 : Int32)) = (1 : Int32) then (1 : Int32) else (0 : Int32))
theorem bo_M_has (a0 : Int32) (a1 : Int32) : F_M_has a0 a1 = 0 ∨ F_M_has a0 a1 = 1 := by
  unfold F_M_has
  repeat (first | exact Or.inl rfl | exact Or.inr rfl | split)
set_option maxRecDepth 100000 in
theorem ct_M_has (a0 : Int32) (a1 : Int32) : g_F y_M_has c_M_has 2 (some .boolean) rm_M_has [.int a0, .int a1] [] (some (F_M_has a0 a1)) (fun o => some (.int o)) (fun _ => []) := by
  intro l P hs
  refine g_ofG 7 (by decide +kernel) rfl (Nat.le_of_ble_eq_true rfl) (fun X hX => ?_)
  unfold F_M_has at hs
  refine g_loc (L2 := [(0, .int a0), (1, .int a1)]) [0, 1] rfl ?_
  refine g_blk 6 [(.iload_n 0, 0, 0, 0, 0), (.iload_n 1, 0, 0, 0, 0), (.ishr, 0, 0, 0, 0), (.iconst 1, 0, 0, 1, 0), (.iand, 0, 0, 0, 0), (.iconst 1, 0, 0, 1, 0)] [] [(0, .int a0), (1, .int a1)] [.int (1 : Int32), .int ((g_ishr a0 a1) &&& (1 : Int32))] [] (by decide +kernel) rfl g_nil ?_
  have hJ2 : ∀ (v2 : Int32) (ev2 : v2 = (if ((g_ishr a0 a1) &&& (1 : Int32)) = (1 : Int32) then (1 : Int32) else (0 : Int32))), g_G X rm_M_has c_M_has 2 7 (some .boolean) 14 [] [.int v2] [] := by
    intro v2 ev2
    subst ev2
    have hq := g_sat_s hs
    exact g_zret hX (by decide +kernel) rfl (by repeat (first | exact Or.inl rfl | exact Or.inr rfl | split)) hq
  refine g_brn 13 (.if_icmp .ne 7) (((g_ishr a0 a1) &&& (1 : Int32)) = (1 : Int32)) [] (by decide +kernel) rfl (fun c4 => ?_) (fun c4 => ?_)
  · refine g_blk 14 [(.iconst 0, 0, 0, 0, 0)] [] [(0, .int a0), (1, .int a1)] [.int (0 : Int32)] [] (by decide +kernel) rfl g_nil ?_
    refine g_loc (L2 := []) [] rfl ?_
    exact hJ2 _ (by rw [if_neg c4])
  · refine g_blk 14 [(.iconst 1, 0, 0, 1, 0), (.goto 4, 0, 0, 0, 0)] [] [(0, .int a0), (1, .int a1)] [.int (1 : Int32)] [] (by decide +kernel) rfl g_nil ?_
    refine g_loc (L2 := []) [] rfl ?_
    exact hJ2 _ (by rw [if_pos c4])
abbrev rm_M_remembers : Room := { frames := 0, cells := 0, slots := 0, locals := 0 }
def M_remembers_l1 : Nat → Int32 → (Nat → Int32) → Option (Nat → Int32)
  | 0, _, _ => none
  | n + 1, b1_3, w_past_4 => (if (525 : Int32) ≤ b1_3 then (some w_past_4) else (g_chk (g_inb (b1_3 + (105 : Int32)) 630) (g_chk (g_inb b1_3 630) (M_remembers_l1 n (b1_3 + (1 : Int32)) (upd w_past_4 b1_3.toNatClampNeg (w_past_4 ((b1_3 + (105 : Int32))).toNatClampNeg))))))
theorem M_remembers_l1_s (n : Nat) (b1_3 : Int32) (w_past_4 : Nat → Int32) : M_remembers_l1 (n + 1) b1_3 w_past_4 = (if (525 : Int32) ≤ b1_3 then (some w_past_4) else (g_chk (g_inb (b1_3 + (105 : Int32)) 630) (g_chk (g_inb b1_3 630) (M_remembers_l1 n (b1_3 + (1 : Int32)) (upd w_past_4 b1_3.toNatClampNeg (w_past_4 ((b1_3 + (105 : Int32))).toNatClampNeg)))))) := rfl
def M_remembers_l2 (o2 : Int32 × (Nat → Int32)) (f_now : Nat → Int32) : Nat → Int32 → (Nat → Int32) → Option (Nat → Int32)
  | 0, _, _ => none
  | n + 1, b1_9, w_past_10 => (if (105 : Int32) ≤ b1_9 then (some w_past_10) else (g_chk (g_inb b1_9 105) (g_chk (g_inb (((105 : Int32) * o2.1) + b1_9) 630) (M_remembers_l2 o2 f_now n (b1_9 + (1 : Int32)) (upd w_past_10 ((((105 : Int32) * o2.1) + b1_9)).toNatClampNeg (f_now b1_9.toNatClampNeg))))))
theorem M_remembers_l2_s (o2 : Int32 × (Nat → Int32)) (f_now : Nat → Int32) (n : Nat) (b1_9 : Int32) (w_past_10 : Nat → Int32) : M_remembers_l2 o2 f_now (n + 1) b1_9 w_past_10 = (if (105 : Int32) ≤ b1_9 then (some w_past_10) else (g_chk (g_inb b1_9 105) (g_chk (g_inb (((105 : Int32) * o2.1) + b1_9) 630) (M_remembers_l2 o2 f_now n (b1_9 + (1 : Int32)) (upd w_past_10 ((((105 : Int32) * o2.1) + b1_9)).toNatClampNeg (f_now b1_9.toNatClampNeg)))))) := rfl
def F_M_remembers (N : Nat) (f_undone : Int32) (f_now : Nat → Int32) (f_past : Nat → Int32) : Option (Int32 × (Nat → Int32)) := ((if f_undone = (6 : Int32) then ((M_remembers_l1 N (0 : Int32) f_past).bind fun o5 => (some ((f_undone - (1 : Int32)), o5))) else (some (f_undone, f_past))).bind fun o2 => ((M_remembers_l2 o2 f_now N (0 : Int32) o2.2).bind fun o11 => (some ((o2.1 + (1 : Int32)), o11))))
set_option maxRecDepth 100000 in
theorem ct_M_remembers (N : Nat) (f_undone : Int32) (f_letters : Int32) (f_showing : Int32) (f_spot : Int32) (f_tokenAt : Int32) (f_value : Int32) (f_laters : Int32) (f_places : Int32) (f_guesses : Int32) (f_ways : Int32) (f_now : Nat → Int32) (f_past : Nat → Int32) (f_images : Nat → Int32) (f_isKept : Nat → Int32) (f_text : Nat → Int32) (f_shown : Nat → Int32) (f_read : Nat → Int32) (f_letter : Nat → Int32) (f_sizes : Nat → Int32) (f_laterNumber : Nat → Int32) (f_many : Nat → Int32) (f_labelAt : Nat → Int32) (f_soAt : Nat → Int32) (f_meets : Nat → Int32) (f_wayFrom : Nat → Int32) (f_wayTo : Nat → Int32) (f_wayBy : Nat → Int32) (f_reach : Nat → Int64) (f_goesOn : Nat → Int32) (f_far : Nat → Int32) (f_round : Nat → Int32) (f_line : Nat → Int32) (f_guessAt : Nat → Int32) : g_F y_M_remembers c_M_remembers 2 none rm_M_remembers [.ref 0] (HM f_undone f_letters f_showing f_spot f_tokenAt f_value f_laters f_places f_guesses f_ways f_now f_past f_images f_isKept f_text f_shown f_read f_letter f_sizes f_laterNumber f_many f_labelAt f_soAt f_meets f_wayFrom f_wayTo f_wayBy f_reach f_goesOn f_far f_round f_line f_guessAt) (F_M_remembers N f_undone f_now f_past) (fun o => none) (fun o => (HM o.1 f_letters f_showing f_spot f_tokenAt f_value f_laters f_places f_guesses f_ways f_now o.2 f_images f_isKept f_text f_shown f_read f_letter f_sizes f_laterNumber f_many f_labelAt f_soAt f_meets f_wayFrom f_wayTo f_wayBy f_reach f_goesOn f_far f_round f_line f_guessAt)) := by
  intro l P hs
  refine g_ofG 7 (by decide +kernel) rfl (Nat.le_of_ble_eq_true rfl) (fun X hX => ?_)
  unfold F_M_remembers at hs
  refine g_loc (L2 := [(0, .ref 0)]) [0] rfl ?_
  refine g_blk 6 [(.aload_n 0, 0, 0, 0, 0), (.getfield 81, 7, 2, 0, 0), (.bipush 6, 0, 0, 6, 0)] [] [(0, .ref 0)] [.int (6 : Int32), .int f_undone] (HM f_undone f_letters f_showing f_spot f_tokenAt f_value f_laters f_places f_guesses f_ways f_now f_past f_images f_isKept f_text f_shown f_read f_letter f_sizes f_laterNumber f_many f_labelAt f_soAt f_meets f_wayFrom f_wayTo f_wayBy f_reach f_goesOn f_far f_round f_line f_guessAt) (by decide +kernel) rfl g_nil ?_
  refine g_join (fun (o2 : Int32 × (Nat → Int32)) => g_G X rm_M_remembers c_M_remembers 2 7 none 49 [(0, .ref 0)] [] (HM o2.1 f_letters f_showing f_spot f_tokenAt f_value f_laters f_places f_guesses f_ways f_now o2.2 f_images f_isKept f_text f_shown f_read f_letter f_sizes f_laterNumber f_many f_labelAt f_soAt f_meets f_wayFrom f_wayTo f_wayBy f_reach f_goesOn f_far f_round f_line f_guessAt)) hs (fun o2 hs => ?_) (fun hs => ?_)
  · refine g_blk 51 [(.iconst 0, 0, 0, 0, 0), (.istore_n 1, 0, 0, 0, 0)] [] [(1, .int (0 : Int32)), (0, .ref 0)] [] (HM o2.1 f_letters f_showing f_spot f_tokenAt f_value f_laters f_places f_guesses f_ways f_now o2.2 f_images f_isKept f_text f_shown f_read f_letter f_sizes f_laterNumber f_many f_labelAt f_soAt f_meets f_wayFrom f_wayTo f_wayBy f_reach f_goesOn f_far f_round f_line f_guessAt) (by decide +kernel) rfl g_nil ?_
    refine g_loc (L2 := [(0, .ref 0), (1, .int (0 : Int32))]) [1, 0] rfl ?_
    refine g_join (fun (o11 : Nat → Int32) => g_G X rm_M_remembers c_M_remembers 2 7 none 83 [(0, .ref 0)] [] (HM o2.1 f_letters f_showing f_spot f_tokenAt f_value f_laters f_places f_guesses f_ways f_now o11 f_images f_isKept f_text f_shown f_read f_letter f_sizes f_laterNumber f_many f_labelAt f_soAt f_meets f_wayFrom f_wayTo f_wayBy f_reach f_goesOn f_far f_round f_line f_guessAt)) hs (fun o11 hs => ?_) (fun hs => ?_)
    · refine g_blk 93 [(.aload_n 0, 0, 0, 0, 0), (.dup, 0, 0, 0, 0), (.getfield 81, 7, 2, 0, 0), (.iconst 1, 0, 0, 1, 0), (.iadd, 0, 0, 0, 0), (.putfield 81, 7, 2, 1, 0)] [] [(0, .ref 0)] [] (HM (o2.1 + (1 : Int32)) f_letters f_showing f_spot f_tokenAt f_value f_laters f_places f_guesses f_ways f_now o11 f_images f_isKept f_text f_shown f_read f_letter f_sizes f_laterNumber f_many f_labelAt f_soAt f_meets f_wayFrom f_wayTo f_wayBy f_reach f_goesOn f_far f_round f_line f_guessAt) (by decide +kernel) rfl g_nil ?_
      have hq := g_sat_s hs
      exact g_vret hX (by decide +kernel) rfl hq
    · have hlM_remembers_l2 : ∀ (n : Nat) (b1_9 : Int32) (w_past_10 : Nat → Int32), g_sat (M_remembers_l2 o2 f_now n b1_9 w_past_10) (fun (o11 : Nat → Int32) => g_G X rm_M_remembers c_M_remembers 2 7 none 83 [(0, .ref 0)] [] (HM o2.1 f_letters f_showing f_spot f_tokenAt f_value f_laters f_places f_guesses f_ways f_now o11 f_images f_isKept f_text f_shown f_read f_letter f_sizes f_laterNumber f_many f_labelAt f_soAt f_meets f_wayFrom f_wayTo f_wayBy f_reach f_goesOn f_far f_round f_line f_guessAt)) → g_G X rm_M_remembers c_M_remembers 2 7 none 51 [(0, .ref 0), (1, .int b1_9)] [] (HM o2.1 f_letters f_showing f_spot f_tokenAt f_value f_laters f_places f_guesses f_ways f_now w_past_10 f_images f_isKept f_text f_shown f_read f_letter f_sizes f_laterNumber f_many f_labelAt f_soAt f_meets f_wayFrom f_wayTo f_wayBy f_reach f_goesOn f_far f_round f_line f_guessAt) := by
        intro n
        induction n with
        | zero =>
          intro b1_9 w_past_10 hs
          obtain ⟨_, h0, _⟩ := hs
          cases h0
        | succ n ih =>
          intro b1_9 w_past_10 hs
          rw [M_remembers_l2_s] at hs
          refine g_blk 54 [(.iload_n 1, 0, 0, 0, 0), (.bipush 105, 0, 0, 105, 0)] [] [(0, .ref 0), (1, .int b1_9)] [.int (105 : Int32), .int b1_9] (HM o2.1 f_letters f_showing f_spot f_tokenAt f_value f_laters f_places f_guesses f_ways f_now w_past_10 f_images f_isKept f_text f_shown f_read f_letter f_sizes f_laterNumber f_many f_labelAt f_soAt f_meets f_wayFrom f_wayTo f_wayBy f_reach f_goesOn f_far f_round f_line f_guessAt) (by decide +kernel) rfl g_nil ?_
          refine g_br 83 (.if_icmp .ge 29) ((105 : Int32) ≤ b1_9) [] (by decide +kernel) rfl (fun c12 => ?_) (fun c12 => ?_)
          · have hs := g_sat_t hs c12
            refine g_loc (L2 := [(0, .ref 0)]) [0] rfl ?_
            have hq := g_sat_s hs
            exact hq
          · have hs := g_sat_f hs c12
            obtain ⟨h13, hs⟩ := g_sat_c hs
            obtain ⟨h14, hs⟩ := g_sat_c hs
            refine g_blk 51 [(.aload_n 0, 0, 0, 0, 0), (.getfield 13, 7, 1, 0, 0), (.bipush 105, 0, 0, 105, 0), (.aload_n 0, 0, 0, 0, 0), (.getfield 81, 7, 2, 0, 0), (.imul, 0, 0, 0, 0), (.iload_n 1, 0, 0, 0, 0), (.iadd, 0, 0, 0, 0), (.aload_n 0, 0, 0, 0, 0), (.getfield 7, 7, 0, 0, 0), (.iload_n 1, 0, 0, 0, 0), (.iaload, 0, 0, 0, 0), (.iastore, 0, 0, 0, 0), (.iinc 1 1, 0, 0, 1, 0), (.goto (-29), 0, 0, 0, 0)] [vp_in b1_9 105, vp_in (((105 : Int32) * o2.1) + b1_9) 630] [(1, .int (b1_9 + (1 : Int32))), (0, .ref 0)] [] (HM o2.1 f_letters f_showing f_spot f_tokenAt f_value f_laters f_places f_guesses f_ways f_now (upd w_past_10 ((((105 : Int32) * o2.1) + b1_9)).toNatClampNeg (f_now b1_9.toNatClampNeg)) f_images f_isKept f_text f_shown f_read f_letter f_sizes f_laterNumber f_many f_labelAt f_soAt f_meets f_wayFrom f_wayTo f_wayBy f_reach f_goesOn f_far f_round f_line f_guessAt) (by decide +kernel) rfl (g_and (g_inb_in h13) (g_and (g_inb_in h14) g_nil)) ?_
            refine g_loc (L2 := [(0, .ref 0), (1, .int (b1_9 + (1 : Int32)))]) [1, 0] rfl ?_
            exact ih _ _ hs
      exact hlM_remembers_l2 N _ _ hs
  · refine g_brn 49 (.if_icmp .ne 43) (f_undone = (6 : Int32)) [] (by decide +kernel) rfl (fun c1 => ?_) (fun c1 => ?_)
    · have hs := g_sat_f hs c1
      have hq := g_sat_s hs
      exact hq
    · have hs := g_sat_t hs c1
      refine g_blk 11 [(.iconst 0, 0, 0, 0, 0), (.istore_n 1, 0, 0, 0, 0)] [] [(1, .int (0 : Int32)), (0, .ref 0)] [] (HM f_undone f_letters f_showing f_spot f_tokenAt f_value f_laters f_places f_guesses f_ways f_now f_past f_images f_isKept f_text f_shown f_read f_letter f_sizes f_laterNumber f_many f_labelAt f_soAt f_meets f_wayFrom f_wayTo f_wayBy f_reach f_goesOn f_far f_round f_line f_guessAt) (by decide +kernel) rfl g_nil ?_
      refine g_loc (L2 := [(0, .ref 0), (1, .int (0 : Int32))]) [1, 0] rfl ?_
      refine g_join (fun (o5 : Nat → Int32) => g_G X rm_M_remembers c_M_remembers 2 7 none 39 [(0, .ref 0)] [] (HM f_undone f_letters f_showing f_spot f_tokenAt f_value f_laters f_places f_guesses f_ways f_now o5 f_images f_isKept f_text f_shown f_read f_letter f_sizes f_laterNumber f_many f_labelAt f_soAt f_meets f_wayFrom f_wayTo f_wayBy f_reach f_goesOn f_far f_round f_line f_guessAt)) hs (fun o5 hs => ?_) (fun hs => ?_)
      · refine g_blk 49 [(.aload_n 0, 0, 0, 0, 0), (.dup, 0, 0, 0, 0), (.getfield 81, 7, 2, 0, 0), (.iconst 1, 0, 0, 1, 0), (.isub, 0, 0, 0, 0), (.putfield 81, 7, 2, 1, 0)] [] [(0, .ref 0)] [] (HM (f_undone - (1 : Int32)) f_letters f_showing f_spot f_tokenAt f_value f_laters f_places f_guesses f_ways f_now o5 f_images f_isKept f_text f_shown f_read f_letter f_sizes f_laterNumber f_many f_labelAt f_soAt f_meets f_wayFrom f_wayTo f_wayBy f_reach f_goesOn f_far f_round f_line f_guessAt) (by decide +kernel) rfl g_nil ?_
        have hq := g_sat_s hs
        exact hq
      · have hlM_remembers_l1 : ∀ (n : Nat) (b1_3 : Int32) (w_past_4 : Nat → Int32), g_sat (M_remembers_l1 n b1_3 w_past_4) (fun (o5 : Nat → Int32) => g_G X rm_M_remembers c_M_remembers 2 7 none 39 [(0, .ref 0)] [] (HM f_undone f_letters f_showing f_spot f_tokenAt f_value f_laters f_places f_guesses f_ways f_now o5 f_images f_isKept f_text f_shown f_read f_letter f_sizes f_laterNumber f_many f_labelAt f_soAt f_meets f_wayFrom f_wayTo f_wayBy f_reach f_goesOn f_far f_round f_line f_guessAt)) → g_G X rm_M_remembers c_M_remembers 2 7 none 11 [(0, .ref 0), (1, .int b1_3)] [] (HM f_undone f_letters f_showing f_spot f_tokenAt f_value f_laters f_places f_guesses f_ways f_now w_past_4 f_images f_isKept f_text f_shown f_read f_letter f_sizes f_laterNumber f_many f_labelAt f_soAt f_meets f_wayFrom f_wayTo f_wayBy f_reach f_goesOn f_far f_round f_line f_guessAt) := by
          intro n
          induction n with
          | zero =>
            intro b1_3 w_past_4 hs
            obtain ⟨_, h0, _⟩ := hs
            cases h0
          | succ n ih =>
            intro b1_3 w_past_4 hs
            rw [M_remembers_l1_s] at hs
            refine g_blk 15 [(.iload_n 1, 0, 0, 0, 0), (.sipush 525, 0, 0, 525, 0)] [] [(0, .ref 0), (1, .int b1_3)] [.int (525 : Int32), .int b1_3] (HM f_undone f_letters f_showing f_spot f_tokenAt f_value f_laters f_places f_guesses f_ways f_now w_past_4 f_images f_isKept f_text f_shown f_read f_letter f_sizes f_laterNumber f_many f_labelAt f_soAt f_meets f_wayFrom f_wayTo f_wayBy f_reach f_goesOn f_far f_round f_line f_guessAt) (by decide +kernel) rfl g_nil ?_
            refine g_br 39 (.if_icmp .ge 24) ((525 : Int32) ≤ b1_3) [] (by decide +kernel) rfl (fun c6 => ?_) (fun c6 => ?_)
            · have hs := g_sat_t hs c6
              refine g_loc (L2 := [(0, .ref 0)]) [0] rfl ?_
              have hq := g_sat_s hs
              exact hq
            · have hs := g_sat_f hs c6
              obtain ⟨h7, hs⟩ := g_sat_c hs
              obtain ⟨h8, hs⟩ := g_sat_c hs
              refine g_blk 11 [(.aload_n 0, 0, 0, 0, 0), (.getfield 13, 7, 1, 0, 0), (.iload_n 1, 0, 0, 0, 0), (.aload_n 0, 0, 0, 0, 0), (.getfield 13, 7, 1, 0, 0), (.iload_n 1, 0, 0, 0, 0), (.bipush 105, 0, 0, 105, 0), (.iadd, 0, 0, 0, 0), (.iaload, 0, 0, 0, 0), (.iastore, 0, 0, 0, 0), (.iinc 1 1, 0, 0, 1, 0), (.goto (-25), 0, 0, 0, 0)] [vp_in (b1_3 + (105 : Int32)) 630, vp_in b1_3 630] [(1, .int (b1_3 + (1 : Int32))), (0, .ref 0)] [] (HM f_undone f_letters f_showing f_spot f_tokenAt f_value f_laters f_places f_guesses f_ways f_now (upd w_past_4 b1_3.toNatClampNeg (w_past_4 ((b1_3 + (105 : Int32))).toNatClampNeg)) f_images f_isKept f_text f_shown f_read f_letter f_sizes f_laterNumber f_many f_labelAt f_soAt f_meets f_wayFrom f_wayTo f_wayBy f_reach f_goesOn f_far f_round f_line f_guessAt) (by decide +kernel) rfl (g_and (g_inb_in h7) (g_and (g_inb_in h8) g_nil)) ?_
              refine g_loc (L2 := [(0, .ref 0), (1, .int (b1_3 + (1 : Int32)))]) [1, 0] rfl ?_
              exact ih _ _ hs
        exact hlM_remembers_l1 N _ _ hs
abbrev rm_M_undo : Room := { frames := 0, cells := 0, slots := 0, locals := 0 }
def M_undo_l1 (f_undone : Int32) (f_past : Nat → Int32) : Nat → Int32 → (Nat → Int32) → Option (Nat → Int32)
  | 0, _, _ => none
  | n + 1, b1_2, w_now_3 => (if (105 : Int32) ≤ b1_2 then (some w_now_3) else (g_chk (g_inb (((105 : Int32) * (f_undone - (1 : Int32))) + b1_2) 630) (g_chk (g_inb b1_2 105) (M_undo_l1 f_undone f_past n (b1_2 + (1 : Int32)) (upd w_now_3 b1_2.toNatClampNeg (f_past ((((105 : Int32) * (f_undone - (1 : Int32))) + b1_2)).toNatClampNeg))))))
theorem M_undo_l1_s (f_undone : Int32) (f_past : Nat → Int32) (n : Nat) (b1_2 : Int32) (w_now_3 : Nat → Int32) : M_undo_l1 f_undone f_past (n + 1) b1_2 w_now_3 = (if (105 : Int32) ≤ b1_2 then (some w_now_3) else (g_chk (g_inb (((105 : Int32) * (f_undone - (1 : Int32))) + b1_2) 630) (g_chk (g_inb b1_2 105) (M_undo_l1 f_undone f_past n (b1_2 + (1 : Int32)) (upd w_now_3 b1_2.toNatClampNeg (f_past ((((105 : Int32) * (f_undone - (1 : Int32))) + b1_2)).toNatClampNeg)))))) := rfl
def F_M_undo (N : Nat) (f_undone : Int32) (f_now : Nat → Int32) (f_past : Nat → Int32) : Option (Int32 × Int32 × (Nat → Int32)) := (if f_undone = 0 then (some ((-2 : Int32), f_undone, f_now)) else ((M_undo_l1 f_undone f_past N (0 : Int32) f_now).bind fun o4 => (some ((f_undone - (1 : Int32)), (f_undone - (1 : Int32)), o4))))
set_option maxRecDepth 100000 in
theorem ct_M_undo (N : Nat) (f_undone : Int32) (f_letters : Int32) (f_showing : Int32) (f_spot : Int32) (f_tokenAt : Int32) (f_value : Int32) (f_laters : Int32) (f_places : Int32) (f_guesses : Int32) (f_ways : Int32) (f_now : Nat → Int32) (f_past : Nat → Int32) (f_images : Nat → Int32) (f_isKept : Nat → Int32) (f_text : Nat → Int32) (f_shown : Nat → Int32) (f_read : Nat → Int32) (f_letter : Nat → Int32) (f_sizes : Nat → Int32) (f_laterNumber : Nat → Int32) (f_many : Nat → Int32) (f_labelAt : Nat → Int32) (f_soAt : Nat → Int32) (f_meets : Nat → Int32) (f_wayFrom : Nat → Int32) (f_wayTo : Nat → Int32) (f_wayBy : Nat → Int32) (f_reach : Nat → Int64) (f_goesOn : Nat → Int32) (f_far : Nat → Int32) (f_round : Nat → Int32) (f_line : Nat → Int32) (f_guessAt : Nat → Int32) : g_F y_M_undo c_M_undo 2 (some .int) rm_M_undo [.ref 0] (HM f_undone f_letters f_showing f_spot f_tokenAt f_value f_laters f_places f_guesses f_ways f_now f_past f_images f_isKept f_text f_shown f_read f_letter f_sizes f_laterNumber f_many f_labelAt f_soAt f_meets f_wayFrom f_wayTo f_wayBy f_reach f_goesOn f_far f_round f_line f_guessAt) (F_M_undo N f_undone f_now f_past) (fun o => some (.int o.1)) (fun o => (HM o.2.1 f_letters f_showing f_spot f_tokenAt f_value f_laters f_places f_guesses f_ways o.2.2 f_past f_images f_isKept f_text f_shown f_read f_letter f_sizes f_laterNumber f_many f_labelAt f_soAt f_meets f_wayFrom f_wayTo f_wayBy f_reach f_goesOn f_far f_round f_line f_guessAt)) := by
  intro l P hs
  refine g_ofG 7 (by decide +kernel) rfl (Nat.le_of_ble_eq_true rfl) (fun X hX => ?_)
  unfold F_M_undo at hs
  refine g_loc (L2 := [(0, .ref 0)]) [0] rfl ?_
  refine g_blk 4 [(.aload_n 0, 0, 0, 0, 0), (.getfield 81, 7, 2, 0, 0)] [] [(0, .ref 0)] [.int f_undone] (HM f_undone f_letters f_showing f_spot f_tokenAt f_value f_laters f_places f_guesses f_ways f_now f_past f_images f_isKept f_text f_shown f_read f_letter f_sizes f_laterNumber f_many f_labelAt f_soAt f_meets f_wayFrom f_wayTo f_wayBy f_reach f_goesOn f_far f_round f_line f_guessAt) (by decide +kernel) rfl g_nil ?_
  refine g_brn 10 (.ifCond .ne 6) (f_undone = 0) [] (by decide +kernel) rfl (fun c1 => ?_) (fun c1 => ?_)
  · have hs := g_sat_f hs c1
    refine g_blk 22 [(.aload_n 0, 0, 0, 0, 0), (.dup, 0, 0, 0, 0), (.getfield 81, 7, 2, 0, 0), (.iconst 1, 0, 0, 1, 0), (.isub, 0, 0, 0, 0), (.putfield 81, 7, 2, 1, 0), (.iconst 0, 0, 0, 0, 0), (.istore_n 1, 0, 0, 0, 0)] [] [(1, .int (0 : Int32)), (0, .ref 0)] [] (HM (f_undone - (1 : Int32)) f_letters f_showing f_spot f_tokenAt f_value f_laters f_places f_guesses f_ways f_now f_past f_images f_isKept f_text f_shown f_read f_letter f_sizes f_laterNumber f_many f_labelAt f_soAt f_meets f_wayFrom f_wayTo f_wayBy f_reach f_goesOn f_far f_round f_line f_guessAt) (by decide +kernel) rfl g_nil ?_
    refine g_loc (L2 := [(0, .ref 0), (1, .int (0 : Int32))]) [1, 0] rfl ?_
    refine g_join (fun (o4 : Nat → Int32) => g_G X rm_M_undo c_M_undo 2 7 (some .int) 54 [(0, .ref 0)] [] (HM (f_undone - (1 : Int32)) f_letters f_showing f_spot f_tokenAt f_value f_laters f_places f_guesses f_ways o4 f_past f_images f_isKept f_text f_shown f_read f_letter f_sizes f_laterNumber f_many f_labelAt f_soAt f_meets f_wayFrom f_wayTo f_wayBy f_reach f_goesOn f_far f_round f_line f_guessAt)) hs (fun o4 hs => ?_) (fun hs => ?_)
    · refine g_blk 58 [(.aload_n 0, 0, 0, 0, 0), (.getfield 81, 7, 2, 0, 0)] [] [(0, .ref 0)] [.int (f_undone - (1 : Int32))] (HM (f_undone - (1 : Int32)) f_letters f_showing f_spot f_tokenAt f_value f_laters f_places f_guesses f_ways o4 f_past f_images f_isKept f_text f_shown f_read f_letter f_sizes f_laterNumber f_many f_labelAt f_soAt f_meets f_wayFrom f_wayTo f_wayBy f_reach f_goesOn f_far f_round f_line f_guessAt) (by decide +kernel) rfl g_nil ?_
      have hq := g_sat_s hs
      exact g_iret hX (by decide +kernel) rfl hq
    · have hlM_undo_l1 : ∀ (n : Nat) (b1_2 : Int32) (w_now_3 : Nat → Int32), g_sat (M_undo_l1 f_undone f_past n b1_2 w_now_3) (fun (o4 : Nat → Int32) => g_G X rm_M_undo c_M_undo 2 7 (some .int) 54 [(0, .ref 0)] [] (HM (f_undone - (1 : Int32)) f_letters f_showing f_spot f_tokenAt f_value f_laters f_places f_guesses f_ways o4 f_past f_images f_isKept f_text f_shown f_read f_letter f_sizes f_laterNumber f_many f_labelAt f_soAt f_meets f_wayFrom f_wayTo f_wayBy f_reach f_goesOn f_far f_round f_line f_guessAt)) → g_G X rm_M_undo c_M_undo 2 7 (some .int) 22 [(0, .ref 0), (1, .int b1_2)] [] (HM (f_undone - (1 : Int32)) f_letters f_showing f_spot f_tokenAt f_value f_laters f_places f_guesses f_ways w_now_3 f_past f_images f_isKept f_text f_shown f_read f_letter f_sizes f_laterNumber f_many f_labelAt f_soAt f_meets f_wayFrom f_wayTo f_wayBy f_reach f_goesOn f_far f_round f_line f_guessAt) := by
        intro n
        induction n with
        | zero =>
          intro b1_2 w_now_3 hs
          obtain ⟨_, h0, _⟩ := hs
          cases h0
        | succ n ih =>
          intro b1_2 w_now_3 hs
          rw [M_undo_l1_s] at hs
          refine g_blk 25 [(.iload_n 1, 0, 0, 0, 0), (.bipush 105, 0, 0, 105, 0)] [] [(0, .ref 0), (1, .int b1_2)] [.int (105 : Int32), .int b1_2] (HM (f_undone - (1 : Int32)) f_letters f_showing f_spot f_tokenAt f_value f_laters f_places f_guesses f_ways w_now_3 f_past f_images f_isKept f_text f_shown f_read f_letter f_sizes f_laterNumber f_many f_labelAt f_soAt f_meets f_wayFrom f_wayTo f_wayBy f_reach f_goesOn f_far f_round f_line f_guessAt) (by decide +kernel) rfl g_nil ?_
          refine g_br 54 (.if_icmp .ge 29) ((105 : Int32) ≤ b1_2) [] (by decide +kernel) rfl (fun c5 => ?_) (fun c5 => ?_)
          · have hs := g_sat_t hs c5
            refine g_loc (L2 := [(0, .ref 0)]) [0] rfl ?_
            have hq := g_sat_s hs
            exact hq
          · have hs := g_sat_f hs c5
            obtain ⟨h6, hs⟩ := g_sat_c hs
            obtain ⟨h7, hs⟩ := g_sat_c hs
            refine g_blk 22 [(.aload_n 0, 0, 0, 0, 0), (.getfield 7, 7, 0, 0, 0), (.iload_n 1, 0, 0, 0, 0), (.aload_n 0, 0, 0, 0, 0), (.getfield 13, 7, 1, 0, 0), (.bipush 105, 0, 0, 105, 0), (.aload_n 0, 0, 0, 0, 0), (.getfield 81, 7, 2, 0, 0), (.imul, 0, 0, 0, 0), (.iload_n 1, 0, 0, 0, 0), (.iadd, 0, 0, 0, 0), (.iaload, 0, 0, 0, 0), (.iastore, 0, 0, 0, 0), (.iinc 1 1, 0, 0, 1, 0), (.goto (-29), 0, 0, 0, 0)] [vp_in (((105 : Int32) * (f_undone - (1 : Int32))) + b1_2) 630, vp_in b1_2 105] [(1, .int (b1_2 + (1 : Int32))), (0, .ref 0)] [] (HM (f_undone - (1 : Int32)) f_letters f_showing f_spot f_tokenAt f_value f_laters f_places f_guesses f_ways (upd w_now_3 b1_2.toNatClampNeg (f_past ((((105 : Int32) * (f_undone - (1 : Int32))) + b1_2)).toNatClampNeg)) f_past f_images f_isKept f_text f_shown f_read f_letter f_sizes f_laterNumber f_many f_labelAt f_soAt f_meets f_wayFrom f_wayTo f_wayBy f_reach f_goesOn f_far f_round f_line f_guessAt) (by decide +kernel) rfl (g_and (g_inb_in h6) (g_and (g_inb_in h7) g_nil)) ?_
            refine g_loc (L2 := [(0, .ref 0), (1, .int (b1_2 + (1 : Int32)))]) [1, 0] rfl ?_
            exact ih _ _ hs
      exact hlM_undo_l1 N _ _ hs
  · have hs := g_sat_t hs c1
    refine g_blk 9 [(.bipush (-2), 0, 0, (-2), 0)] [] [(0, .ref 0)] [.int (-2 : Int32)] (HM f_undone f_letters f_showing f_spot f_tokenAt f_value f_laters f_places f_guesses f_ways f_now f_past f_images f_isKept f_text f_shown f_read f_letter f_sizes f_laterNumber f_many f_labelAt f_soAt f_meets f_wayFrom f_wayTo f_wayBy f_reach f_goesOn f_far f_round f_line f_guessAt) (by decide +kernel) rfl g_nil ?_
    have hq := g_sat_s hs
    exact g_iret hX (by decide +kernel) rfl hq
abbrev rm_M_type : Room := { frames := 1, cells := 0, slots := 0, locals := 22 }
def F_M_type (f_letters : Int32) (f_text : Nat → Int32) (a1 : Int32) : Option (Int32 × Int32 × (Nat → Int32)) := (if (F_M_in a1 (0 : Int32) (255 : Int32)) = 0 then (some ((-1 : Int32), f_letters, f_text)) else (if f_letters = (120 : Int32) then (some ((-3 : Int32), f_letters, f_text)) else (g_chk (g_inb f_letters 120) (some ((f_letters + (1 : Int32)), (f_letters + (1 : Int32)), (upd f_text f_letters.toNatClampNeg a1))))))
set_option maxRecDepth 100000 in
theorem ct_M_type (f_undone : Int32) (f_letters : Int32) (f_showing : Int32) (f_spot : Int32) (f_tokenAt : Int32) (f_value : Int32) (f_laters : Int32) (f_places : Int32) (f_guesses : Int32) (f_ways : Int32) (f_now : Nat → Int32) (f_past : Nat → Int32) (f_images : Nat → Int32) (f_isKept : Nat → Int32) (f_text : Nat → Int32) (f_shown : Nat → Int32) (f_read : Nat → Int32) (f_letter : Nat → Int32) (f_sizes : Nat → Int32) (f_laterNumber : Nat → Int32) (f_many : Nat → Int32) (f_labelAt : Nat → Int32) (f_soAt : Nat → Int32) (f_meets : Nat → Int32) (f_wayFrom : Nat → Int32) (f_wayTo : Nat → Int32) (f_wayBy : Nat → Int32) (f_reach : Nat → Int64) (f_goesOn : Nat → Int32) (f_far : Nat → Int32) (f_round : Nat → Int32) (f_line : Nat → Int32) (f_guessAt : Nat → Int32) (a1 : Int32) : g_F y_M_type c_M_type 2 (some .int) rm_M_type [.ref 0, .int a1] (HM f_undone f_letters f_showing f_spot f_tokenAt f_value f_laters f_places f_guesses f_ways f_now f_past f_images f_isKept f_text f_shown f_read f_letter f_sizes f_laterNumber f_many f_labelAt f_soAt f_meets f_wayFrom f_wayTo f_wayBy f_reach f_goesOn f_far f_round f_line f_guessAt) (F_M_type f_letters f_text a1) (fun o => some (.int o.1)) (fun o => (HM f_undone o.2.1 f_showing f_spot f_tokenAt f_value f_laters f_places f_guesses f_ways f_now f_past f_images f_isKept o.2.2 f_shown f_read f_letter f_sizes f_laterNumber f_many f_labelAt f_soAt f_meets f_wayFrom f_wayTo f_wayBy f_reach f_goesOn f_far f_round f_line f_guessAt)) := by
  intro l P hs
  refine g_ofG 7 (by decide +kernel) rfl (Nat.le_of_ble_eq_true rfl) (fun X hX => ?_)
  unfold F_M_type at hs
  refine g_loc (L2 := [(0, .ref 0), (1, .int a1)]) [0, 1] rfl ?_
  refine g_blk 5 [(.iload_n 1, 0, 0, 0, 0), (.iconst 0, 0, 0, 0, 0), (.sipush 255, 0, 0, 255, 0)] [] [(0, .ref 0), (1, .int a1)] [.int (255 : Int32), .int (0 : Int32), .int a1] (HM f_undone f_letters f_showing f_spot f_tokenAt f_value f_laters f_places f_guesses f_ways f_now f_past f_images f_isKept f_text f_shown f_read f_letter f_sizes f_laterNumber f_many f_labelAt f_soAt f_meets f_wayFrom f_wayTo f_wayBy f_reach f_goesOn f_far f_round f_line f_guessAt) (by decide +kernel) rfl g_nil ?_
  refine g_pN (ct_M_in a1 (0 : Int32) (255 : Int32)) 85 3 lk_7_85 (by decide +kernel) rfl ⟨rfl, rfl, by decide, by decide⟩ [] rfl (by decide) ?_
  refine g_brn 13 (.ifCond .ne 5) ((F_M_in a1 (0 : Int32) (255 : Int32)) = 0) [] (by decide +kernel) rfl (fun c1 => ?_) (fun c1 => ?_)
  · have hs := g_sat_f hs c1
    refine g_blk 19 [(.aload_n 0, 0, 0, 0, 0), (.getfield 89, 7, 6, 0, 0), (.bipush 120, 0, 0, 120, 0)] [] [(0, .ref 0), (1, .int a1)] [.int (120 : Int32), .int f_letters] (HM f_undone f_letters f_showing f_spot f_tokenAt f_value f_laters f_places f_guesses f_ways f_now f_past f_images f_isKept f_text f_shown f_read f_letter f_sizes f_laterNumber f_many f_labelAt f_soAt f_meets f_wayFrom f_wayTo f_wayBy f_reach f_goesOn f_far f_round f_line f_guessAt) (by decide +kernel) rfl g_nil ?_
    refine g_brn 25 (.if_icmp .ne 6) (f_letters = (120 : Int32)) [] (by decide +kernel) rfl (fun c2 => ?_) (fun c2 => ?_)
    · have hs := g_sat_f hs c2
      obtain ⟨h3, hs⟩ := g_sat_c hs
      refine g_blk 49 [(.aload_n 0, 0, 0, 0, 0), (.getfield 23, 7, 5, 0, 0), (.aload_n 0, 0, 0, 0, 0), (.getfield 89, 7, 6, 0, 0), (.iload_n 1, 0, 0, 0, 0), (.iastore, 0, 0, 0, 0), (.aload_n 0, 0, 0, 0, 0), (.dup, 0, 0, 0, 0), (.getfield 89, 7, 6, 0, 0), (.iconst 1, 0, 0, 1, 0), (.iadd, 0, 0, 0, 0), (.putfield 89, 7, 6, 1, 0), (.aload_n 0, 0, 0, 0, 0), (.getfield 89, 7, 6, 0, 0)] [vp_in f_letters 120] [(0, .ref 0), (1, .int a1)] [.int (f_letters + (1 : Int32))] (HM f_undone (f_letters + (1 : Int32)) f_showing f_spot f_tokenAt f_value f_laters f_places f_guesses f_ways f_now f_past f_images f_isKept (upd f_text f_letters.toNatClampNeg a1) f_shown f_read f_letter f_sizes f_laterNumber f_many f_labelAt f_soAt f_meets f_wayFrom f_wayTo f_wayBy f_reach f_goesOn f_far f_round f_line f_guessAt) (by decide +kernel) rfl (g_and (g_inb_in h3) g_nil) ?_
      have hq := g_sat_s hs
      exact g_iret hX (by decide +kernel) rfl hq
    · have hs := g_sat_t hs c2
      refine g_blk 24 [(.bipush (-3), 0, 0, (-3), 0)] [] [(0, .ref 0), (1, .int a1)] [.int (-3 : Int32)] (HM f_undone f_letters f_showing f_spot f_tokenAt f_value f_laters f_places f_guesses f_ways f_now f_past f_images f_isKept f_text f_shown f_read f_letter f_sizes f_laterNumber f_many f_labelAt f_soAt f_meets f_wayFrom f_wayTo f_wayBy f_reach f_goesOn f_far f_round f_line f_guessAt) (by decide +kernel) rfl g_nil ?_
      have hq := g_sat_s hs
      exact g_iret hX (by decide +kernel) rfl hq
  · have hs := g_sat_t hs c1
    refine g_blk 12 [(.iconst (-1), 0, 0, (-1), 0)] [] [(0, .ref 0), (1, .int a1)] [.int (-1 : Int32)] (HM f_undone f_letters f_showing f_spot f_tokenAt f_value f_laters f_places f_guesses f_ways f_now f_past f_images f_isKept f_text f_shown f_read f_letter f_sizes f_laterNumber f_many f_labelAt f_soAt f_meets f_wayFrom f_wayTo f_wayBy f_reach f_goesOn f_far f_round f_line f_guessAt) (by decide +kernel) rfl g_nil ?_
    have hq := g_sat_s hs
    exact g_iret hX (by decide +kernel) rfl hq
abbrev rm_M_clear : Room := { frames := 0, cells := 0, slots := 0, locals := 0 }
def F_M_clear (f_letters : Int32) : Option (Int32 × Int32) := (some (f_letters, (0 : Int32)))
set_option maxRecDepth 100000 in
theorem ct_M_clear (f_undone : Int32) (f_letters : Int32) (f_showing : Int32) (f_spot : Int32) (f_tokenAt : Int32) (f_value : Int32) (f_laters : Int32) (f_places : Int32) (f_guesses : Int32) (f_ways : Int32) (f_now : Nat → Int32) (f_past : Nat → Int32) (f_images : Nat → Int32) (f_isKept : Nat → Int32) (f_text : Nat → Int32) (f_shown : Nat → Int32) (f_read : Nat → Int32) (f_letter : Nat → Int32) (f_sizes : Nat → Int32) (f_laterNumber : Nat → Int32) (f_many : Nat → Int32) (f_labelAt : Nat → Int32) (f_soAt : Nat → Int32) (f_meets : Nat → Int32) (f_wayFrom : Nat → Int32) (f_wayTo : Nat → Int32) (f_wayBy : Nat → Int32) (f_reach : Nat → Int64) (f_goesOn : Nat → Int32) (f_far : Nat → Int32) (f_round : Nat → Int32) (f_line : Nat → Int32) (f_guessAt : Nat → Int32) : g_F y_M_clear c_M_clear 2 (some .int) rm_M_clear [.ref 0] (HM f_undone f_letters f_showing f_spot f_tokenAt f_value f_laters f_places f_guesses f_ways f_now f_past f_images f_isKept f_text f_shown f_read f_letter f_sizes f_laterNumber f_many f_labelAt f_soAt f_meets f_wayFrom f_wayTo f_wayBy f_reach f_goesOn f_far f_round f_line f_guessAt) (F_M_clear f_letters) (fun o => some (.int o.1)) (fun o => (HM f_undone o.2 f_showing f_spot f_tokenAt f_value f_laters f_places f_guesses f_ways f_now f_past f_images f_isKept f_text f_shown f_read f_letter f_sizes f_laterNumber f_many f_labelAt f_soAt f_meets f_wayFrom f_wayTo f_wayBy f_reach f_goesOn f_far f_round f_line f_guessAt)) := by
  intro l P hs
  refine g_ofG 7 (by decide +kernel) rfl (Nat.le_of_ble_eq_true rfl) (fun X hX => ?_)
  unfold F_M_clear at hs
  refine g_loc (L2 := [(0, .ref 0)]) [0] rfl ?_
  refine g_blk 11 [(.aload_n 0, 0, 0, 0, 0), (.getfield 89, 7, 6, 0, 0), (.istore_n 1, 0, 0, 0, 0), (.aload_n 0, 0, 0, 0, 0), (.iconst 0, 0, 0, 0, 0), (.putfield 89, 7, 6, 1, 0), (.iload_n 1, 0, 0, 0, 0)] [] [(1, .int f_letters), (0, .ref 0)] [.int f_letters] (HM f_undone (0 : Int32) f_showing f_spot f_tokenAt f_value f_laters f_places f_guesses f_ways f_now f_past f_images f_isKept f_text f_shown f_read f_letter f_sizes f_laterNumber f_many f_labelAt f_soAt f_meets f_wayFrom f_wayTo f_wayBy f_reach f_goesOn f_far f_round f_line f_guessAt) (by decide +kernel) rfl g_nil ?_
  have hq := g_sat_s hs
  exact g_iret hX (by decide +kernel) rfl hq
abbrev rm_M_blanks : Room := { frames := 0, cells := 0, slots := 0, locals := 0 }
def M_blanks_l1 (f_letters : Int32) (f_text : Nat → Int32) : Nat → Int32 → Option Int32
  | 0, _ => none
  | n + 1, w_spot_1 => (if f_letters ≤ w_spot_1 then (some w_spot_1) else (g_chk (g_inb w_spot_1 120) (if (f_text w_spot_1.toNatClampNeg) = (32 : Int32) then (M_blanks_l1 f_letters f_text n (w_spot_1 + (1 : Int32))) else (some w_spot_1))))
theorem M_blanks_l1_s (f_letters : Int32) (f_text : Nat → Int32) (n : Nat) (w_spot_1 : Int32) : M_blanks_l1 f_letters f_text (n + 1) w_spot_1 = (if f_letters ≤ w_spot_1 then (some w_spot_1) else (g_chk (g_inb w_spot_1 120) (if (f_text w_spot_1.toNatClampNeg) = (32 : Int32) then (M_blanks_l1 f_letters f_text n (w_spot_1 + (1 : Int32))) else (some w_spot_1)))) := rfl
def F_M_blanks (N : Nat) (f_letters : Int32) (f_spot : Int32) (f_text : Nat → Int32) : Option (Int32 × Int32) := ((M_blanks_l1 f_letters f_text N f_spot).bind fun o2 => (some (o2, o2)))
set_option maxRecDepth 100000 in
theorem ct_M_blanks (N : Nat) (f_undone : Int32) (f_letters : Int32) (f_showing : Int32) (f_spot : Int32) (f_tokenAt : Int32) (f_value : Int32) (f_laters : Int32) (f_places : Int32) (f_guesses : Int32) (f_ways : Int32) (f_now : Nat → Int32) (f_past : Nat → Int32) (f_images : Nat → Int32) (f_isKept : Nat → Int32) (f_text : Nat → Int32) (f_shown : Nat → Int32) (f_read : Nat → Int32) (f_letter : Nat → Int32) (f_sizes : Nat → Int32) (f_laterNumber : Nat → Int32) (f_many : Nat → Int32) (f_labelAt : Nat → Int32) (f_soAt : Nat → Int32) (f_meets : Nat → Int32) (f_wayFrom : Nat → Int32) (f_wayTo : Nat → Int32) (f_wayBy : Nat → Int32) (f_reach : Nat → Int64) (f_goesOn : Nat → Int32) (f_far : Nat → Int32) (f_round : Nat → Int32) (f_line : Nat → Int32) (f_guessAt : Nat → Int32) : g_F y_M_blanks c_M_blanks 1 none rm_M_blanks [.ref 0] (HM f_undone f_letters f_showing f_spot f_tokenAt f_value f_laters f_places f_guesses f_ways f_now f_past f_images f_isKept f_text f_shown f_read f_letter f_sizes f_laterNumber f_many f_labelAt f_soAt f_meets f_wayFrom f_wayTo f_wayBy f_reach f_goesOn f_far f_round f_line f_guessAt) (F_M_blanks N f_letters f_spot f_text) (fun o => none) (fun o => (HM f_undone f_letters f_showing o.1 o.2 f_value f_laters f_places f_guesses f_ways f_now f_past f_images f_isKept f_text f_shown f_read f_letter f_sizes f_laterNumber f_many f_labelAt f_soAt f_meets f_wayFrom f_wayTo f_wayBy f_reach f_goesOn f_far f_round f_line f_guessAt)) := by
  intro l P hs
  refine g_ofG 7 (by decide +kernel) rfl (Nat.le_of_ble_eq_true rfl) (fun X hX => ?_)
  unfold F_M_blanks at hs
  refine g_loc (L2 := [(0, .ref 0)]) [0] rfl ?_
  refine g_join (fun (o2 : Int32) => g_G X rm_M_blanks c_M_blanks 1 7 none 38 [(0, .ref 0)] [] (HM f_undone f_letters f_showing o2 f_tokenAt f_value f_laters f_places f_guesses f_ways f_now f_past f_images f_isKept f_text f_shown f_read f_letter f_sizes f_laterNumber f_many f_labelAt f_soAt f_meets f_wayFrom f_wayTo f_wayBy f_reach f_goesOn f_far f_round f_line f_guessAt)) hs (fun o2 hs => ?_) (fun hs => ?_)
  · refine g_blk 46 [(.aload_n 0, 0, 0, 0, 0), (.aload_n 0, 0, 0, 0, 0), (.getfield 92, 7, 10, 0, 0), (.putfield 95, 7, 11, 1, 0)] [] [(0, .ref 0)] [] (HM f_undone f_letters f_showing o2 o2 f_value f_laters f_places f_guesses f_ways f_now f_past f_images f_isKept f_text f_shown f_read f_letter f_sizes f_laterNumber f_many f_labelAt f_soAt f_meets f_wayFrom f_wayTo f_wayBy f_reach f_goesOn f_far f_round f_line f_guessAt) (by decide +kernel) rfl g_nil ?_
    have hq := g_sat_s hs
    exact g_vret hX (by decide +kernel) rfl hq
  · have hlM_blanks_l1 : ∀ (n : Nat) (w_spot_1 : Int32), g_sat (M_blanks_l1 f_letters f_text n w_spot_1) (fun (o2 : Int32) => g_G X rm_M_blanks c_M_blanks 1 7 none 38 [(0, .ref 0)] [] (HM f_undone f_letters f_showing o2 f_tokenAt f_value f_laters f_places f_guesses f_ways f_now f_past f_images f_isKept f_text f_shown f_read f_letter f_sizes f_laterNumber f_many f_labelAt f_soAt f_meets f_wayFrom f_wayTo f_wayBy f_reach f_goesOn f_far f_round f_line f_guessAt)) → g_G X rm_M_blanks c_M_blanks 1 7 none 0 [(0, .ref 0)] [] (HM f_undone f_letters f_showing w_spot_1 f_tokenAt f_value f_laters f_places f_guesses f_ways f_now f_past f_images f_isKept f_text f_shown f_read f_letter f_sizes f_laterNumber f_many f_labelAt f_soAt f_meets f_wayFrom f_wayTo f_wayBy f_reach f_goesOn f_far f_round f_line f_guessAt) := by
      intro n
      induction n with
      | zero =>
        intro w_spot_1 hs
        obtain ⟨_, h0, _⟩ := hs
        cases h0
      | succ n ih =>
        intro w_spot_1 hs
        rw [M_blanks_l1_s] at hs
        refine g_blk 8 [(.aload_n 0, 0, 0, 0, 0), (.getfield 92, 7, 10, 0, 0), (.aload_n 0, 0, 0, 0, 0), (.getfield 89, 7, 6, 0, 0)] [] [(0, .ref 0)] [.int f_letters, .int w_spot_1] (HM f_undone f_letters f_showing w_spot_1 f_tokenAt f_value f_laters f_places f_guesses f_ways f_now f_past f_images f_isKept f_text f_shown f_read f_letter f_sizes f_laterNumber f_many f_labelAt f_soAt f_meets f_wayFrom f_wayTo f_wayBy f_reach f_goesOn f_far f_round f_line f_guessAt) (by decide +kernel) rfl g_nil ?_
        refine g_br 38 (.if_icmp .ge 30) (f_letters ≤ w_spot_1) [] (by decide +kernel) rfl (fun c3 => ?_) (fun c3 => ?_)
        · have hs := g_sat_t hs c3
          have hq := g_sat_s hs
          exact hq
        · have hs := g_sat_f hs c3
          obtain ⟨h4, hs⟩ := g_sat_c hs
          refine g_blk 22 [(.aload_n 0, 0, 0, 0, 0), (.getfield 23, 7, 5, 0, 0), (.aload_n 0, 0, 0, 0, 0), (.getfield 92, 7, 10, 0, 0), (.iaload, 0, 0, 0, 0), (.bipush 32, 0, 0, 32, 0)] [vp_in w_spot_1 120] [(0, .ref 0)] [.int (32 : Int32), .int (f_text w_spot_1.toNatClampNeg)] (HM f_undone f_letters f_showing w_spot_1 f_tokenAt f_value f_laters f_places f_guesses f_ways f_now f_past f_images f_isKept f_text f_shown f_read f_letter f_sizes f_laterNumber f_many f_labelAt f_soAt f_meets f_wayFrom f_wayTo f_wayBy f_reach f_goesOn f_far f_round f_line f_guessAt) (by decide +kernel) rfl (g_and (g_inb_in h4) g_nil) ?_
          refine g_brn 38 (.if_icmp .ne 16) ((f_text w_spot_1.toNatClampNeg) = (32 : Int32)) [] (by decide +kernel) rfl (fun c5 => ?_) (fun c5 => ?_)
          · have hs := g_sat_f hs c5
            have hq := g_sat_s hs
            exact hq
          · have hs := g_sat_t hs c5
            refine g_blk 0 [(.aload_n 0, 0, 0, 0, 0), (.dup, 0, 0, 0, 0), (.getfield 92, 7, 10, 0, 0), (.iconst 1, 0, 0, 1, 0), (.iadd, 0, 0, 0, 0), (.putfield 92, 7, 10, 1, 0), (.goto (-35), 0, 0, 0, 0)] [] [(0, .ref 0)] [] (HM f_undone f_letters f_showing (w_spot_1 + (1 : Int32)) f_tokenAt f_value f_laters f_places f_guesses f_ways f_now f_past f_images f_isKept f_text f_shown f_read f_letter f_sizes f_laterNumber f_many f_labelAt f_soAt f_meets f_wayFrom f_wayTo f_wayBy f_reach f_goesOn f_far f_round f_line f_guessAt) (by decide +kernel) rfl g_nil ?_
            exact ih _ hs
    exact hlM_blanks_l1 N _ hs
abbrev rm_M_isAt : Room := { frames := 0, cells := 0, slots := 0, locals := 0 }
def F_M_isAt (f_letters : Int32) (f_spot : Int32) (f_text : Nat → Int32) (a1 : Int32) : Option Int32 := ((if f_letters ≤ f_spot then (some (0 : Int32)) else (g_chk (g_inb f_spot 120) (if (f_text f_spot.toNatClampNeg) = a1 then (some (1 : Int32)) else (some (0 : Int32))))).bind fun o2 => (g_chk (g_isb o2) (some o2)))
set_option maxRecDepth 100000 in
theorem ct_M_isAt (f_undone : Int32) (f_letters : Int32) (f_showing : Int32) (f_spot : Int32) (f_tokenAt : Int32) (f_value : Int32) (f_laters : Int32) (f_places : Int32) (f_guesses : Int32) (f_ways : Int32) (f_now : Nat → Int32) (f_past : Nat → Int32) (f_images : Nat → Int32) (f_isKept : Nat → Int32) (f_text : Nat → Int32) (f_shown : Nat → Int32) (f_read : Nat → Int32) (f_letter : Nat → Int32) (f_sizes : Nat → Int32) (f_laterNumber : Nat → Int32) (f_many : Nat → Int32) (f_labelAt : Nat → Int32) (f_soAt : Nat → Int32) (f_meets : Nat → Int32) (f_wayFrom : Nat → Int32) (f_wayTo : Nat → Int32) (f_wayBy : Nat → Int32) (f_reach : Nat → Int64) (f_goesOn : Nat → Int32) (f_far : Nat → Int32) (f_round : Nat → Int32) (f_line : Nat → Int32) (f_guessAt : Nat → Int32) (a1 : Int32) : g_F y_M_isAt c_M_isAt 2 (some .boolean) rm_M_isAt [.ref 0, .int a1] (HM f_undone f_letters f_showing f_spot f_tokenAt f_value f_laters f_places f_guesses f_ways f_now f_past f_images f_isKept f_text f_shown f_read f_letter f_sizes f_laterNumber f_many f_labelAt f_soAt f_meets f_wayFrom f_wayTo f_wayBy f_reach f_goesOn f_far f_round f_line f_guessAt) (F_M_isAt f_letters f_spot f_text a1) (fun o => some (.int o)) (fun _ => (HM f_undone f_letters f_showing f_spot f_tokenAt f_value f_laters f_places f_guesses f_ways f_now f_past f_images f_isKept f_text f_shown f_read f_letter f_sizes f_laterNumber f_many f_labelAt f_soAt f_meets f_wayFrom f_wayTo f_wayBy f_reach f_goesOn f_far f_round f_line f_guessAt)) := by
  intro l P hs
  refine g_ofG 7 (by decide +kernel) rfl (Nat.le_of_ble_eq_true rfl) (fun X hX => ?_)
  unfold F_M_isAt at hs
  refine g_loc (L2 := [(0, .ref 0), (1, .int a1)]) [0, 1] rfl ?_
  refine g_blk 8 [(.aload_n 0, 0, 0, 0, 0), (.getfield 92, 7, 10, 0, 0), (.aload_n 0, 0, 0, 0, 0), (.getfield 89, 7, 6, 0, 0)] [] [(0, .ref 0), (1, .int a1)] [.int f_letters, .int f_spot] (HM f_undone f_letters f_showing f_spot f_tokenAt f_value f_laters f_places f_guesses f_ways f_now f_past f_images f_isKept f_text f_shown f_read f_letter f_sizes f_laterNumber f_many f_labelAt f_soAt f_meets f_wayFrom f_wayTo f_wayBy f_reach f_goesOn f_far f_round f_line f_guessAt) (by decide +kernel) rfl g_nil ?_
  refine g_join (fun (o2 : Int32) => g_G X rm_M_isAt c_M_isAt 2 7 (some .boolean) 29 [] [.int o2] (HM f_undone f_letters f_showing f_spot f_tokenAt f_value f_laters f_places f_guesses f_ways f_now f_past f_images f_isKept f_text f_shown f_read f_letter f_sizes f_laterNumber f_many f_labelAt f_soAt f_meets f_wayFrom f_wayTo f_wayBy f_reach f_goesOn f_far f_round f_line f_guessAt)) hs (fun o2 hs => ?_) (fun hs => ?_)
  · obtain ⟨h5, hs⟩ := g_sat_c hs
    have hq := g_sat_s hs
    exact g_zret hX (by decide +kernel) rfl (g_isb_of h5) hq
  · refine g_br 28 (.if_icmp .ge 20) (f_letters ≤ f_spot) [] (by decide +kernel) rfl (fun c1 => ?_) (fun c1 => ?_)
    · have hs := g_sat_t hs c1
      refine g_blk 29 [(.iconst 0, 0, 0, 0, 0)] [] [(0, .ref 0), (1, .int a1)] [.int (0 : Int32)] (HM f_undone f_letters f_showing f_spot f_tokenAt f_value f_laters f_places f_guesses f_ways f_now f_past f_images f_isKept f_text f_shown f_read f_letter f_sizes f_laterNumber f_many f_labelAt f_soAt f_meets f_wayFrom f_wayTo f_wayBy f_reach f_goesOn f_far f_round f_line f_guessAt) (by decide +kernel) rfl g_nil ?_
      refine g_loc (L2 := []) [] rfl ?_
      have hq := g_sat_s hs
      exact hq
    · have hs := g_sat_f hs c1
      obtain ⟨h3, hs⟩ := g_sat_c hs
      refine g_blk 21 [(.aload_n 0, 0, 0, 0, 0), (.getfield 23, 7, 5, 0, 0), (.aload_n 0, 0, 0, 0, 0), (.getfield 92, 7, 10, 0, 0), (.iaload, 0, 0, 0, 0), (.iload_n 1, 0, 0, 0, 0)] [vp_in f_spot 120] [(0, .ref 0), (1, .int a1)] [.int a1, .int (f_text f_spot.toNatClampNeg)] (HM f_undone f_letters f_showing f_spot f_tokenAt f_value f_laters f_places f_guesses f_ways f_now f_past f_images f_isKept f_text f_shown f_read f_letter f_sizes f_laterNumber f_many f_labelAt f_soAt f_meets f_wayFrom f_wayTo f_wayBy f_reach f_goesOn f_far f_round f_line f_guessAt) (by decide +kernel) rfl (g_and (g_inb_in h3) g_nil) ?_
      refine g_brn 28 (.if_icmp .ne 7) ((f_text f_spot.toNatClampNeg) = a1) [] (by decide +kernel) rfl (fun c4 => ?_) (fun c4 => ?_)
      · have hs := g_sat_f hs c4
        refine g_blk 29 [(.iconst 0, 0, 0, 0, 0)] [] [(0, .ref 0), (1, .int a1)] [.int (0 : Int32)] (HM f_undone f_letters f_showing f_spot f_tokenAt f_value f_laters f_places f_guesses f_ways f_now f_past f_images f_isKept f_text f_shown f_read f_letter f_sizes f_laterNumber f_many f_labelAt f_soAt f_meets f_wayFrom f_wayTo f_wayBy f_reach f_goesOn f_far f_round f_line f_guessAt) (by decide +kernel) rfl g_nil ?_
        refine g_loc (L2 := []) [] rfl ?_
        have hq := g_sat_s hs
        exact hq
      · have hs := g_sat_t hs c4
        refine g_blk 29 [(.iconst 1, 0, 0, 1, 0), (.goto 4, 0, 0, 0, 0)] [] [(0, .ref 0), (1, .int a1)] [.int (1 : Int32)] (HM f_undone f_letters f_showing f_spot f_tokenAt f_value f_laters f_places f_guesses f_ways f_now f_past f_images f_isKept f_text f_shown f_read f_letter f_sizes f_laterNumber f_many f_labelAt f_soAt f_meets f_wayFrom f_wayTo f_wayBy f_reach f_goesOn f_far f_round f_line f_guessAt) (by decide +kernel) rfl g_nil ?_
        refine g_loc (L2 := []) [] rfl ?_
        have hq := g_sat_s hs
        exact hq
abbrev rm_M_isFigure : Room := { frames := 1, cells := 0, slots := 0, locals := 22 }
def F_M_isFigure (f_letters : Int32) (f_spot : Int32) (f_text : Nat → Int32) : Option Int32 := ((if f_letters ≤ f_spot then (some (0 : Int32)) else (g_chk (g_inb f_spot 120) (if (F_M_in (f_text f_spot.toNatClampNeg) (48 : Int32) (57 : Int32)) = 0 then (some (0 : Int32)) else (some (1 : Int32))))).bind fun o2 => (g_chk (g_isb o2) (some o2)))
set_option maxRecDepth 100000 in
theorem ct_M_isFigure (f_undone : Int32) (f_letters : Int32) (f_showing : Int32) (f_spot : Int32) (f_tokenAt : Int32) (f_value : Int32) (f_laters : Int32) (f_places : Int32) (f_guesses : Int32) (f_ways : Int32) (f_now : Nat → Int32) (f_past : Nat → Int32) (f_images : Nat → Int32) (f_isKept : Nat → Int32) (f_text : Nat → Int32) (f_shown : Nat → Int32) (f_read : Nat → Int32) (f_letter : Nat → Int32) (f_sizes : Nat → Int32) (f_laterNumber : Nat → Int32) (f_many : Nat → Int32) (f_labelAt : Nat → Int32) (f_soAt : Nat → Int32) (f_meets : Nat → Int32) (f_wayFrom : Nat → Int32) (f_wayTo : Nat → Int32) (f_wayBy : Nat → Int32) (f_reach : Nat → Int64) (f_goesOn : Nat → Int32) (f_far : Nat → Int32) (f_round : Nat → Int32) (f_line : Nat → Int32) (f_guessAt : Nat → Int32) : g_F y_M_isFigure c_M_isFigure 1 (some .boolean) rm_M_isFigure [.ref 0] (HM f_undone f_letters f_showing f_spot f_tokenAt f_value f_laters f_places f_guesses f_ways f_now f_past f_images f_isKept f_text f_shown f_read f_letter f_sizes f_laterNumber f_many f_labelAt f_soAt f_meets f_wayFrom f_wayTo f_wayBy f_reach f_goesOn f_far f_round f_line f_guessAt) (F_M_isFigure f_letters f_spot f_text) (fun o => some (.int o)) (fun _ => (HM f_undone f_letters f_showing f_spot f_tokenAt f_value f_laters f_places f_guesses f_ways f_now f_past f_images f_isKept f_text f_shown f_read f_letter f_sizes f_laterNumber f_many f_labelAt f_soAt f_meets f_wayFrom f_wayTo f_wayBy f_reach f_goesOn f_far f_round f_line f_guessAt)) := by
  intro l P hs
  refine g_ofG 7 (by decide +kernel) rfl (Nat.le_of_ble_eq_true rfl) (fun X hX => ?_)
  unfold F_M_isFigure at hs
  refine g_loc (L2 := [(0, .ref 0)]) [0] rfl ?_
  refine g_blk 8 [(.aload_n 0, 0, 0, 0, 0), (.getfield 92, 7, 10, 0, 0), (.aload_n 0, 0, 0, 0, 0), (.getfield 89, 7, 6, 0, 0)] [] [(0, .ref 0)] [.int f_letters, .int f_spot] (HM f_undone f_letters f_showing f_spot f_tokenAt f_value f_laters f_places f_guesses f_ways f_now f_past f_images f_isKept f_text f_shown f_read f_letter f_sizes f_laterNumber f_many f_labelAt f_soAt f_meets f_wayFrom f_wayTo f_wayBy f_reach f_goesOn f_far f_round f_line f_guessAt) (by decide +kernel) rfl g_nil ?_
  refine g_join (fun (o2 : Int32) => g_G X rm_M_isFigure c_M_isFigure 1 7 (some .boolean) 35 [] [.int o2] (HM f_undone f_letters f_showing f_spot f_tokenAt f_value f_laters f_places f_guesses f_ways f_now f_past f_images f_isKept f_text f_shown f_read f_letter f_sizes f_laterNumber f_many f_labelAt f_soAt f_meets f_wayFrom f_wayTo f_wayBy f_reach f_goesOn f_far f_round f_line f_guessAt)) hs (fun o2 hs => ?_) (fun hs => ?_)
  · obtain ⟨h5, hs⟩ := g_sat_c hs
    have hq := g_sat_s hs
    exact g_zret hX (by decide +kernel) rfl (g_isb_of h5) hq
  · refine g_br 34 (.if_icmp .ge 26) (f_letters ≤ f_spot) [] (by decide +kernel) rfl (fun c1 => ?_) (fun c1 => ?_)
    · have hs := g_sat_t hs c1
      refine g_blk 35 [(.iconst 0, 0, 0, 0, 0)] [] [(0, .ref 0)] [.int (0 : Int32)] (HM f_undone f_letters f_showing f_spot f_tokenAt f_value f_laters f_places f_guesses f_ways f_now f_past f_images f_isKept f_text f_shown f_read f_letter f_sizes f_laterNumber f_many f_labelAt f_soAt f_meets f_wayFrom f_wayTo f_wayBy f_reach f_goesOn f_far f_round f_line f_guessAt) (by decide +kernel) rfl g_nil ?_
      refine g_loc (L2 := []) [] rfl ?_
      have hq := g_sat_s hs
      exact hq
    · have hs := g_sat_f hs c1
      obtain ⟨h3, hs⟩ := g_sat_c hs
      refine g_blk 24 [(.aload_n 0, 0, 0, 0, 0), (.getfield 23, 7, 5, 0, 0), (.aload_n 0, 0, 0, 0, 0), (.getfield 92, 7, 10, 0, 0), (.iaload, 0, 0, 0, 0), (.bipush 48, 0, 0, 48, 0), (.bipush 57, 0, 0, 57, 0)] [vp_in f_spot 120] [(0, .ref 0)] [.int (57 : Int32), .int (48 : Int32), .int (f_text f_spot.toNatClampNeg)] (HM f_undone f_letters f_showing f_spot f_tokenAt f_value f_laters f_places f_guesses f_ways f_now f_past f_images f_isKept f_text f_shown f_read f_letter f_sizes f_laterNumber f_many f_labelAt f_soAt f_meets f_wayFrom f_wayTo f_wayBy f_reach f_goesOn f_far f_round f_line f_guessAt) (by decide +kernel) rfl (g_and (g_inb_in h3) g_nil) ?_
      refine g_pN (ct_M_in (f_text f_spot.toNatClampNeg) (48 : Int32) (57 : Int32)) 85 3 lk_7_85 (by decide +kernel) rfl ⟨rfl, rfl, by decide, by decide⟩ [] rfl (by decide) ?_
      refine g_br 34 (.ifCond .eq 7) ((F_M_in (f_text f_spot.toNatClampNeg) (48 : Int32) (57 : Int32)) = 0) [] (by decide +kernel) rfl (fun c4 => ?_) (fun c4 => ?_)
      · have hs := g_sat_t hs c4
        refine g_blk 35 [(.iconst 0, 0, 0, 0, 0)] [] [(0, .ref 0)] [.int (0 : Int32)] (HM f_undone f_letters f_showing f_spot f_tokenAt f_value f_laters f_places f_guesses f_ways f_now f_past f_images f_isKept f_text f_shown f_read f_letter f_sizes f_laterNumber f_many f_labelAt f_soAt f_meets f_wayFrom f_wayTo f_wayBy f_reach f_goesOn f_far f_round f_line f_guessAt) (by decide +kernel) rfl g_nil ?_
        refine g_loc (L2 := []) [] rfl ?_
        have hq := g_sat_s hs
        exact hq
      · have hs := g_sat_f hs c4
        refine g_blk 35 [(.iconst 1, 0, 0, 1, 0), (.goto 4, 0, 0, 0, 0)] [] [(0, .ref 0)] [.int (1 : Int32)] (HM f_undone f_letters f_showing f_spot f_tokenAt f_value f_laters f_places f_guesses f_ways f_now f_past f_images f_isKept f_text f_shown f_read f_letter f_sizes f_laterNumber f_many f_labelAt f_soAt f_meets f_wayFrom f_wayTo f_wayBy f_reach f_goesOn f_far f_round f_line f_guessAt) (by decide +kernel) rfl g_nil ?_
        refine g_loc (L2 := []) [] rfl ?_
        have hq := g_sat_s hs
        exact hq
abbrev rm_M_takesSign : Room := { frames := 1, cells := 0, slots := 0, locals := 21 }
def F_M_takesSign (N : Nat) (f_letters : Int32) (f_spot : Int32) (f_text : Nat → Int32) (a1 : Int32) : Option (Int32 × Int32 × Int32) := ((F_M_blanks N f_letters f_spot f_text).bind fun o1 => ((F_M_isAt f_letters o1.1 f_text a1).bind fun o2 => (g_chk (g_isb o2) (some (o2, (o1.1 + (if o2 = 0 then (0 : Int32) else (1 : Int32))), o1.2)))))
set_option maxRecDepth 100000 in
theorem ct_M_takesSign (N : Nat) (f_undone : Int32) (f_letters : Int32) (f_showing : Int32) (f_spot : Int32) (f_tokenAt : Int32) (f_value : Int32) (f_laters : Int32) (f_places : Int32) (f_guesses : Int32) (f_ways : Int32) (f_now : Nat → Int32) (f_past : Nat → Int32) (f_images : Nat → Int32) (f_isKept : Nat → Int32) (f_text : Nat → Int32) (f_shown : Nat → Int32) (f_read : Nat → Int32) (f_letter : Nat → Int32) (f_sizes : Nat → Int32) (f_laterNumber : Nat → Int32) (f_many : Nat → Int32) (f_labelAt : Nat → Int32) (f_soAt : Nat → Int32) (f_meets : Nat → Int32) (f_wayFrom : Nat → Int32) (f_wayTo : Nat → Int32) (f_wayBy : Nat → Int32) (f_reach : Nat → Int64) (f_goesOn : Nat → Int32) (f_far : Nat → Int32) (f_round : Nat → Int32) (f_line : Nat → Int32) (f_guessAt : Nat → Int32) (a1 : Int32) : g_F y_M_takesSign c_M_takesSign 3 (some .boolean) rm_M_takesSign [.ref 0, .int a1] (HM f_undone f_letters f_showing f_spot f_tokenAt f_value f_laters f_places f_guesses f_ways f_now f_past f_images f_isKept f_text f_shown f_read f_letter f_sizes f_laterNumber f_many f_labelAt f_soAt f_meets f_wayFrom f_wayTo f_wayBy f_reach f_goesOn f_far f_round f_line f_guessAt) (F_M_takesSign N f_letters f_spot f_text a1) (fun o => some (.int o.1)) (fun o => (HM f_undone f_letters f_showing o.2.1 o.2.2 f_value f_laters f_places f_guesses f_ways f_now f_past f_images f_isKept f_text f_shown f_read f_letter f_sizes f_laterNumber f_many f_labelAt f_soAt f_meets f_wayFrom f_wayTo f_wayBy f_reach f_goesOn f_far f_round f_line f_guessAt)) := by
  intro l P hs
  refine g_ofG 7 (by decide +kernel) rfl (Nat.le_of_ble_eq_true rfl) (fun X hX => ?_)
  unfold F_M_takesSign at hs
  refine g_loc (L2 := [(0, .ref 0), (1, .int a1)]) [0, 1] rfl ?_
  refine g_blk 1 [(.aload_n 0, 0, 0, 0, 0)] [] [(0, .ref 0), (1, .int a1)] [.ref 0] (HM f_undone f_letters f_showing f_spot f_tokenAt f_value f_laters f_places f_guesses f_ways f_now f_past f_images f_isKept f_text f_shown f_read f_letter f_sizes f_laterNumber f_many f_labelAt f_soAt f_meets f_wayFrom f_wayTo f_wayBy f_reach f_goesOn f_far f_round f_line f_guessAt) (by decide +kernel) rfl g_nil ?_
  refine g_fM (ct_M_blanks N f_undone f_letters f_showing f_spot f_tokenAt f_value f_laters f_places f_guesses f_ways f_now f_past f_images f_isKept f_text f_shown f_read f_letter f_sizes f_laterNumber f_many f_labelAt f_soAt f_meets f_wayFrom f_wayTo f_wayBy f_reach f_goesOn f_far f_round f_line f_guessAt) 98 true 0 lk_7_98 (by decide +kernel) rfl ⟨rfl, rfl, by decide, by decide⟩ [] rfl (by decide) (fun _ => ⟨0, 7, _, rfl, rfl, by decide, rfl⟩) hs (fun o1 hs => ?_)
  refine g_blk 6 [(.aload_n 0, 0, 0, 0, 0), (.iload_n 1, 0, 0, 0, 0)] [] [(0, .ref 0), (1, .int a1)] [.int a1, .ref 0] (HM f_undone f_letters f_showing o1.1 o1.2 f_value f_laters f_places f_guesses f_ways f_now f_past f_images f_isKept f_text f_shown f_read f_letter f_sizes f_laterNumber f_many f_labelAt f_soAt f_meets f_wayFrom f_wayTo f_wayBy f_reach f_goesOn f_far f_round f_line f_guessAt) (by decide +kernel) rfl g_nil ?_
  refine g_fM (ct_M_isAt f_undone f_letters f_showing o1.1 o1.2 f_value f_laters f_places f_guesses f_ways f_now f_past f_images f_isKept f_text f_shown f_read f_letter f_sizes f_laterNumber f_many f_labelAt f_soAt f_meets f_wayFrom f_wayTo f_wayBy f_reach f_goesOn f_far f_round f_line f_guessAt a1) 101 true 1 lk_7_101 (by decide +kernel) rfl ⟨rfl, rfl, by decide, by decide⟩ [] rfl (by decide) (fun _ => ⟨0, 7, _, rfl, rfl, by decide, rfl⟩) hs (fun o2 hs => ?_)
  refine g_blk 16 [(.istore_n 2, 0, 0, 0, 0), (.aload_n 0, 0, 0, 0, 0), (.dup, 0, 0, 0, 0), (.getfield 92, 7, 10, 0, 0), (.iload_n 2, 0, 0, 0, 0)] [] [(2, .int o2), (0, .ref 0), (1, .int a1)] [.int o2, .int o1.1, .ref 0] (HM f_undone f_letters f_showing o1.1 o1.2 f_value f_laters f_places f_guesses f_ways f_now f_past f_images f_isKept f_text f_shown f_read f_letter f_sizes f_laterNumber f_many f_labelAt f_soAt f_meets f_wayFrom f_wayTo f_wayBy f_reach f_goesOn f_far f_round f_line f_guessAt) (by decide +kernel) rfl g_nil ?_
  have hJ5 : ∀ (v4 : Int32) (ev4 : v4 = (if o2 = 0 then (0 : Int32) else (1 : Int32))), g_G X rm_M_takesSign c_M_takesSign 3 7 (some .boolean) 24 [(2, .int o2)] [.int v4, .int o1.1, .ref 0] (HM f_undone f_letters f_showing o1.1 o1.2 f_value f_laters f_places f_guesses f_ways f_now f_past f_images f_isKept f_text f_shown f_read f_letter f_sizes f_laterNumber f_many f_labelAt f_soAt f_meets f_wayFrom f_wayTo f_wayBy f_reach f_goesOn f_far f_round f_line f_guessAt) := by
    intro v4 ev4
    subst ev4
    refine g_blk 29 [(.iadd, 0, 0, 0, 0), (.putfield 92, 7, 10, 1, 0), (.iload_n 2, 0, 0, 0, 0)] [] [(2, .int o2)] [.int o2] (HM f_undone f_letters f_showing (o1.1 + (if o2 = 0 then (0 : Int32) else (1 : Int32))) o1.2 f_value f_laters f_places f_guesses f_ways f_now f_past f_images f_isKept f_text f_shown f_read f_letter f_sizes f_laterNumber f_many f_labelAt f_soAt f_meets f_wayFrom f_wayTo f_wayBy f_reach f_goesOn f_far f_round f_line f_guessAt) (by decide +kernel) rfl g_nil ?_
    obtain ⟨h5, hs⟩ := g_sat_c hs
    have hq := g_sat_s hs
    exact g_zret hX (by decide +kernel) rfl (g_isb_of h5) hq
  refine g_br 23 (.ifCond .eq 7) (o2 = 0) [.int o1.1, .ref 0] (by decide +kernel) rfl (fun c7 => ?_) (fun c7 => ?_)
  · refine g_blk 24 [(.iconst 0, 0, 0, 0, 0)] [] [(2, .int o2), (0, .ref 0), (1, .int a1)] [.int (0 : Int32), .int o1.1, .ref 0] (HM f_undone f_letters f_showing o1.1 o1.2 f_value f_laters f_places f_guesses f_ways f_now f_past f_images f_isKept f_text f_shown f_read f_letter f_sizes f_laterNumber f_many f_labelAt f_soAt f_meets f_wayFrom f_wayTo f_wayBy f_reach f_goesOn f_far f_round f_line f_guessAt) (by decide +kernel) rfl g_nil ?_
    refine g_loc (L2 := [(2, .int o2)]) [0] rfl ?_
    exact hJ5 _ (by rw [if_pos c7])
  · refine g_blk 24 [(.iconst 1, 0, 0, 1, 0), (.goto 4, 0, 0, 0, 0)] [] [(2, .int o2), (0, .ref 0), (1, .int a1)] [.int (1 : Int32), .int o1.1, .ref 0] (HM f_undone f_letters f_showing o1.1 o1.2 f_value f_laters f_places f_guesses f_ways f_now f_past f_images f_isKept f_text f_shown f_read f_letter f_sizes f_laterNumber f_many f_labelAt f_soAt f_meets f_wayFrom f_wayTo f_wayBy f_reach f_goesOn f_far f_round f_line f_guessAt) (by decide +kernel) rfl g_nil ?_
    refine g_loc (L2 := [(2, .int o2)]) [0] rfl ?_
    exact hJ5 _ (by rw [if_neg c7])
abbrev rm_M_takesNumber : Room := { frames := 2, cells := 0, slots := 0, locals := 42 }
def M_takesNumber_l1 (f_letters : Int32) (f_text : Nat → Int32) : Nat → Int32 → Int32 → Option (Int32 × Int32)
  | 0, _, _ => none
  | n + 1, w_spot_2, w_value_3 => ((F_M_isFigure f_letters w_spot_2 f_text).bind fun o5 => (if o5 = 0 then (some (w_spot_2, w_value_3)) else ((if w_value_3 ≤ (99 : Int32) then (g_chk (g_inb w_spot_2 120) (some ((((10 : Int32) * w_value_3) + (f_text w_spot_2.toNatClampNeg)) - (48 : Int32)))) else (some (100 : Int32))).bind fun o8 => (M_takesNumber_l1 f_letters f_text n (w_spot_2 + (1 : Int32)) o8))))
theorem M_takesNumber_l1_s (f_letters : Int32) (f_text : Nat → Int32) (n : Nat) (w_spot_2 : Int32) (w_value_3 : Int32) : M_takesNumber_l1 f_letters f_text (n + 1) w_spot_2 w_value_3 = ((F_M_isFigure f_letters w_spot_2 f_text).bind fun o5 => (if o5 = 0 then (some (w_spot_2, w_value_3)) else ((if w_value_3 ≤ (99 : Int32) then (g_chk (g_inb w_spot_2 120) (some ((((10 : Int32) * w_value_3) + (f_text w_spot_2.toNatClampNeg)) - (48 : Int32)))) else (some (100 : Int32))).bind fun o8 => (M_takesNumber_l1 f_letters f_text n (w_spot_2 + (1 : Int32)) o8)))) := rfl
def F_M_takesNumber (N : Nat) (f_letters : Int32) (f_spot : Int32) (f_text : Nat → Int32) (a1 : Int32) : Option (Int32 × Int32 × Int32 × Int32) := ((F_M_blanks N f_letters f_spot f_text).bind fun o1 => ((M_takesNumber_l1 f_letters f_text N o1.1 (0 : Int32)).bind fun o4 => ((if o4.1 = (o1.2 + (1 : Int32)) then (some (1 : Int32)) else (if o4.1 ≤ o1.2 then (some (0 : Int32)) else (g_chk (g_inb o1.2 120) (if (f_text (o1.2).toNatClampNeg) = (48 : Int32) then (some (0 : Int32)) else (some (1 : Int32)))))).bind fun o11 => (some ((if o11 = 0 then (0 : Int32) else (if a1 < o4.2 then (0 : Int32) else (1 : Int32))), o4.1, o1.2, o4.2)))))
set_option maxRecDepth 100000 in
theorem ct_M_takesNumber (N : Nat) (f_undone : Int32) (f_letters : Int32) (f_showing : Int32) (f_spot : Int32) (f_tokenAt : Int32) (f_value : Int32) (f_laters : Int32) (f_places : Int32) (f_guesses : Int32) (f_ways : Int32) (f_now : Nat → Int32) (f_past : Nat → Int32) (f_images : Nat → Int32) (f_isKept : Nat → Int32) (f_text : Nat → Int32) (f_shown : Nat → Int32) (f_read : Nat → Int32) (f_letter : Nat → Int32) (f_sizes : Nat → Int32) (f_laterNumber : Nat → Int32) (f_many : Nat → Int32) (f_labelAt : Nat → Int32) (f_soAt : Nat → Int32) (f_meets : Nat → Int32) (f_wayFrom : Nat → Int32) (f_wayTo : Nat → Int32) (f_wayBy : Nat → Int32) (f_reach : Nat → Int64) (f_goesOn : Nat → Int32) (f_far : Nat → Int32) (f_round : Nat → Int32) (f_line : Nat → Int32) (f_guessAt : Nat → Int32) (a1 : Int32) : g_F y_M_takesNumber c_M_takesNumber 3 (some .boolean) rm_M_takesNumber [.ref 0, .int a1] (HM f_undone f_letters f_showing f_spot f_tokenAt f_value f_laters f_places f_guesses f_ways f_now f_past f_images f_isKept f_text f_shown f_read f_letter f_sizes f_laterNumber f_many f_labelAt f_soAt f_meets f_wayFrom f_wayTo f_wayBy f_reach f_goesOn f_far f_round f_line f_guessAt) (F_M_takesNumber N f_letters f_spot f_text a1) (fun o => some (.int o.1)) (fun o => (HM f_undone f_letters f_showing o.2.1 o.2.2.1 o.2.2.2 f_laters f_places f_guesses f_ways f_now f_past f_images f_isKept f_text f_shown f_read f_letter f_sizes f_laterNumber f_many f_labelAt f_soAt f_meets f_wayFrom f_wayTo f_wayBy f_reach f_goesOn f_far f_round f_line f_guessAt)) := by
  intro l P hs
  refine g_ofG 7 (by decide +kernel) rfl (Nat.le_of_ble_eq_true rfl) (fun X hX => ?_)
  unfold F_M_takesNumber at hs
  refine g_loc (L2 := [(0, .ref 0), (1, .int a1)]) [0, 1] rfl ?_
  refine g_blk 1 [(.aload_n 0, 0, 0, 0, 0)] [] [(0, .ref 0), (1, .int a1)] [.ref 0] (HM f_undone f_letters f_showing f_spot f_tokenAt f_value f_laters f_places f_guesses f_ways f_now f_past f_images f_isKept f_text f_shown f_read f_letter f_sizes f_laterNumber f_many f_labelAt f_soAt f_meets f_wayFrom f_wayTo f_wayBy f_reach f_goesOn f_far f_round f_line f_guessAt) (by decide +kernel) rfl g_nil ?_
  refine g_fM (ct_M_blanks N f_undone f_letters f_showing f_spot f_tokenAt f_value f_laters f_places f_guesses f_ways f_now f_past f_images f_isKept f_text f_shown f_read f_letter f_sizes f_laterNumber f_many f_labelAt f_soAt f_meets f_wayFrom f_wayTo f_wayBy f_reach f_goesOn f_far f_round f_line f_guessAt) 98 true 0 lk_7_98 (by decide +kernel) rfl ⟨rfl, rfl, by decide, by decide⟩ [] rfl (by decide) (fun _ => ⟨0, 7, _, rfl, rfl, by decide, rfl⟩) hs (fun o1 hs => ?_)
  refine g_blk 9 [(.aload_n 0, 0, 0, 0, 0), (.iconst 0, 0, 0, 0, 0), (.putfield 105, 7, 12, 1, 0)] [] [(0, .ref 0), (1, .int a1)] [] (HM f_undone f_letters f_showing o1.1 o1.2 (0 : Int32) f_laters f_places f_guesses f_ways f_now f_past f_images f_isKept f_text f_shown f_read f_letter f_sizes f_laterNumber f_many f_labelAt f_soAt f_meets f_wayFrom f_wayTo f_wayBy f_reach f_goesOn f_far f_round f_line f_guessAt) (by decide +kernel) rfl g_nil ?_
  refine g_join (fun (o4 : Int32 × Int32) => g_G X rm_M_takesNumber c_M_takesNumber 3 7 (some .boolean) 67 [(0, .ref 0), (1, .int a1)] [] (HM f_undone f_letters f_showing o4.1 o1.2 o4.2 f_laters f_places f_guesses f_ways f_now f_past f_images f_isKept f_text f_shown f_read f_letter f_sizes f_laterNumber f_many f_labelAt f_soAt f_meets f_wayFrom f_wayTo f_wayBy f_reach f_goesOn f_far f_round f_line f_guessAt)) hs (fun o4 hs => ?_) (fun hs => ?_)
  · refine g_blk 77 [(.aload_n 0, 0, 0, 0, 0), (.getfield 92, 7, 10, 0, 0), (.aload_n 0, 0, 0, 0, 0), (.getfield 95, 7, 11, 0, 0), (.iconst 1, 0, 0, 1, 0), (.iadd, 0, 0, 0, 0)] [] [(0, .ref 0), (1, .int a1)] [.int (o1.2 + (1 : Int32)), .int o4.1] (HM f_undone f_letters f_showing o4.1 o1.2 o4.2 f_laters f_places f_guesses f_ways f_now f_past f_images f_isKept f_text f_shown f_read f_letter f_sizes f_laterNumber f_many f_labelAt f_soAt f_meets f_wayFrom f_wayTo f_wayBy f_reach f_goesOn f_far f_round f_line f_guessAt) (by decide +kernel) rfl g_nil ?_
    refine g_join (fun (o11 : Int32) => g_G X rm_M_takesNumber c_M_takesNumber 3 7 (some .boolean) 110 [(0, .ref 0), (1, .int a1)] [.int o11] (HM f_undone f_letters f_showing o4.1 o1.2 o4.2 f_laters f_places f_guesses f_ways f_now f_past f_images f_isKept f_text f_shown f_read f_letter f_sizes f_laterNumber f_many f_labelAt f_soAt f_meets f_wayFrom f_wayTo f_wayBy f_reach f_goesOn f_far f_round f_line f_guessAt)) hs (fun o11 hs => ?_) (fun hs => ?_)
    · refine g_blk 112 [(.istore_n 2, 0, 0, 0, 0), (.iload_n 2, 0, 0, 0, 0)] [] [(2, .int o11), (0, .ref 0), (1, .int a1)] [.int o11] (HM f_undone f_letters f_showing o4.1 o1.2 o4.2 f_laters f_places f_guesses f_ways f_now f_past f_images f_isKept f_text f_shown f_read f_letter f_sizes f_laterNumber f_many f_labelAt f_soAt f_meets f_wayFrom f_wayTo f_wayBy f_reach f_goesOn f_far f_round f_line f_guessAt) (by decide +kernel) rfl g_nil ?_
      have hJ16 : ∀ (v16 : Int32) (ev16 : v16 = (if o11 = 0 then (0 : Int32) else (if a1 < o4.2 then (0 : Int32) else (1 : Int32)))), g_G X rm_M_takesNumber c_M_takesNumber 3 7 (some .boolean) 128 [] [.int v16] (HM f_undone f_letters f_showing o4.1 o1.2 o4.2 f_laters f_places f_guesses f_ways f_now f_past f_images f_isKept f_text f_shown f_read f_letter f_sizes f_laterNumber f_many f_labelAt f_soAt f_meets f_wayFrom f_wayTo f_wayBy f_reach f_goesOn f_far f_round f_line f_guessAt) := by
        intro v16 ev16
        subst ev16
        have hq := g_sat_s hs
        exact g_zret hX (by decide +kernel) rfl (by repeat (first | exact Or.inl rfl | exact Or.inr rfl | split)) hq
      refine g_br 127 (.ifCond .eq 15) (o11 = 0) [] (by decide +kernel) rfl (fun c18 => ?_) (fun c18 => ?_)
      · refine g_blk 128 [(.iconst 0, 0, 0, 0, 0)] [] [(2, .int o11), (0, .ref 0), (1, .int a1)] [.int (0 : Int32)] (HM f_undone f_letters f_showing o4.1 o1.2 o4.2 f_laters f_places f_guesses f_ways f_now f_past f_images f_isKept f_text f_shown f_read f_letter f_sizes f_laterNumber f_many f_labelAt f_soAt f_meets f_wayFrom f_wayTo f_wayBy f_reach f_goesOn f_far f_round f_line f_guessAt) (by decide +kernel) rfl g_nil ?_
        refine g_loc (L2 := []) [] rfl ?_
        exact hJ16 _ (by rw [if_pos c18])
      · refine g_blk 120 [(.aload_n 0, 0, 0, 0, 0), (.getfield 105, 7, 12, 0, 0), (.iload_n 1, 0, 0, 0, 0)] [] [(2, .int o11), (0, .ref 0), (1, .int a1)] [.int a1, .int o4.2] (HM f_undone f_letters f_showing o4.1 o1.2 o4.2 f_laters f_places f_guesses f_ways f_now f_past f_images f_isKept f_text f_shown f_read f_letter f_sizes f_laterNumber f_many f_labelAt f_soAt f_meets f_wayFrom f_wayTo f_wayBy f_reach f_goesOn f_far f_round f_line f_guessAt) (by decide +kernel) rfl g_nil ?_
        refine g_br 127 (.if_icmp .gt 7) (a1 < o4.2) [] (by decide +kernel) rfl (fun c19 => ?_) (fun c19 => ?_)
        · refine g_blk 128 [(.iconst 0, 0, 0, 0, 0)] [] [(2, .int o11), (0, .ref 0), (1, .int a1)] [.int (0 : Int32)] (HM f_undone f_letters f_showing o4.1 o1.2 o4.2 f_laters f_places f_guesses f_ways f_now f_past f_images f_isKept f_text f_shown f_read f_letter f_sizes f_laterNumber f_many f_labelAt f_soAt f_meets f_wayFrom f_wayTo f_wayBy f_reach f_goesOn f_far f_round f_line f_guessAt) (by decide +kernel) rfl g_nil ?_
          refine g_loc (L2 := []) [] rfl ?_
          exact hJ16 _ (by rw [if_neg c18, if_pos c19])
        · refine g_blk 128 [(.iconst 1, 0, 0, 1, 0), (.goto 4, 0, 0, 0, 0)] [] [(2, .int o11), (0, .ref 0), (1, .int a1)] [.int (1 : Int32)] (HM f_undone f_letters f_showing o4.1 o1.2 o4.2 f_laters f_places f_guesses f_ways f_now f_past f_images f_isKept f_text f_shown f_read f_letter f_sizes f_laterNumber f_many f_labelAt f_soAt f_meets f_wayFrom f_wayTo f_wayBy f_reach f_goesOn f_far f_round f_line f_guessAt) (by decide +kernel) rfl g_nil ?_
          refine g_loc (L2 := []) [] rfl ?_
          exact hJ16 _ (by rw [if_neg c18, if_neg c19])
    · refine g_br 105 (.if_icmp .eq 28) (o4.1 = (o1.2 + (1 : Int32))) [] (by decide +kernel) rfl (fun c10 => ?_) (fun c10 => ?_)
      · have hs := g_sat_t hs c10
        refine g_blk 110 [(.iconst 1, 0, 0, 1, 0), (.goto 4, 0, 0, 0, 0)] [] [(0, .ref 0), (1, .int a1)] [.int (1 : Int32)] (HM f_undone f_letters f_showing o4.1 o1.2 o4.2 f_laters f_places f_guesses f_ways f_now f_past f_images f_isKept f_text f_shown f_read f_letter f_sizes f_laterNumber f_many f_labelAt f_soAt f_meets f_wayFrom f_wayTo f_wayBy f_reach f_goesOn f_far f_round f_line f_guessAt) (by decide +kernel) rfl g_nil ?_
        have hq := g_sat_s hs
        exact hq
      · have hs := g_sat_f hs c10
        refine g_blk 88 [(.aload_n 0, 0, 0, 0, 0), (.getfield 92, 7, 10, 0, 0), (.aload_n 0, 0, 0, 0, 0), (.getfield 95, 7, 11, 0, 0)] [] [(0, .ref 0), (1, .int a1)] [.int o1.2, .int o4.1] (HM f_undone f_letters f_showing o4.1 o1.2 o4.2 f_laters f_places f_guesses f_ways f_now f_past f_images f_isKept f_text f_shown f_read f_letter f_sizes f_laterNumber f_many f_labelAt f_soAt f_meets f_wayFrom f_wayTo f_wayBy f_reach f_goesOn f_far f_round f_line f_guessAt) (by decide +kernel) rfl g_nil ?_
        refine g_br 109 (.if_icmp .le 21) (o4.1 ≤ o1.2) [] (by decide +kernel) rfl (fun c12 => ?_) (fun c12 => ?_)
        · have hs := g_sat_t hs c12
          refine g_blk 110 [(.iconst 0, 0, 0, 0, 0)] [] [(0, .ref 0), (1, .int a1)] [.int (0 : Int32)] (HM f_undone f_letters f_showing o4.1 o1.2 o4.2 f_laters f_places f_guesses f_ways f_now f_past f_images f_isKept f_text f_shown f_read f_letter f_sizes f_laterNumber f_many f_labelAt f_soAt f_meets f_wayFrom f_wayTo f_wayBy f_reach f_goesOn f_far f_round f_line f_guessAt) (by decide +kernel) rfl g_nil ?_
          have hq := g_sat_s hs
          exact hq
        · have hs := g_sat_f hs c12
          obtain ⟨h13, hs⟩ := g_sat_c hs
          refine g_blk 102 [(.aload_n 0, 0, 0, 0, 0), (.getfield 23, 7, 5, 0, 0), (.aload_n 0, 0, 0, 0, 0), (.getfield 95, 7, 11, 0, 0), (.iaload, 0, 0, 0, 0), (.bipush 48, 0, 0, 48, 0)] [vp_in o1.2 120] [(0, .ref 0), (1, .int a1)] [.int (48 : Int32), .int (f_text (o1.2).toNatClampNeg)] (HM f_undone f_letters f_showing o4.1 o1.2 o4.2 f_laters f_places f_guesses f_ways f_now f_past f_images f_isKept f_text f_shown f_read f_letter f_sizes f_laterNumber f_many f_labelAt f_soAt f_meets f_wayFrom f_wayTo f_wayBy f_reach f_goesOn f_far f_round f_line f_guessAt) (by decide +kernel) rfl (g_and (g_inb_in h13) g_nil) ?_
          refine g_br 109 (.if_icmp .eq 7) ((f_text (o1.2).toNatClampNeg) = (48 : Int32)) [] (by decide +kernel) rfl (fun c14 => ?_) (fun c14 => ?_)
          · have hs := g_sat_t hs c14
            refine g_blk 110 [(.iconst 0, 0, 0, 0, 0)] [] [(0, .ref 0), (1, .int a1)] [.int (0 : Int32)] (HM f_undone f_letters f_showing o4.1 o1.2 o4.2 f_laters f_places f_guesses f_ways f_now f_past f_images f_isKept f_text f_shown f_read f_letter f_sizes f_laterNumber f_many f_labelAt f_soAt f_meets f_wayFrom f_wayTo f_wayBy f_reach f_goesOn f_far f_round f_line f_guessAt) (by decide +kernel) rfl g_nil ?_
            have hq := g_sat_s hs
            exact hq
          · have hs := g_sat_f hs c14
            refine g_blk 110 [(.iconst 1, 0, 0, 1, 0), (.goto 4, 0, 0, 0, 0)] [] [(0, .ref 0), (1, .int a1)] [.int (1 : Int32)] (HM f_undone f_letters f_showing o4.1 o1.2 o4.2 f_laters f_places f_guesses f_ways f_now f_past f_images f_isKept f_text f_shown f_read f_letter f_sizes f_laterNumber f_many f_labelAt f_soAt f_meets f_wayFrom f_wayTo f_wayBy f_reach f_goesOn f_far f_round f_line f_guessAt) (by decide +kernel) rfl g_nil ?_
            have hq := g_sat_s hs
            exact hq
  · have hlM_takesNumber_l1 : ∀ (n : Nat) (w_spot_2 : Int32) (w_value_3 : Int32), g_sat (M_takesNumber_l1 f_letters f_text n w_spot_2 w_value_3) (fun (o4 : Int32 × Int32) => g_G X rm_M_takesNumber c_M_takesNumber 3 7 (some .boolean) 67 [(0, .ref 0), (1, .int a1)] [] (HM f_undone f_letters f_showing o4.1 o1.2 o4.2 f_laters f_places f_guesses f_ways f_now f_past f_images f_isKept f_text f_shown f_read f_letter f_sizes f_laterNumber f_many f_labelAt f_soAt f_meets f_wayFrom f_wayTo f_wayBy f_reach f_goesOn f_far f_round f_line f_guessAt)) → g_G X rm_M_takesNumber c_M_takesNumber 3 7 (some .boolean) 9 [(0, .ref 0), (1, .int a1)] [] (HM f_undone f_letters f_showing w_spot_2 o1.2 w_value_3 f_laters f_places f_guesses f_ways f_now f_past f_images f_isKept f_text f_shown f_read f_letter f_sizes f_laterNumber f_many f_labelAt f_soAt f_meets f_wayFrom f_wayTo f_wayBy f_reach f_goesOn f_far f_round f_line f_guessAt) := by
      intro n
      induction n with
      | zero =>
        intro w_spot_2 w_value_3 hs
        obtain ⟨_, h0, _⟩ := hs
        cases h0
      | succ n ih =>
        intro w_spot_2 w_value_3 hs
        rw [M_takesNumber_l1_s] at hs
        refine g_blk 10 [(.aload_n 0, 0, 0, 0, 0)] [] [(0, .ref 0), (1, .int a1)] [.ref 0] (HM f_undone f_letters f_showing w_spot_2 o1.2 w_value_3 f_laters f_places f_guesses f_ways f_now f_past f_images f_isKept f_text f_shown f_read f_letter f_sizes f_laterNumber f_many f_labelAt f_soAt f_meets f_wayFrom f_wayTo f_wayBy f_reach f_goesOn f_far f_round f_line f_guessAt) (by decide +kernel) rfl g_nil ?_
        refine g_fM (ct_M_isFigure f_undone f_letters f_showing w_spot_2 o1.2 w_value_3 f_laters f_places f_guesses f_ways f_now f_past f_images f_isKept f_text f_shown f_read f_letter f_sizes f_laterNumber f_many f_labelAt f_soAt f_meets f_wayFrom f_wayTo f_wayBy f_reach f_goesOn f_far f_round f_line f_guessAt) 108 true 0 lk_7_108 (by decide +kernel) rfl ⟨rfl, rfl, by decide, by decide⟩ [] rfl (by decide) (fun _ => ⟨0, 7, _, rfl, rfl, by decide, rfl⟩) hs (fun o5 hs => ?_)
        refine g_br 67 (.ifCond .eq 54) (o5 = 0) [] (by decide +kernel) rfl (fun c6 => ?_) (fun c6 => ?_)
        · have hs := g_sat_t hs c6
          have hq := g_sat_s hs
          exact hq
        · have hs := g_sat_f hs c6
          refine g_blk 23 [(.aload_n 0, 0, 0, 0, 0), (.aload_n 0, 0, 0, 0, 0), (.getfield 105, 7, 12, 0, 0), (.bipush 99, 0, 0, 99, 0)] [] [(0, .ref 0), (1, .int a1)] [.int (99 : Int32), .int w_value_3, .ref 0] (HM f_undone f_letters f_showing w_spot_2 o1.2 w_value_3 f_laters f_places f_guesses f_ways f_now f_past f_images f_isKept f_text f_shown f_read f_letter f_sizes f_laterNumber f_many f_labelAt f_soAt f_meets f_wayFrom f_wayTo f_wayBy f_reach f_goesOn f_far f_round f_line f_guessAt) (by decide +kernel) rfl g_nil ?_
          refine g_join (fun (o8 : Int32) => g_G X rm_M_takesNumber c_M_takesNumber 3 7 (some .boolean) 51 [(0, .ref 0), (1, .int a1)] [.int o8, .ref 0] (HM f_undone f_letters f_showing w_spot_2 o1.2 w_value_3 f_laters f_places f_guesses f_ways f_now f_past f_images f_isKept f_text f_shown f_read f_letter f_sizes f_laterNumber f_many f_labelAt f_soAt f_meets f_wayFrom f_wayTo f_wayBy f_reach f_goesOn f_far f_round f_line f_guessAt)) hs (fun o8 hs => ?_) (fun hs => ?_)
          · refine g_blk 9 [(.putfield 105, 7, 12, 1, 0), (.aload_n 0, 0, 0, 0, 0), (.dup, 0, 0, 0, 0), (.getfield 92, 7, 10, 0, 0), (.iconst 1, 0, 0, 1, 0), (.iadd, 0, 0, 0, 0), (.putfield 92, 7, 10, 1, 0), (.goto (-55), 0, 0, 0, 0)] [] [(0, .ref 0), (1, .int a1)] [] (HM f_undone f_letters f_showing (w_spot_2 + (1 : Int32)) o1.2 o8 f_laters f_places f_guesses f_ways f_now f_past f_images f_isKept f_text f_shown f_read f_letter f_sizes f_laterNumber f_many f_labelAt f_soAt f_meets f_wayFrom f_wayTo f_wayBy f_reach f_goesOn f_far f_round f_line f_guessAt) (by decide +kernel) rfl g_nil ?_
            exact ih _ _ hs
          · refine g_br 31 (.if_icmp .le 8) (w_value_3 ≤ (99 : Int32)) [.ref 0] (by decide +kernel) rfl (fun c7 => ?_) (fun c7 => ?_)
            · have hs := g_sat_t hs c7
              obtain ⟨h9, hs⟩ := g_sat_c hs
              refine g_blk 51 [(.bipush 10, 0, 0, 10, 0), (.aload_n 0, 0, 0, 0, 0), (.getfield 105, 7, 12, 0, 0), (.imul, 0, 0, 0, 0), (.aload_n 0, 0, 0, 0, 0), (.getfield 23, 7, 5, 0, 0), (.aload_n 0, 0, 0, 0, 0), (.getfield 92, 7, 10, 0, 0), (.iaload, 0, 0, 0, 0), (.iadd, 0, 0, 0, 0), (.bipush 48, 0, 0, 48, 0), (.isub, 0, 0, 0, 0)] [vp_in w_spot_2 120] [(0, .ref 0), (1, .int a1)] [.int ((((10 : Int32) * w_value_3) + (f_text w_spot_2.toNatClampNeg)) - (48 : Int32)), .ref 0] (HM f_undone f_letters f_showing w_spot_2 o1.2 w_value_3 f_laters f_places f_guesses f_ways f_now f_past f_images f_isKept f_text f_shown f_read f_letter f_sizes f_laterNumber f_many f_labelAt f_soAt f_meets f_wayFrom f_wayTo f_wayBy f_reach f_goesOn f_far f_round f_line f_guessAt) (by decide +kernel) rfl (g_and (g_inb_in h9) g_nil) ?_
              have hq := g_sat_s hs
              exact hq
            · have hs := g_sat_f hs c7
              refine g_blk 51 [(.bipush 100, 0, 0, 100, 0), (.goto 23, 0, 0, 0, 0)] [] [(0, .ref 0), (1, .int a1)] [.int (100 : Int32), .ref 0] (HM f_undone f_letters f_showing w_spot_2 o1.2 w_value_3 f_laters f_places f_guesses f_ways f_now f_past f_images f_isKept f_text f_shown f_read f_letter f_sizes f_laterNumber f_many f_labelAt f_soAt f_meets f_wayFrom f_wayTo f_wayBy f_reach f_goesOn f_far f_round f_line f_guessAt) (by decide +kernel) rfl g_nil ?_
              have hq := g_sat_s hs
              exact hq
    exact hlM_takesNumber_l1 N _ _ hs
abbrev rm_M_takesState : Room := { frames := 3, cells := 0, slots := 0, locals := 64 }
def F_M_takesState (N : Nat) (f_letters : Int32) (f_spot : Int32) (f_tokenAt : Int32) (f_value : Int32) (f_text : Nat → Int32) (f_read : Nat → Int32) : Option (Int32 × Int32 × Int32 × Int32 × (Nat → Int32)) := (if (f_read 0) = (5 : Int32) then (some ((0 : Int32), f_spot, f_tokenAt, f_value, f_read)) else ((F_M_takesNumber N f_letters (f_spot + (1 : Int32)) f_text (7 : Int32)).bind fun o2 => (if o2.1 = 0 then (some ((0 : Int32), o2.2.1, o2.2.2.1, o2.2.2.2, f_read)) else (g_chk (g_inb ((1 : Int32) + (f_read 0)) 105) ((F_M_takesSign N f_letters o2.2.1 f_text (59 : Int32)).bind fun o5 => (g_chk (g_isb o5.1) (some (o5.1, o5.2.1, o5.2.2, o2.2.2.2, (upd (upd f_read (((1 : Int32) + (f_read 0))).toNatClampNeg o2.2.2.2) 0 (((upd f_read (((1 : Int32) + (f_read 0))).toNatClampNeg o2.2.2.2) 0) + (1 : Int32)))))))))))
set_option maxRecDepth 100000 in
theorem ct_M_takesState (N : Nat) (f_undone : Int32) (f_letters : Int32) (f_showing : Int32) (f_spot : Int32) (f_tokenAt : Int32) (f_value : Int32) (f_laters : Int32) (f_places : Int32) (f_guesses : Int32) (f_ways : Int32) (f_now : Nat → Int32) (f_past : Nat → Int32) (f_images : Nat → Int32) (f_isKept : Nat → Int32) (f_text : Nat → Int32) (f_shown : Nat → Int32) (f_read : Nat → Int32) (f_letter : Nat → Int32) (f_sizes : Nat → Int32) (f_laterNumber : Nat → Int32) (f_many : Nat → Int32) (f_labelAt : Nat → Int32) (f_soAt : Nat → Int32) (f_meets : Nat → Int32) (f_wayFrom : Nat → Int32) (f_wayTo : Nat → Int32) (f_wayBy : Nat → Int32) (f_reach : Nat → Int64) (f_goesOn : Nat → Int32) (f_far : Nat → Int32) (f_round : Nat → Int32) (f_line : Nat → Int32) (f_guessAt : Nat → Int32) : g_F y_M_takesState c_M_takesState 1 (some .boolean) rm_M_takesState [.ref 0] (HM f_undone f_letters f_showing f_spot f_tokenAt f_value f_laters f_places f_guesses f_ways f_now f_past f_images f_isKept f_text f_shown f_read f_letter f_sizes f_laterNumber f_many f_labelAt f_soAt f_meets f_wayFrom f_wayTo f_wayBy f_reach f_goesOn f_far f_round f_line f_guessAt) (F_M_takesState N f_letters f_spot f_tokenAt f_value f_text f_read) (fun o => some (.int o.1)) (fun o => (HM f_undone f_letters f_showing o.2.1 o.2.2.1 o.2.2.2.1 f_laters f_places f_guesses f_ways f_now f_past f_images f_isKept f_text f_shown o.2.2.2.2 f_letter f_sizes f_laterNumber f_many f_labelAt f_soAt f_meets f_wayFrom f_wayTo f_wayBy f_reach f_goesOn f_far f_round f_line f_guessAt)) := by
  intro l P hs
  refine g_ofG 7 (by decide +kernel) rfl (Nat.le_of_ble_eq_true rfl) (fun X hX => ?_)
  unfold F_M_takesState at hs
  refine g_loc (L2 := [(0, .ref 0)]) [0] rfl ?_
  refine g_blk 7 [(.aload_n 0, 0, 0, 0, 0), (.getfield 29, 7, 9, 0, 0), (.iconst 0, 0, 0, 0, 0), (.iaload, 0, 0, 0, 0), (.iconst 5, 0, 0, 5, 0)] [vp_in (0 : Int32) 105] [(0, .ref 0)] [.int (5 : Int32), .int (f_read 0)] (HM f_undone f_letters f_showing f_spot f_tokenAt f_value f_laters f_places f_guesses f_ways f_now f_past f_images f_isKept f_text f_shown f_read f_letter f_sizes f_laterNumber f_many f_labelAt f_soAt f_meets f_wayFrom f_wayTo f_wayBy f_reach f_goesOn f_far f_round f_line f_guessAt) (by decide +kernel) rfl (g_and (g_inb_in (by decide +kernel)) g_nil) ?_
  refine g_brn 12 (.if_icmp .ne 5) ((f_read 0) = (5 : Int32)) [] (by decide +kernel) rfl (fun c1 => ?_) (fun c1 => ?_)
  · have hs := g_sat_f hs c1
    refine g_blk 25 [(.aload_n 0, 0, 0, 0, 0), (.dup, 0, 0, 0, 0), (.getfield 92, 7, 10, 0, 0), (.iconst 1, 0, 0, 1, 0), (.iadd, 0, 0, 0, 0), (.putfield 92, 7, 10, 1, 0), (.aload_n 0, 0, 0, 0, 0), (.bipush 7, 0, 0, 7, 0)] [] [(0, .ref 0)] [.int (7 : Int32), .ref 0] (HM f_undone f_letters f_showing (f_spot + (1 : Int32)) f_tokenAt f_value f_laters f_places f_guesses f_ways f_now f_past f_images f_isKept f_text f_shown f_read f_letter f_sizes f_laterNumber f_many f_labelAt f_soAt f_meets f_wayFrom f_wayTo f_wayBy f_reach f_goesOn f_far f_round f_line f_guessAt) (by decide +kernel) rfl g_nil ?_
    refine g_fM (ct_M_takesNumber N f_undone f_letters f_showing (f_spot + (1 : Int32)) f_tokenAt f_value f_laters f_places f_guesses f_ways f_now f_past f_images f_isKept f_text f_shown f_read f_letter f_sizes f_laterNumber f_many f_labelAt f_soAt f_meets f_wayFrom f_wayTo f_wayBy f_reach f_goesOn f_far f_round f_line f_guessAt (7 : Int32)) 112 true 1 lk_7_112 (by decide +kernel) rfl ⟨rfl, rfl, by decide, by decide⟩ [] rfl (by decide) (fun _ => ⟨0, 7, _, rfl, rfl, by decide, rfl⟩) hs (fun o2 hs => ?_)
    refine g_brn 33 (.ifCond .ne 5) (o2.1 = 0) [] (by decide +kernel) rfl (fun c3 => ?_) (fun c3 => ?_)
    · have hs := g_sat_f hs c3
      obtain ⟨h4, hs⟩ := g_sat_c hs
      refine g_blk 63 [(.aload_n 0, 0, 0, 0, 0), (.getfield 29, 7, 9, 0, 0), (.iconst 1, 0, 0, 1, 0), (.aload_n 0, 0, 0, 0, 0), (.getfield 29, 7, 9, 0, 0), (.iconst 0, 0, 0, 0, 0), (.iaload, 0, 0, 0, 0), (.iadd, 0, 0, 0, 0), (.aload_n 0, 0, 0, 0, 0), (.getfield 105, 7, 12, 0, 0), (.iastore, 0, 0, 0, 0), (.aload_n 0, 0, 0, 0, 0), (.getfield 29, 7, 9, 0, 0), (.iconst 0, 0, 0, 0, 0), (.dup2, 0, 0, 0, 0), (.iaload, 0, 0, 0, 0), (.iconst 1, 0, 0, 1, 0), (.iadd, 0, 0, 0, 0), (.iastore, 0, 0, 0, 0), (.aload_n 0, 0, 0, 0, 0), (.bipush 59, 0, 0, 59, 0)] [vp_in (0 : Int32) 105, vp_in ((1 : Int32) + (f_read 0)) 105, vp_in (0 : Int32) 105, vp_in (0 : Int32) 105] [(0, .ref 0)] [.int (59 : Int32), .ref 0] (HM f_undone f_letters f_showing o2.2.1 o2.2.2.1 o2.2.2.2 f_laters f_places f_guesses f_ways f_now f_past f_images f_isKept f_text f_shown (upd (upd f_read (((1 : Int32) + (f_read 0))).toNatClampNeg o2.2.2.2) 0 (((upd f_read (((1 : Int32) + (f_read 0))).toNatClampNeg o2.2.2.2) 0) + (1 : Int32))) f_letter f_sizes f_laterNumber f_many f_labelAt f_soAt f_meets f_wayFrom f_wayTo f_wayBy f_reach f_goesOn f_far f_round f_line f_guessAt) (by decide +kernel) rfl (g_and (g_inb_in (by decide +kernel)) (g_and (g_inb_in h4) (g_and (g_inb_in (by decide +kernel)) (g_and (g_inb_in (by decide +kernel)) g_nil)))) ?_
      refine g_fM (ct_M_takesSign N f_undone f_letters f_showing o2.2.1 o2.2.2.1 o2.2.2.2 f_laters f_places f_guesses f_ways f_now f_past f_images f_isKept f_text f_shown (upd (upd f_read (((1 : Int32) + (f_read 0))).toNatClampNeg o2.2.2.2) 0 (((upd f_read (((1 : Int32) + (f_read 0))).toNatClampNeg o2.2.2.2) 0) + (1 : Int32))) f_letter f_sizes f_laterNumber f_many f_labelAt f_soAt f_meets f_wayFrom f_wayTo f_wayBy f_reach f_goesOn f_far f_round f_line f_guessAt (59 : Int32)) 115 true 1 lk_7_115 (by decide +kernel) rfl ⟨rfl, rfl, by decide, by decide⟩ [] rfl (by decide) (fun _ => ⟨0, 7, _, rfl, rfl, by decide, rfl⟩) hs (fun o5 hs => ?_)
      obtain ⟨h6, hs⟩ := g_sat_c hs
      have hq := g_sat_s hs
      exact g_zret hX (by decide +kernel) rfl (g_isb_of h6) hq
    · have hs := g_sat_t hs c3
      refine g_blk 32 [(.iconst 0, 0, 0, 0, 0)] [] [(0, .ref 0)] [.int (0 : Int32)] (HM f_undone f_letters f_showing o2.2.1 o2.2.2.1 o2.2.2.2 f_laters f_places f_guesses f_ways f_now f_past f_images f_isKept f_text f_shown f_read f_letter f_sizes f_laterNumber f_many f_labelAt f_soAt f_meets f_wayFrom f_wayTo f_wayBy f_reach f_goesOn f_far f_round f_line f_guessAt) (by decide +kernel) rfl g_nil ?_
      have hq := g_sat_s hs
      exact g_zret hX (by decide +kernel) rfl (Or.inl rfl) hq
  · have hs := g_sat_t hs c1
    refine g_blk 11 [(.iconst 0, 0, 0, 0, 0)] [] [(0, .ref 0)] [.int (0 : Int32)] (HM f_undone f_letters f_showing f_spot f_tokenAt f_value f_laters f_places f_guesses f_ways f_now f_past f_images f_isKept f_text f_shown f_read f_letter f_sizes f_laterNumber f_many f_labelAt f_soAt f_meets f_wayFrom f_wayTo f_wayBy f_reach f_goesOn f_far f_round f_line f_guessAt) (by decide +kernel) rfl g_nil ?_
    have hq := g_sat_s hs
    exact g_zret hX (by decide +kernel) rfl (Or.inl rfl) hq
