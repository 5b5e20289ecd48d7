abbrev rm_M_in : Room := { frames := 0, cells := 0, slots := 0, locals := 0 }
def F_M_in (a0 : Int32) (a1 : Int32) (a2 : Int32) : Int32 := (if a0 < a1 then (0 : Int32) else (if a2 < a0 then (0 : Int32) else (1 : Int32)))
theorem bo_M_in (a0 : Int32) (a1 : Int32) (a2 : Int32) : F_M_in a0 a1 a2 = 0 ∨ F_M_in a0 a1 a2 = 1 := by
  unfold F_M_in
  repeat (first | exact Or.inl rfl | exact Or.inr rfl | split)
set_option maxRecDepth 100000 in
theorem ct_M_in (a0 : Int32) (a1 : Int32) (a2 : Int32) : g_F y_M_in c_M_in 3 (some .boolean) rm_M_in [.int a0, .int a1, .int a2] [] (some (F_M_in a0 a1 a2)) (fun o => some (.int o)) (fun _ => []) := by
  intro l P hs
  refine g_ofG 7 (by decide +kernel) rfl (Nat.le_of_ble_eq_true rfl) (fun X hX => ?_)
  unfold F_M_in at hs
  refine g_loc (L2 := [(0, .int a0), (1, .int a1), (2, .int a2)]) [0, 1, 2] rfl ?_
  refine g_blk 2 [(.iload_n 0, 0, 0, 0, 0), (.iload_n 1, 0, 0, 0, 0)] [] [(0, .int a0), (1, .int a1), (2, .int a2)] [.int a1, .int a0] [] (by decide +kernel) rfl g_nil ?_
  have hJ2 : ∀ (v2 : Int32) (ev2 : v2 = (if a0 < a1 then (0 : Int32) else (if a2 < a0 then (0 : Int32) else (1 : Int32)))), g_G X rm_M_in c_M_in 3 7 (some .boolean) 15 [] [.int v2] [] := by
    intro v2 ev2
    subst ev2
    have hq := g_sat_s hs
    exact g_zret hX (by decide +kernel) rfl (by repeat (first | exact Or.inl rfl | exact Or.inr rfl | split)) hq
  refine g_br 14 (.if_icmp .lt 12) (a0 < a1) [] (by decide +kernel) rfl (fun c4 => ?_) (fun c4 => ?_)
  · refine g_blk 15 [(.iconst 0, 0, 0, 0, 0)] [] [(0, .int a0), (1, .int a1), (2, .int a2)] [.int (0 : Int32)] [] (by decide +kernel) rfl g_nil ?_
    refine g_loc (L2 := []) [] rfl ?_
    exact hJ2 _ (by rw [if_pos c4])
  · refine g_blk 7 [(.iload_n 0, 0, 0, 0, 0), (.iload_n 2, 0, 0, 0, 0)] [] [(0, .int a0), (1, .int a1), (2, .int a2)] [.int a2, .int a0] [] (by decide +kernel) rfl g_nil ?_
    refine g_br 14 (.if_icmp .gt 7) (a2 < a0) [] (by decide +kernel) rfl (fun c5 => ?_) (fun c5 => ?_)
    · refine g_blk 15 [(.iconst 0, 0, 0, 0, 0)] [] [(0, .int a0), (1, .int a1), (2, .int a2)] [.int (0 : Int32)] [] (by decide +kernel) rfl g_nil ?_
      refine g_loc (L2 := []) [] rfl ?_
      exact hJ2 _ (by rw [if_neg c4, if_pos c5])
    · refine g_blk 15 [(.iconst 1, 0, 0, 1, 0), (.goto 4, 0, 0, 0, 0)] [] [(0, .int a0), (1, .int a1), (2, .int a2)] [.int (1 : Int32)] [] (by decide +kernel) rfl g_nil ?_
      refine g_loc (L2 := []) [] rfl ?_
      exact hJ2 _ (by rw [if_neg c4, if_neg c5])
abbrev rm_M_has : Room := { frames := 0, cells := 0, slots := 0, locals := 0 }
def F_M_has (a0 : Int32) (a1 : Int32) : Int32 := (if ((g_ishr a0 a1) &&& (1 : Int32)) = (1 : Int32) then (1 : Int32) else (0 : Int32))
theorem bo_M_has (a0 : Int32) (a1 : Int32) : F_M_has a0 a1 = 0 ∨ F_M_has a0 a1 = 1 := by
  unfold F_M_has
  repeat (first | exact Or.inl rfl | exact Or.inr rfl | split)
set_option maxRecDepth 100000 in
theorem ct_M_has (a0 : Int32) (a1 : Int32) : g_F y_M_has c_M_has 2 (some .boolean) rm_M_has [.int a0, .int a1] [] (some (F_M_has a0 a1)) (fun o => some (.int o)) (fun _ => []) := by
  intro l P hs
  refine g_ofG 7 (by decide +kernel) rfl (Nat.le_of_ble_eq_true rfl) (fun X hX => ?_)
  unfold F_M_has at hs
  refine g_loc (L2 := [(0, .int a0), (1, .int a1)]) [0, 1] rfl ?_
  refine g_blk 6 [(.iload_n 0, 0, 0, 0, 0), (.iload_n 1, 0, 0, 0, 0), (.ishr, 0, 0, 0, 0), (.iconst 1, 0, 0, 1, 0), (.iand, 0, 0, 0, 0), (.iconst 1, 0, 0, 1, 0)] [] [(0, .int a0), (1, .int a1)] [.int (1 : Int32), .int ((g_ishr a0 a1) &&& (1 : Int32))] [] (by decide +kernel) rfl g_nil ?_
  have hJ2 : ∀ (v2 : Int32) (ev2 : v2 = (if ((g_ishr a0 a1) &&& (1 : Int32)) = (1 : Int32) then (1 : Int32) else (0 : Int32))), g_G X rm_M_has c_M_has 2 7 (some .boolean) 14 [] [.int v2] [] := by
    intro v2 ev2
    subst ev2
    have hq := g_sat_s hs
    exact g_zret hX (by decide +kernel) rfl (by repeat (first | exact Or.inl rfl | exact Or.inr rfl | split)) hq
  refine g_brn 13 (.if_icmp .ne 7) (((g_ishr a0 a1) &&& (1 : Int32)) = (1 : Int32)) [] (by decide +kernel) rfl (fun c4 => ?_) (fun c4 => ?_)
  · refine g_blk 14 [(.iconst 0, 0, 0, 0, 0)] [] [(0, .int a0), (1, .int a1)] [.int (0 : Int32)] [] (by decide +kernel) rfl g_nil ?_
    refine g_loc (L2 := []) [] rfl ?_
    exact hJ2 _ (by rw [if_neg c4])
  · refine g_blk 14 [(.iconst 1, 0, 0, 1, 0), (.goto 4, 0, 0, 0, 0)] [] [(0, .int a0), (1, .int a1)] [.int (1 : Int32)] [] (by decide +kernel) rfl g_nil ?_
    refine g_loc (L2 := []) [] rfl ?_
    exact hJ2 _ (by rw [if_pos c4])
abbrev rm_M_remembers : Room := { frames := 0, cells := 0, slots := 0, locals := 0 }
def M_remembers_l1 : Nat → Int32 → (Nat → Int32) → Option (Nat → Int32)
  | 0, _, _ => none
  | n + 1, b1_3, w_past_4 => (if (525 : Int32) ≤ b1_3 then (some w_past_4) else (g_chk (g_inb (b1_3 + (105 : Int32)) 630) (g_chk (g_inb b1_3 630) (M_remembers_l1 n (b1_3 + (1 : Int32)) (upd w_past_4 b1_3.toNatClampNeg (w_past_4 ((b1_3 + (105 : Int32))).toNatClampNeg))))))
theorem M_remembers_l1_s (n : Nat) (b1_3 : Int32) (w_past_4 : Nat → Int32) : M_remembers_l1 (n + 1) b1_3 w_past_4 = (if (525 : Int32) ≤ b1_3 then (some w_past_4) else (g_chk (g_inb (b1_3 + (105 : Int32)) 630) (g_chk (g_inb b1_3 630) (M_remembers_l1 n (b1_3 + (1 : Int32)) (upd w_past_4 b1_3.toNatClampNeg (w_past_4 ((b1_3 + (105 : Int32))).toNatClampNeg)))))) := rfl
def M_remembers_l2 (o2 : Int32 × (Nat → Int32)) (f_now : Nat → Int32) : Nat → Int32 → (Nat → Int32) → Option (Nat → Int32)
  | 0, _, _ => none
  | n + 1, b1_9, w_past_10 => (if (105 : Int32) ≤ b1_9 then (some w_past_10) else (g_chk (g_inb b1_9 105) (g_chk (g_inb (((105 : Int32) * o2.1) + b1_9) 630) (M_remembers_l2 o2 f_now n (b1_9 + (1 : Int32)) (upd w_past_10 ((((105 : Int32) * o2.1) + b1_9)).toNatClampNeg (f_now b1_9.toNatClampNeg))))))
theorem M_remembers_l2_s (o2 : Int32 × (Nat → Int32)) (f_now : Nat → Int32) (n : Nat) (b1_9 : Int32) (w_past_10 : Nat → Int32) : M_remembers_l2 o2 f_now (n + 1) b1_9 w_past_10 = (if (105 : Int32) ≤ b1_9 then (some w_past_10) else (g_chk (g_inb b1_9 105) (g_chk (g_inb (((105 : Int32) * o2.1) + b1_9) 630) (M_remembers_l2 o2 f_now n (b1_9 + (1 : Int32)) (upd w_past_10 ((((105 : Int32) * o2.1) + b1_9)).toNatClampNeg (f_now b1_9.toNatClampNeg)))))) := rfl
def F_M_remembers (N : Nat) (f_undone : Int32) (f_now : Nat → Int32) (f_past : Nat → Int32) : Option (Int32 × (Nat → Int32)) := ((if f_undone = (6 : Int32) then ((M_remembers_l1 N (0 : Int32) f_past).bind fun o5 => (some ((f_undone - (1 : Int32)), o5))) else (some (f_undone, f_past))).bind fun o2 => ((M_remembers_l2 o2 f_now N (0 : Int32) o2.2).bind fun o11 => (some ((o2.1 + (1 : Int32)), o11))))
set_option maxRecDepth 100000 in
theorem ct_M_remembers (N : Nat) (f_undone : Int32) (f_letters : Int32) (f_showing : Int32) (f_spot : Int32) (f_tokenAt : Int32) (f_value : Int32) (f_laters : Int32) (f_places : Int32) (f_guesses : Int32) (f_ways : Int32) (f_now : Nat → Int32) (f_past : Nat → Int32) (f_images : Nat → Int32) (f_isKept : Nat → Int32) (f_text : Nat → Int32) (f_shown : Nat → Int32) (f_read : Nat → Int32) (f_letter : Nat → Int32) (f_sizes : Nat → Int32) (f_laterNumber : Nat → Int32) (f_many : Nat → Int32) (f_labelAt : Nat → Int32) (f_soAt : Nat → Int32) (f_meets : Nat → Int32) (f_wayFrom : Nat → Int32) (f_wayTo : Nat → Int32) (f_wayBy : Nat → Int32) (f_reach : Nat → Int64) (f_goesOn : Nat → Int32) (f_far : Nat → Int32) (f_round : Nat → Int32) (f_line : Nat → Int32) (f_guessAt : Nat → Int32) : g_F y_M_remembers c_M_remembers 2 none rm_M_remembers [.ref 0] (HM f_undone f_letters f_showing f_spot f_tokenAt f_value f_laters f_places f_guesses f_ways f_now f_past f_images f_isKept f_text f_shown f_read f_letter f_sizes f_laterNumber f_many f_labelAt f_soAt f_meets f_wayFrom f_wayTo f_wayBy f_reach f_goesOn f_far f_round f_line f_guessAt) (F_M_remembers N f_undone f_now f_past) (fun o => none) (fun o => (HM o.1 f_letters f_showing f_spot f_tokenAt f_value f_laters f_places f_guesses f_ways f_now o.2 f_images f_isKept f_text f_shown f_read f_letter f_sizes f_laterNumber f_many f_labelAt f_soAt f_meets f_wayFrom f_wayTo f_wayBy f_reach f_goesOn f_far f_round f_line f_guessAt)) := by
  intro l P hs
  refine g_ofG 7 (by decide +kernel) rfl (Nat.le_of_ble_eq_true rfl) (fun X hX => ?_)
  unfold F_M_remembers at hs
  refine g_loc (L2 := [(0, .ref 0)]) [0] rfl ?_
  refine g_blk 6 [(.aload_n 0, 0, 0, 0, 0), (.getfield 81, 7, 2, 0, 0), (.bipush 6, 0, 0, 6, 0)] [] [(0, .ref 0)] [.int (6 : Int32), .int f_undone] (HM f_undone f_letters f_showing f_spot f_tokenAt f_value f_laters f_places f_guesses f_ways f_now f_past f_images f_isKept f_text f_shown f_read f_letter f_sizes f_laterNumber f_many f_labelAt f_soAt f_meets f_wayFrom f_wayTo f_wayBy f_reach f_goesOn f_far f_round f_line f_guessAt) (by decide +kernel) rfl g_nil ?_
  refine g_join (fun (o2 : Int32 × (Nat → Int32)) => g_G X rm_M_remembers c_M_remembers 2 7 none 49 [(0, .ref 0)] [] (HM o2.1 f_letters f_showing f_spot f_tokenAt f_value f_laters f_places f_guesses f_ways f_now o2.2 f_images f_isKept f_text f_shown f_read f_letter f_sizes f_laterNumber f_many f_labelAt f_soAt f_meets f_wayFrom f_wayTo f_wayBy f_reach f_goesOn f_far f_round f_line f_guessAt)) hs (fun o2 hs => ?_) (fun hs => ?_)
  · refine g_blk 51 [(.iconst 0, 0, 0, 0, 0), (.istore_n 1, 0, 0, 0, 0)] [] [(1, .int (0 : Int32)), (0, .ref 0)] [] (HM o2.1 f_letters f_showing f_spot f_tokenAt f_value f_laters f_places f_guesses f_ways f_now o2.2 f_images f_isKept f_text f_shown f_read f_letter f_sizes f_laterNumber f_many f_labelAt f_soAt f_meets f_wayFrom f_wayTo f_wayBy f_reach f_goesOn f_far f_round f_line f_guessAt) (by decide +kernel) rfl g_nil ?_
    refine g_loc (L2 := [(0, .ref 0), (1, .int (0 : Int32))]) [1, 0] rfl ?_
    refine g_join (fun (o11 : Nat → Int32) => g_G X rm_M_remembers c_M_remembers 2 7 none 83 [(0, .ref 0)] [] (HM o2.1 f_letters f_showing f_spot f_tokenAt f_value f_laters f_places f_guesses f_ways f_now o11 f_images f_isKept f_text f_shown f_read f_letter f_sizes f_laterNumber f_many f_labelAt f_soAt f_meets f_wayFrom f_wayTo f_wayBy f_reach f_goesOn f_far f_round f_line f_guessAt)) hs (fun o11 hs => ?_) (fun hs => ?_)
    · refine g_blk 93 [(.aload_n 0, 0, 0, 0, 0), (.dup, 0, 0, 0, 0), (.getfield 81, 7, 2, 0, 0), (.iconst 1, 0, 0, 1, 0), (.iadd, 0, 0, 0, 0), (.putfield 81, 7, 2, 1, 0)] [] [(0, .ref 0)] [] (HM (o2.1 + (1 : Int32)) f_letters f_showing f_spot f_tokenAt f_value f_laters f_places f_guesses f_ways f_now o11 f_images f_isKept f_text f_shown f_read f_letter f_sizes f_laterNumber f_many f_labelAt f_soAt f_meets f_wayFrom f_wayTo f_wayBy f_reach f_goesOn f_far f_round f_line f_guessAt) (by decide +kernel) rfl g_nil ?_
      have hq := g_sat_s hs
      exact g_vret hX (by decide +kernel) rfl hq
    · have hlM_remembers_l2 : ∀ (n : Nat) (b1_9 : Int32) (w_past_10 : Nat → Int32), g_sat (M_remembers_l2 o2 f_now n b1_9 w_past_10) (fun (o11 : Nat → Int32) => g_G X rm_M_remembers c_M_remembers 2 7 none 83 [(0, .ref 0)] [] (HM o2.1 f_letters f_showing f_spot f_tokenAt f_value f_laters f_places f_guesses f_ways f_now o11 f_images f_isKept f_text f_shown f_read f_letter f_sizes f_laterNumber f_many f_labelAt f_soAt f_meets f_wayFrom f_wayTo f_wayBy f_reach f_goesOn f_far f_round f_line f_guessAt)) → g_G X rm_M_remembers c_M_remembers 2 7 none 51 [(0, .ref 0), (1, .int b1_9)] [] (HM o2.1 f_letters f_showing f_spot f_tokenAt f_value f_laters f_places f_guesses f_ways f_now w_past_10 f_images f_isKept f_text f_shown f_read f_letter f_sizes f_laterNumber f_many f_labelAt f_soAt f_meets f_wayFrom f_wayTo f_wayBy f_reach f_goesOn f_far f_round f_line f_guessAt) := by
        intro n
        induction n with
        | zero =>
          intro b1_9 w_past_10 hs
          obtain ⟨_, h0, _⟩ := hs
          cases h0
        | succ n ih =>
          intro b1_9 w_past_10 hs
          rw [M_remembers_l2_s] at hs
          refine g_blk 54 [(.iload_n 1, 0, 0, 0, 0), (.bipush 105, 0, 0, 105, 0)] [] [(0, .ref 0), (1, .int b1_9)] [.int (105 : Int32), .int b1_9] (HM o2.1 f_letters f_showing f_spot f_tokenAt f_value f_laters f_places f_guesses f_ways f_now w_past_10 f_images f_isKept f_text f_shown f_read f_letter f_sizes f_laterNumber f_many f_labelAt f_soAt f_meets f_wayFrom f_wayTo f_wayBy f_reach f_goesOn f_far f_round f_line f_guessAt) (by decide +kernel) rfl g_nil ?_
          refine g_br 83 (.if_icmp .ge 29) ((105 : Int32) ≤ b1_9) [] (by decide +kernel) rfl (fun c12 => ?_) (fun c12 => ?_)
          · have hs := g_sat_t hs c12
            refine g_loc (L2 := [(0, .ref 0)]) [0] rfl ?_
            have hq := g_sat_s hs
            exact hq
          · have hs := g_sat_f hs c12
            obtain ⟨h13, hs⟩ := g_sat_c hs
            obtain ⟨h14, hs⟩ := g_sat_c hs
            refine g_blk 51 [(.aload_n 0, 0, 0, 0, 0), (.getfield 13, 7, 1, 0, 0), (.bipush 105, 0, 0, 105, 0), (.aload_n 0, 0, 0, 0, 0), (.getfield 81, 7, 2, 0, 0), (.imul, 0, 0, 0, 0), (.iload_n 1, 0, 0, 0, 0), (.iadd, 0, 0, 0, 0), (.aload_n 0, 0, 0, 0, 0), (.getfield 7, 7, 0, 0, 0), (.iload_n 1, 0, 0, 0, 0), (.iaload, 0, 0, 0, 0), (.iastore, 0, 0, 0, 0), (.iinc 1 1, 0, 0, 1, 0), (.goto (-29), 0, 0, 0, 0)] [vp_in b1_9 105, vp_in (((105 : Int32) * o2.1) + b1_9) 630] [(1, .int (b1_9 + (1 : Int32))), (0, .ref 0)] [] (HM o2.1 f_letters f_showing f_spot f_tokenAt f_value f_laters f_places f_guesses f_ways f_now (upd w_past_10 ((((105 : Int32) * o2.1) + b1_9)).toNatClampNeg (f_now b1_9.toNatClampNeg)) f_images f_isKept f_text f_shown f_read f_letter f_sizes f_laterNumber f_many f_labelAt f_soAt f_meets f_wayFrom f_wayTo f_wayBy f_reach f_goesOn f_far f_round f_line f_guessAt) (by decide +kernel) rfl (g_and (g_inb_in h13) (g_and (g_inb_in h14) g_nil)) ?_
            refine g_loc (L2 := [(0, .ref 0), (1, .int (b1_9 + (1 : Int32)))]) [1, 0] rfl ?_
            exact ih _ _ hs
      exact hlM_remembers_l2 N _ _ hs
  · refine g_brn 49 (.if_icmp .ne 43) (f_undone = (6 : Int32)) [] (by decide +kernel) rfl (fun c1 => ?_) (fun c1 => ?_)
    · have hs := g_sat_f hs c1
      have hq := g_sat_s hs
      exact hq
    · have hs := g_sat_t hs c1
      refine g_blk 11 [(.iconst 0, 0, 0, 0, 0), (.istore_n 1, 0, 0, 0, 0)] [] [(1, .int (0 : Int32)), (0, .ref 0)] [] (HM f_undone f_letters f_showing f_spot f_tokenAt f_value f_laters f_places f_guesses f_ways f_now f_past f_images f_isKept f_text f_shown f_read f_letter f_sizes f_laterNumber f_many f_labelAt f_soAt f_meets f_wayFrom f_wayTo f_wayBy f_reach f_goesOn f_far f_round f_line f_guessAt) (by decide +kernel) rfl g_nil ?_
      refine g_loc (L2 := [(0, .ref 0), (1, .int (0 : Int32))]) [1, 0] rfl ?_
      refine g_join (fun (o5 : Nat → Int32) => g_G X rm_M_remembers c_M_remembers 2 7 none 39 [(0, .ref 0)] [] (HM f_undone f_letters f_showing f_spot f_tokenAt f_value f_laters f_places f_guesses f_ways f_now o5 f_images f_isKept f_text f_shown f_read f_letter f_sizes f_laterNumber f_many f_labelAt f_soAt f_meets f_wayFrom f_wayTo f_wayBy f_reach f_goesOn f_far f_round f_line f_guessAt)) hs (fun o5 hs => ?_) (fun hs => ?_)
      · refine g_blk 49 [(.aload_n 0, 0, 0, 0, 0), (.dup, 0, 0, 0, 0), (.getfield 81, 7, 2, 0, 0), (.iconst 1, 0, 0, 1, 0), (.isub, 0, 0, 0, 0), (.putfield 81, 7, 2, 1, 0)] [] [(0, .ref 0)] [] (HM (f_undone - (1 : Int32)) f_letters f_showing f_spot f_tokenAt f_value f_laters f_places f_guesses f_ways f_now o5 f_images f_isKept f_text f_shown f_read f_letter f_sizes f_laterNumber f_many f_labelAt f_soAt f_meets f_wayFrom f_wayTo f_wayBy f_reach f_goesOn f_far f_round f_line f_guessAt) (by decide +kernel) rfl g_nil ?_
        have hq := g_sat_s hs
        exact hq
      · have hlM_remembers_l1 : ∀ (n : Nat) (b1_3 : Int32) (w_past_4 : Nat → Int32), g_sat (M_remembers_l1 n b1_3 w_past_4) (fun (o5 : Nat → Int32) => g_G X rm_M_remembers c_M_remembers 2 7 none 39 [(0, .ref 0)] [] (HM f_undone f_letters f_showing f_spot f_tokenAt f_value f_laters f_places f_guesses f_ways f_now o5 f_images f_isKept f_text f_shown f_read f_letter f_sizes f_laterNumber f_many f_labelAt f_soAt f_meets f_wayFrom f_wayTo f_wayBy f_reach f_goesOn f_far f_round f_line f_guessAt)) → g_G X rm_M_remembers c_M_remembers 2 7 none 11 [(0, .ref 0), (1, .int b1_3)] [] (HM f_undone f_letters f_showing f_spot f_tokenAt f_value f_laters f_places f_guesses f_ways f_now w_past_4 f_images f_isKept f_text f_shown f_read f_letter f_sizes f_laterNumber f_many f_labelAt f_soAt f_meets f_wayFrom f_wayTo f_wayBy f_reach f_goesOn f_far f_round f_line f_guessAt) := by
          intro n
          induction n with
          | zero =>
            intro b1_3 w_past_4 hs
            obtain ⟨_, h0, _⟩ := hs
            cases h0
          | succ n ih =>
            intro b1_3 w_past_4 hs
            rw [M_remembers_l1_s] at hs
            refine g_blk 15 [(.iload_n 1, 0, 0, 0, 0), (.sipush 525, 0, 0, 525, 0)] [] [(0, .ref 0), (1, .int b1_3)] [.int (525 : Int32), .int b1_3] (HM f_undone f_letters f_showing f_spot f_tokenAt f_value f_laters f_places f_guesses f_ways f_now w_past_4 f_images f_isKept f_text f_shown f_read f_letter f_sizes f_laterNumber f_many f_labelAt f_soAt f_meets f_wayFrom f_wayTo f_wayBy f_reach f_goesOn f_far f_round f_line f_guessAt) (by decide +kernel) rfl g_nil ?_
            refine g_br 39 (.if_icmp .ge 24) ((525 : Int32) ≤ b1_3) [] (by decide +kernel) rfl (fun c6 => ?_) (fun c6 => ?_)
            · have hs := g_sat_t hs c6
              refine g_loc (L2 := [(0, .ref 0)]) [0] rfl ?_
              have hq := g_sat_s hs
              exact hq
            · have hs := g_sat_f hs c6
              obtain ⟨h7, hs⟩ := g_sat_c hs
              obtain ⟨h8, hs⟩ := g_sat_c hs
              refine g_blk 11 [(.aload_n 0, 0, 0, 0, 0), (.getfield 13, 7, 1, 0, 0), (.iload_n 1, 0, 0, 0, 0), (.aload_n 0, 0, 0, 0, 0), (.getfield 13, 7, 1, 0, 0), (.iload_n 1, 0, 0, 0, 0), (.bipush 105, 0, 0, 105, 0), (.iadd, 0, 0, 0, 0), (.iaload, 0, 0, 0, 0), (.iastore, 0, 0, 0, 0), (.iinc 1 1, 0, 0, 1, 0), (.goto (-25), 0, 0, 0, 0)] [vp_in (b1_3 + (105 : Int32)) 630, vp_in b1_3 630] [(1, .int (b1_3 + (1 : Int32))), (0, .ref 0)] [] (HM f_undone f_letters f_showing f_spot f_tokenAt f_value f_laters f_places f_guesses f_ways f_now (upd w_past_4 b1_3.toNatClampNeg (w_past_4 ((b1_3 + (105 : Int32))).toNatClampNeg)) f_images f_isKept f_text f_shown f_read f_letter f_sizes f_laterNumber f_many f_labelAt f_soAt f_meets f_wayFrom f_wayTo f_wayBy f_reach f_goesOn f_far f_round f_line f_guessAt) (by decide +kernel) rfl (g_and (g_inb_in h7) (g_and (g_inb_in h8) g_nil)) ?_
              refine g_loc (L2 := [(0, .ref 0), (1, .int (b1_3 + (1 : Int32)))]) [1, 0] rfl ?_
              exact ih _ _ hs
        exact hlM_remembers_l1 N _ _ hs
abbrev rm_M_undo : Room := { frames := 0, cells := 0, slots := 0, locals := 0 }
def M_undo_l1 (f_undone : Int32) (f_past : Nat → Int32) : Nat → Int32 → (Nat → Int32) → Option (Nat → Int32)
  | 0, _, _ => none
  | n + 1, b1_2, w_now_3 => (if (105 : Int32) ≤ b1_2 then (some w_now_3) else (g_chk (g_inb (((105 : Int32) * (f_undone - (1 : Int32))) + b1_2) 630) (g_chk (g_inb b1_2 105) (M_undo_l1 f_undone f_past n (b1_2 + (1 : Int32)) (upd w_now_3 b1_2.toNatClampNeg (f_past ((((105 : Int32) * (f_undone - (1 : Int32))) + b1_2)).toNatClampNeg))))))
theorem M_undo_l1_s (f_undone : Int32) (f_past : Nat → Int32) (n : Nat) (b1_2 : Int32) (w_now_3 : Nat → Int32) : M_undo_l1 f_undone f_past (n + 1) b1_2 w_now_3 = (if (105 : Int32) ≤ b1_2 then (some w_now_3) else (g_chk (g_inb (((105 : Int32) * (f_undone - (1 : Int32))) + b1_2) 630) (g_chk (g_inb b1_2 105) (M_undo_l1 f_undone f_past n (b1_2 + (1 : Int32)) (upd w_now_3 b1_2.toNatClampNeg (f_past ((((105 : Int32) * (f_undone - (1 : Int32))) + b1_2)).toNatClampNeg)))))) := rfl
def F_M_undo (N : Nat) (f_undone : Int32) (f_now : Nat → Int32) (f_past : Nat → Int32) : Option (Int32 × Int32 × (Nat → Int32)) := (if f_undone = 0 then (some ((-2 : Int32), f_undone, f_now)) else ((M_undo_l1 f_undone f_past N (0 : Int32) f_now).bind fun o4 => (some ((f_undone - (1 : Int32)), (f_undone - (1 : Int32)), o4))))
set_option maxRecDepth 100000 in
theorem ct_M_undo (N : Nat) (f_undone : Int32) (f_letters : Int32) (f_showing : Int32) (f_spot : Int32) (f_tokenAt : Int32) (f_value : Int32) (f_laters : Int32) (f_places : Int32) (f_guesses : Int32) (f_ways : Int32) (f_now : Nat → Int32) (f_past : Nat → Int32) (f_images : Nat → Int32) (f_isKept : Nat → Int32) (f_text : Nat → Int32) (f_shown : Nat → Int32) (f_read : Nat → Int32) (f_letter : Nat → Int32) (f_sizes : Nat → Int32) (f_laterNumber : Nat → Int32) (f_many : Nat → Int32) (f_labelAt : Nat → Int32) (f_soAt : Nat → Int32) (f_meets : Nat → Int32) (f_wayFrom : Nat → Int32) (f_wayTo : Nat → Int32) (f_wayBy : Nat → Int32) (f_reach : Nat → Int64) (f_goesOn : Nat → Int32) (f_far : Nat → Int32) (f_round : Nat → Int32) (f_line : Nat → Int32) (f_guessAt : Nat → Int32) : g_F y_M_undo c_M_undo 2 (some .int) rm_M_undo [.ref 0] (HM f_undone f_letters f_showing f_spot f_tokenAt f_value f_laters f_places f_guesses f_ways f_now f_past f_images f_isKept f_text f_shown f_read f_letter f_sizes f_laterNumber f_many f_labelAt f_soAt f_meets f_wayFrom f_wayTo f_wayBy f_reach f_goesOn f_far f_round f_line f_guessAt) (F_M_undo N f_undone f_now f_past) (fun o => some (.int o.1)) (fun o => (HM o.2.1 f_letters f_showing f_spot f_tokenAt f_value f_laters f_places f_guesses f_ways o.2.2 f_past f_images f_isKept f_text f_shown f_read f_letter f_sizes f_laterNumber f_many f_labelAt f_soAt f_meets f_wayFrom f_wayTo f_wayBy f_reach f_goesOn f_far f_round f_line f_guessAt)) := by
  intro l P hs
  refine g_ofG 7 (by decide +kernel) rfl (Nat.le_of_ble_eq_true rfl) (fun X hX => ?_)
  unfold F_M_undo at hs
  refine g_loc (L2 := [(0, .ref 0)]) [0] rfl ?_
  refine g_blk 4 [(.aload_n 0, 0, 0, 0, 0), (.getfield 81, 7, 2, 0, 0)] [] [(0, .ref 0)] [.int f_undone] (HM f_undone f_letters f_showing f_spot f_tokenAt f_value f_laters f_places f_guesses f_ways f_now f_past f_images f_isKept f_text f_shown f_read f_letter f_sizes f_laterNumber f_many f_labelAt f_soAt f_meets f_wayFrom f_wayTo f_wayBy f_reach f_goesOn f_far f_round f_line f_guessAt) (by decide +kernel) rfl g_nil ?_
  refine g_brn 10 (.ifCond .ne 6) (f_undone = 0) [] (by decide +kernel) rfl (fun c1 => ?_) (fun c1 => ?_)
  · have hs := g_sat_f hs c1
    refine g_blk 22 [(.aload_n 0, 0, 0, 0, 0), (.dup, 0, 0, 0, 0), (.getfield 81, 7, 2, 0, 0), (.iconst 1, 0, 0, 1, 0), (.isub, 0, 0, 0, 0), (.putfield 81, 7, 2, 1, 0), (.iconst 0, 0, 0, 0, 0), (.istore_n 1, 0, 0, 0, 0)] [] [(1, .int (0 : Int32)), (0, .ref 0)] [] (HM (f_undone - (1 : Int32)) f_letters f_showing f_spot f_tokenAt f_value f_laters f_places f_guesses f_ways f_now f_past f_images f_isKept f_text f_shown f_read f_letter f_sizes f_laterNumber f_many f_labelAt f_soAt f_meets f_wayFrom f_wayTo f_wayBy f_reach f_goesOn f_far f_round f_line f_guessAt) (by decide +kernel) rfl g_nil ?_
    refine g_loc (L2 := [(0, .ref 0), (1, .int (0 : Int32))]) [1, 0] rfl ?_
    refine g_join (fun (o4 : Nat → Int32) => g_G X rm_M_undo c_M_undo 2 7 (some .int) 54 [(0, .ref 0)] [] (HM (f_undone - (1 : Int32)) f_letters f_showing f_spot f_tokenAt f_value f_laters f_places f_guesses f_ways o4 f_past f_images f_isKept f_text f_shown f_read f_letter f_sizes f_laterNumber f_many f_labelAt f_soAt f_meets f_wayFrom f_wayTo f_wayBy f_reach f_goesOn f_far f_round f_line f_guessAt)) hs (fun o4 hs => ?_) (fun hs => ?_)
    · refine g_blk 58 [(.aload_n 0, 0, 0, 0, 0), (.getfield 81, 7, 2, 0, 0)] [] [(0, .ref 0)] [.int (f_undone - (1 : Int32))] (HM (f_undone - (1 : Int32)) f_letters f_showing f_spot f_tokenAt f_value f_laters f_places f_guesses f_ways o4 f_past f_images f_isKept f_text f_shown f_read f_letter f_sizes f_laterNumber f_many f_labelAt f_soAt f_meets f_wayFrom f_wayTo f_wayBy f_reach f_goesOn f_far f_round f_line f_guessAt) (by decide +kernel) rfl g_nil ?_
      have hq := g_sat_s hs
      exact g_iret hX (by decide +kernel) rfl hq
    · have hlM_undo_l1 : ∀ (n : Nat) (b1_2 : Int32) (w_now_3 : Nat → Int32), g_sat (M_undo_l1 f_undone f_past n b1_2 w_now_3) (fun (o4 : Nat → Int32) => g_G X rm_M_undo c_M_undo 2 7 (some .int) 54 [(0, .ref 0)] [] (HM (f_undone - (1 : Int32)) f_letters f_showing f_spot f_tokenAt f_value f_laters f_places f_guesses f_ways o4 f_past f_images f_isKept f_text f_shown f_read f_letter f_sizes f_laterNumber f_many f_labelAt f_soAt f_meets f_wayFrom f_wayTo f_wayBy f_reach f_goesOn f_far f_round f_line f_guessAt)) → g_G X rm_M_undo c_M_undo 2 7 (some .int) 22 [(0, .ref 0), (1, .int b1_2)] [] (HM (f_undone - (1 : Int32)) f_letters f_showing f_spot f_tokenAt f_value f_laters f_places f_guesses f_ways w_now_3 f_past f_images f_isKept f_text f_shown f_read f_letter f_sizes f_laterNumber f_many f_labelAt f_soAt f_meets f_wayFrom f_wayTo f_wayBy f_reach f_goesOn f_far f_round f_line f_guessAt) := by
        intro n
        induction n with
        | zero =>
          intro b1_2 w_now_3 hs
          obtain ⟨_, h0, _⟩ := hs
          cases h0
        | succ n ih =>
          intro b1_2 w_now_3 hs
          rw [M_undo_l1_s] at hs
          refine g_blk 25 [(.iload_n 1, 0, 0, 0, 0), (.bipush 105, 0, 0, 105, 0)] [] [(0, .ref 0), (1, .int b1_2)] [.int (105 : Int32), .int b1_2] (HM (f_undone - (1 : Int32)) f_letters f_showing f_spot f_tokenAt f_value f_laters f_places f_guesses f_ways w_now_3 f_past f_images f_isKept f_text f_shown f_read f_letter f_sizes f_laterNumber f_many f_labelAt f_soAt f_meets f_wayFrom f_wayTo f_wayBy f_reach f_goesOn f_far f_round f_line f_guessAt) (by decide +kernel) rfl g_nil ?_
          refine g_br 54 (.if_icmp .ge 29) ((105 : Int32) ≤ b1_2) [] (by decide +kernel) rfl (fun c5 => ?_) (fun c5 => ?_)
          · have hs := g_sat_t hs c5
            refine g_loc (L2 := [(0, .ref 0)]) [0] rfl ?_
            have hq := g_sat_s hs
            exact hq
          · have hs := g_sat_f hs c5
            obtain ⟨h6, hs⟩ := g_sat_c hs
            obtain ⟨h7, hs⟩ := g_sat_c hs
            refine g_blk 22 [(.aload_n 0, 0, 0, 0, 0), (.getfield 7, 7, 0, 0, 0), (.iload_n 1, 0, 0, 0, 0), (.aload_n 0, 0, 0, 0, 0), (.getfield 13, 7, 1, 0, 0), (.bipush 105, 0, 0, 105, 0), (.aload_n 0, 0, 0, 0, 0), (.getfield 81, 7, 2, 0, 0), (.imul, 0, 0, 0, 0), (.iload_n 1, 0, 0, 0, 0), (.iadd, 0, 0, 0, 0), (.iaload, 0, 0, 0, 0), (.iastore, 0, 0, 0, 0), (.iinc 1 1, 0, 0, 1, 0), (.goto (-29), 0, 0, 0, 0)] [vp_in (((105 : Int32) * (f_undone - (1 : Int32))) + b1_2) 630, vp_in b1_2 105] [(1, .int (b1_2 + (1 : Int32))), (0, .ref 0)] [] (HM (f_undone - (1 : Int32)) f_letters f_showing f_spot f_tokenAt f_value f_laters f_places f_guesses f_ways (upd w_now_3 b1_2.toNatClampNeg (f_past ((((105 : Int32) * (f_undone - (1 : Int32))) + b1_2)).toNatClampNeg)) f_past f_images f_isKept f_text f_shown f_read f_letter f_sizes f_laterNumber f_many f_labelAt f_soAt f_meets f_wayFrom f_wayTo f_wayBy f_reach f_goesOn f_far f_round f_line f_guessAt) (by decide +kernel) rfl (g_and (g_inb_in h6) (g_and (g_inb_in h7) g_nil)) ?_
            refine g_loc (L2 := [(0, .ref 0), (1, .int (b1_2 + (1 : Int32)))]) [1, 0] rfl ?_
            exact ih _ _ hs
      exact hlM_undo_l1 N _ _ hs
  · have hs := g_sat_t hs c1
    refine g_blk 9 [(.bipush (-2), 0, 0, (-2), 0)] [] [(0, .ref 0)] [.int (-2 : Int32)] (HM f_undone f_letters f_showing f_spot f_tokenAt f_value f_laters f_places f_guesses f_ways f_now f_past f_images f_isKept f_text f_shown f_read f_letter f_sizes f_laterNumber f_many f_labelAt f_soAt f_meets f_wayFrom f_wayTo f_wayBy f_reach f_goesOn f_far f_round f_line f_guessAt) (by decide +kernel) rfl g_nil ?_
    have hq := g_sat_s hs
    exact g_iret hX (by decide +kernel) rfl hq
abbrev rm_M_type : Room := { frames := 1, cells := 0, slots := 0, locals := 22 }
def F_M_type (f_letters : Int32) (f_text : Nat → Int32) (a1 : Int32) : Option (Int32 × Int32 × (Nat → Int32)) := (if (F_M_in a1 (0 : Int32) (255 : Int32)) = 0 then (some ((-1 : Int32), f_letters, f_text)) else (if f_letters = (120 : Int32) then (some ((-3 : Int32), f_letters, f_text)) else (g_chk (g_inb f_letters 120) (some ((f_letters + (1 : Int32)), (f_letters + (1 : Int32)), (upd f_text f_letters.toNatClampNeg a1))))))
set_option maxRecDepth 100000 in
theorem ct_M_type (f_undone : Int32) (f_letters : Int32) (f_showing : Int32) (f_spot : Int32) (f_tokenAt : Int32) (f_value : Int32) (f_laters : Int32) (f_places : Int32) (f_guesses : Int32) (f_ways : Int32) (f_now : Nat → Int32) (f_past : Nat → Int32) (f_images : Nat → Int32) (f_isKept : Nat → Int32) (f_text : Nat → Int32) (f_shown : Nat → Int32) (f_read : Nat → Int32) (f_letter : Nat → Int32) (f_sizes : Nat → Int32) (f_laterNumber : Nat → Int32) (f_many : Nat → Int32) (f_labelAt : Nat → Int32) (f_soAt : Nat → Int32) (f_meets : Nat → Int32) (f_wayFrom : Nat → Int32) (f_wayTo : Nat → Int32) (f_wayBy : Nat → Int32) (f_reach : Nat → Int64) (f_goesOn : Nat → Int32) (f_far : Nat → Int32) (f_round : Nat → Int32) (f_line : Nat → Int32) (f_guessAt : Nat → Int32) (a1 : Int32) : g_F y_M_type c_M_type 2 (some .int) rm_M_type [.ref 0, .int a1] (HM f_undone f_letters f_showing f_spot f_tokenAt f_value f_laters f_places f_guesses f_ways f_now f_past f_images f_isKept f_text f_shown f_read f_letter f_sizes f_laterNumber f_many f_labelAt f_soAt f_meets f_wayFrom f_wayTo f_wayBy f_reach f_goesOn f_far f_round f_line f_guessAt) (F_M_type f_letters f_text a1) (fun o => some (.int o.1)) (fun o => (HM f_undone o.2.1 f_showing f_spot f_tokenAt f_value f_laters f_places f_guesses f_ways f_now f_past f_images f_isKept o.2.2 f_shown f_read f_letter f_sizes f_laterNumber f_many f_labelAt f_soAt f_meets f_wayFrom f_wayTo f_wayBy f_reach f_goesOn f_far f_round f_line f_guessAt)) := by
  intro l P hs
  refine g_ofG 7 (by decide +kernel) rfl (Nat.le_of_ble_eq_true rfl) (fun X hX => ?_)
  unfold F_M_type at hs
  refine g_loc (L2 := [(0, .ref 0), (1, .int a1)]) [0, 1] rfl ?_
  refine g_blk 5 [(.iload_n 1, 0, 0, 0, 0), (.iconst 0, 0, 0, 0, 0), (.sipush 255, 0, 0, 255, 0)] [] [(0, .ref 0), (1, .int a1)] [.int (255 : Int32), .int (0 : Int32), .int a1] (HM f_undone f_letters f_showing f_spot f_tokenAt f_value f_laters f_places f_guesses f_ways f_now f_past f_images f_isKept f_text f_shown f_read f_letter f_sizes f_laterNumber f_many f_labelAt f_soAt f_meets f_wayFrom f_wayTo f_wayBy f_reach f_goesOn f_far f_round f_line f_guessAt) (by decide +kernel) rfl g_nil ?_
  refine g_pN (ct_M_in a1 (0 : Int32) (255 : Int32)) 85 3 lk_7_85 (by decide +kernel) rfl ⟨rfl, rfl, by decide, by decide⟩ [] rfl (Nat.le_of_ble_eq_true rfl) ?_
  refine g_brn 13 (.ifCond .ne 5) ((F_M_in a1 (0 : Int32) (255 : Int32)) = 0) [] (by decide +kernel) rfl (fun c1 => ?_) (fun c1 => ?_)
  · have hs := g_sat_f hs c1
    refine g_blk 19 [(.aload_n 0, 0, 0, 0, 0), (.getfield 89, 7, 6, 0, 0), (.bipush 120, 0, 0, 120, 0)] [] [(0, .ref 0), (1, .int a1)] [.int (120 : Int32), .int f_letters] (HM f_undone f_letters f_showing f_spot f_tokenAt f_value f_laters f_places f_guesses f_ways f_now f_past f_images f_isKept f_text f_shown f_read f_letter f_sizes f_laterNumber f_many f_labelAt f_soAt f_meets f_wayFrom f_wayTo f_wayBy f_reach f_goesOn f_far f_round f_line f_guessAt) (by decide +kernel) rfl g_nil ?_
    refine g_brn 25 (.if_icmp .ne 6) (f_letters = (120 : Int32)) [] (by decide +kernel) rfl (fun c2 => ?_) (fun c2 => ?_)
    · have hs := g_sat_f hs c2
      obtain ⟨h3, hs⟩ := g_sat_c hs
      refine g_blk 49 [(.aload_n 0, 0, 0, 0, 0), (.getfield 23, 7, 5, 0, 0), (.aload_n 0, 0, 0, 0, 0), (.getfield 89, 7, 6, 0, 0), (.iload_n 1, 0, 0, 0, 0), (.iastore, 0, 0, 0, 0), (.aload_n 0, 0, 0, 0, 0), (.dup, 0, 0, 0, 0), (.getfield 89, 7, 6, 0, 0), (.iconst 1, 0, 0, 1, 0), (.iadd, 0, 0, 0, 0), (.putfield 89, 7, 6, 1, 0), (.aload_n 0, 0, 0, 0, 0), (.getfield 89, 7, 6, 0, 0)] [vp_in f_letters 120] [(0, .ref 0), (1, .int a1)] [.int (f_letters + (1 : Int32))] (HM f_undone (f_letters + (1 : Int32)) f_showing f_spot f_tokenAt f_value f_laters f_places f_guesses f_ways f_now f_past f_images f_isKept (upd f_text f_letters.toNatClampNeg a1) f_shown f_read f_letter f_sizes f_laterNumber f_many f_labelAt f_soAt f_meets f_wayFrom f_wayTo f_wayBy f_reach f_goesOn f_far f_round f_line f_guessAt) (by decide +kernel) rfl (g_and (g_inb_in h3) g_nil) ?_
      have hq := g_sat_s hs
      exact g_iret hX (by decide +kernel) rfl hq
    · have hs := g_sat_t hs c2
      refine g_blk 24 [(.bipush (-3), 0, 0, (-3), 0)] [] [(0, .ref 0), (1, .int a1)] [.int (-3 : Int32)] (HM f_undone f_letters f_showing f_spot f_tokenAt f_value f_laters f_places f_guesses f_ways f_now f_past f_images f_isKept f_text f_shown f_read f_letter f_sizes f_laterNumber f_many f_labelAt f_soAt f_meets f_wayFrom f_wayTo f_wayBy f_reach f_goesOn f_far f_round f_line f_guessAt) (by decide +kernel) rfl g_nil ?_
      have hq := g_sat_s hs
      exact g_iret hX (by decide +kernel) rfl hq
  · have hs := g_sat_t hs c1
    refine g_blk 12 [(.iconst (-1), 0, 0, (-1), 0)] [] [(0, .ref 0), (1, .int a1)] [.int (-1 : Int32)] (HM f_undone f_letters f_showing f_spot f_tokenAt f_value f_laters f_places f_guesses f_ways f_now f_past f_images f_isKept f_text f_shown f_read f_letter f_sizes f_laterNumber f_many f_labelAt f_soAt f_meets f_wayFrom f_wayTo f_wayBy f_reach f_goesOn f_far f_round f_line f_guessAt) (by decide +kernel) rfl g_nil ?_
    have hq := g_sat_s hs
    exact g_iret hX (by decide +kernel) rfl hq
abbrev rm_M_clear : Room := { frames := 0, cells := 0, slots := 0, locals := 0 }
def F_M_clear (f_letters : Int32) : Option (Int32 × Int32) := (some (f_letters, (0 : Int32)))
set_option maxRecDepth 100000 in
theorem ct_M_clear (f_undone : Int32) (f_letters : Int32) (f_showing : Int32) (f_spot : Int32) (f_tokenAt : Int32) (f_value : Int32) (f_laters : Int32) (f_places : Int32) (f_guesses : Int32) (f_ways : Int32) (f_now : Nat → Int32) (f_past : Nat → Int32) (f_images : Nat → Int32) (f_isKept : Nat → Int32) (f_text : Nat → Int32) (f_shown : Nat → Int32) (f_read : Nat → Int32) (f_letter : Nat → Int32) (f_sizes : Nat → Int32) (f_laterNumber : Nat → Int32) (f_many : Nat → Int32) (f_labelAt : Nat → Int32) (f_soAt : Nat → Int32) (f_meets : Nat → Int32) (f_wayFrom : Nat → Int32) (f_wayTo : Nat → Int32) (f_wayBy : Nat → Int32) (f_reach : Nat → Int64) (f_goesOn : Nat → Int32) (f_far : Nat → Int32) (f_round : Nat → Int32) (f_line : Nat → Int32) (f_guessAt : Nat → Int32) : g_F y_M_clear c_M_clear 2 (some .int) rm_M_clear [.ref 0] (HM f_undone f_letters f_showing f_spot f_tokenAt f_value f_laters f_places f_guesses f_ways f_now f_past f_images f_isKept f_text f_shown f_read f_letter f_sizes f_laterNumber f_many f_labelAt f_soAt f_meets f_wayFrom f_wayTo f_wayBy f_reach f_goesOn f_far f_round f_line f_guessAt) (F_M_clear f_letters) (fun o => some (.int o.1)) (fun o => (HM f_undone o.2 f_showing f_spot f_tokenAt f_value f_laters f_places f_guesses f_ways f_now f_past f_images f_isKept f_text f_shown f_read f_letter f_sizes f_laterNumber f_many f_labelAt f_soAt f_meets f_wayFrom f_wayTo f_wayBy f_reach f_goesOn f_far f_round f_line f_guessAt)) := by
  intro l P hs
  refine g_ofG 7 (by decide +kernel) rfl (Nat.le_of_ble_eq_true rfl) (fun X hX => ?_)
  unfold F_M_clear at hs
  refine g_loc (L2 := [(0, .ref 0)]) [0] rfl ?_
  refine g_blk 11 [(.aload_n 0, 0, 0, 0, 0), (.getfield 89, 7, 6, 0, 0), (.istore_n 1, 0, 0, 0, 0), (.aload_n 0, 0, 0, 0, 0), (.iconst 0, 0, 0, 0, 0), (.putfield 89, 7, 6, 1, 0), (.iload_n 1, 0, 0, 0, 0)] [] [(1, .int f_letters), (0, .ref 0)] [.int f_letters] (HM f_undone (0 : Int32) f_showing f_spot f_tokenAt f_value f_laters f_places f_guesses f_ways f_now f_past f_images f_isKept f_text f_shown f_read f_letter f_sizes f_laterNumber f_many f_labelAt f_soAt f_meets f_wayFrom f_wayTo f_wayBy f_reach f_goesOn f_far f_round f_line f_guessAt) (by decide +kernel) rfl g_nil ?_
  have hq := g_sat_s hs
  exact g_iret hX (by decide +kernel) rfl hq
abbrev rm_M_blanks : Room := { frames := 0, cells := 0, slots := 0, locals := 0 }
def M_blanks_l1 (f_letters : Int32) (f_text : Nat → Int32) : Nat → Int32 → Option Int32
  | 0, _ => none
  | n + 1, w_spot_1 => (if f_letters ≤ w_spot_1 then (some w_spot_1) else (g_chk (g_inb w_spot_1 120) (if (f_text w_spot_1.toNatClampNeg) = (32 : Int32) then (M_blanks_l1 f_letters f_text n (w_spot_1 + (1 : Int32))) else (some w_spot_1))))
theorem M_blanks_l1_s (f_letters : Int32) (f_text : Nat → Int32) (n : Nat) (w_spot_1 : Int32) : M_blanks_l1 f_letters f_text (n + 1) w_spot_1 = (if f_letters ≤ w_spot_1 then (some w_spot_1) else (g_chk (g_inb w_spot_1 120) (if (f_text w_spot_1.toNatClampNeg) = (32 : Int32) then (M_blanks_l1 f_letters f_text n (w_spot_1 + (1 : Int32))) else (some w_spot_1)))) := rfl
def F_M_blanks (N : Nat) (f_letters : Int32) (f_spot : Int32) (f_text : Nat → Int32) : Option (Int32 × Int32) := ((M_blanks_l1 f_letters f_text N f_spot).bind fun o2 => (some (o2, o2)))
set_option maxRecDepth 100000 in
theorem ct_M_blanks (N : Nat) (f_undone : Int32) (f_letters : Int32) (f_showing : Int32) (f_spot : Int32) (f_tokenAt : Int32) (f_value : Int32) (f_laters : Int32) (f_places : Int32) (f_guesses : Int32) (f_ways : Int32) (f_now : Nat → Int32) (f_past : Nat → Int32) (f_images : Nat → Int32) (f_isKept : Nat → Int32) (f_text : Nat → Int32) (f_shown : Nat → Int32) (f_read : Nat → Int32) (f_letter : Nat → Int32) (f_sizes : Nat → Int32) (f_laterNumber : Nat → Int32) (f_many : Nat → Int32) (f_labelAt : Nat → Int32) (f_soAt : Nat → Int32) (f_meets : Nat → Int32) (f_wayFrom : Nat → Int32) (f_wayTo : Nat → Int32) (f_wayBy : Nat → Int32) (f_reach : Nat → Int64) (f_goesOn : Nat → Int32) (f_far : Nat → Int32) (f_round : Nat → Int32) (f_line : Nat → Int32) (f_guessAt : Nat → Int32) : g_F y_M_blanks c_M_blanks 1 none rm_M_blanks [.ref 0] (HM f_undone f_letters f_showing f_spot f_tokenAt f_value f_laters f_places f_guesses f_ways f_now f_past f_images f_isKept f_text f_shown f_read f_letter f_sizes f_laterNumber f_many f_labelAt f_soAt f_meets f_wayFrom f_wayTo f_wayBy f_reach f_goesOn f_far f_round f_line f_guessAt) (F_M_blanks N f_letters f_spot f_text) (fun o => none) (fun o => (HM f_undone f_letters f_showing o.1 o.2 f_value f_laters f_places f_guesses f_ways f_now f_past f_images f_isKept f_text f_shown f_read f_letter f_sizes f_laterNumber f_many f_labelAt f_soAt f_meets f_wayFrom f_wayTo f_wayBy f_reach f_goesOn f_far f_round f_line f_guessAt)) := by
  intro l P hs
  refine g_ofG 7 (by decide +kernel) rfl (Nat.le_of_ble_eq_true rfl) (fun X hX => ?_)
  unfold F_M_blanks at hs
  refine g_loc (L2 := [(0, .ref 0)]) [0] rfl ?_
  refine g_join (fun (o2 : Int32) => g_G X rm_M_blanks c_M_blanks 1 7 none 38 [(0, .ref 0)] [] (HM f_undone f_letters f_showing o2 f_tokenAt f_value f_laters f_places f_guesses f_ways f_now f_past f_images f_isKept f_text f_shown f_read f_letter f_sizes f_laterNumber f_many f_labelAt f_soAt f_meets f_wayFrom f_wayTo f_wayBy f_reach f_goesOn f_far f_round f_line f_guessAt)) hs (fun o2 hs => ?_) (fun hs => ?_)
  · refine g_blk 46 [(.aload_n 0, 0, 0, 0, 0), (.aload_n 0, 0, 0, 0, 0), (.getfield 92, 7, 10, 0, 0), (.putfield 95, 7, 11, 1, 0)] [] [(0, .ref 0)] [] (HM f_undone f_letters f_showing o2 o2 f_value f_laters f_places f_guesses f_ways f_now f_past f_images f_isKept f_text f_shown f_read f_letter f_sizes f_laterNumber f_many f_labelAt f_soAt f_meets f_wayFrom f_wayTo f_wayBy f_reach f_goesOn f_far f_round f_line f_guessAt) (by decide +kernel) rfl g_nil ?_
    have hq := g_sat_s hs
    exact g_vret hX (by decide +kernel) rfl hq
  · have hlM_blanks_l1 : ∀ (n : Nat) (w_spot_1 : Int32), g_sat (M_blanks_l1 f_letters f_text n w_spot_1) (fun (o2 : Int32) => g_G X rm_M_blanks c_M_blanks 1 7 none 38 [(0, .ref 0)] [] (HM f_undone f_letters f_showing o2 f_tokenAt f_value f_laters f_places f_guesses f_ways f_now f_past f_images f_isKept f_text f_shown f_read f_letter f_sizes f_laterNumber f_many f_labelAt f_soAt f_meets f_wayFrom f_wayTo f_wayBy f_reach f_goesOn f_far f_round f_line f_guessAt)) → g_G X rm_M_blanks c_M_blanks 1 7 none 0 [(0, .ref 0)] [] (HM f_undone f_letters f_showing w_spot_1 f_tokenAt f_value f_laters f_places f_guesses f_ways f_now f_past f_images f_isKept f_text f_shown f_read f_letter f_sizes f_laterNumber f_many f_labelAt f_soAt f_meets f_wayFrom f_wayTo f_wayBy f_reach f_goesOn f_far f_round f_line f_guessAt) := by
      intro n
      induction n with
      | zero =>
        intro w_spot_1 hs
        obtain ⟨_, h0, _⟩ := hs
        cases h0
      | succ n ih =>
        intro w_spot_1 hs
        rw [M_blanks_l1_s] at hs
        refine g_blk 8 [(.aload_n 0, 0, 0, 0, 0), (.getfield 92, 7, 10, 0, 0), (.aload_n 0, 0, 0, 0, 0), (.getfield 89, 7, 6, 0, 0)] [] [(0, .ref 0)] [.int f_letters, .int w_spot_1] (HM f_undone f_letters f_showing w_spot_1 f_tokenAt f_value f_laters f_places f_guesses f_ways f_now f_past f_images f_isKept f_text f_shown f_read f_letter f_sizes f_laterNumber f_many f_labelAt f_soAt f_meets f_wayFrom f_wayTo f_wayBy f_reach f_goesOn f_far f_round f_line f_guessAt) (by decide +kernel) rfl g_nil ?_
        refine g_br 38 (.if_icmp .ge 30) (f_letters ≤ w_spot_1) [] (by decide +kernel) rfl (fun c3 => ?_) (fun c3 => ?_)
        · have hs := g_sat_t hs c3
          have hq := g_sat_s hs
          exact hq
        · have hs := g_sat_f hs c3
          obtain ⟨h4, hs⟩ := g_sat_c hs
          refine g_blk 22 [(.aload_n 0, 0, 0, 0, 0), (.getfield 23, 7, 5, 0, 0), (.aload_n 0, 0, 0, 0, 0), (.getfield 92, 7, 10, 0, 0), (.iaload, 0, 0, 0, 0), (.bipush 32, 0, 0, 32, 0)] [vp_in w_spot_1 120] [(0, .ref 0)] [.int (32 : Int32), .int (f_text w_spot_1.toNatClampNeg)] (HM f_undone f_letters f_showing w_spot_1 f_tokenAt f_value f_laters f_places f_guesses f_ways f_now f_past f_images f_isKept f_text f_shown f_read f_letter f_sizes f_laterNumber f_many f_labelAt f_soAt f_meets f_wayFrom f_wayTo f_wayBy f_reach f_goesOn f_far f_round f_line f_guessAt) (by decide +kernel) rfl (g_and (g_inb_in h4) g_nil) ?_
          refine g_brn 38 (.if_icmp .ne 16) ((f_text w_spot_1.toNatClampNeg) = (32 : Int32)) [] (by decide +kernel) rfl (fun c5 => ?_) (fun c5 => ?_)
          · have hs := g_sat_f hs c5
            have hq := g_sat_s hs
            exact hq
          · have hs := g_sat_t hs c5
            refine g_blk 0 [(.aload_n 0, 0, 0, 0, 0), (.dup, 0, 0, 0, 0), (.getfield 92, 7, 10, 0, 0), (.iconst 1, 0, 0, 1, 0), (.iadd, 0, 0, 0, 0), (.putfield 92, 7, 10, 1, 0), (.goto (-35), 0, 0, 0, 0)] [] [(0, .ref 0)] [] (HM f_undone f_letters f_showing (w_spot_1 + (1 : Int32)) f_tokenAt f_value f_laters f_places f_guesses f_ways f_now f_past f_images f_isKept f_text f_shown f_read f_letter f_sizes f_laterNumber f_many f_labelAt f_soAt f_meets f_wayFrom f_wayTo f_wayBy f_reach f_goesOn f_far f_round f_line f_guessAt) (by decide +kernel) rfl g_nil ?_
            exact ih _ hs
    exact hlM_blanks_l1 N _ hs
abbrev rm_M_isAt : Room := { frames := 0, cells := 0, slots := 0, locals := 0 }
def F_M_isAt (f_letters : Int32) (f_spot : Int32) (f_text : Nat → Int32) (a1 : Int32) : Option Int32 := ((if f_letters ≤ f_spot then (some (0 : Int32)) else (g_chk (g_inb f_spot 120) (if (f_text f_spot.toNatClampNeg) = a1 then (some (1 : Int32)) else (some (0 : Int32))))).bind fun o3 => (g_chk (g_isb o3) (some o3)))
set_option maxRecDepth 100000 in
theorem ct_M_isAt (f_undone : Int32) (f_letters : Int32) (f_showing : Int32) (f_spot : Int32) (f_tokenAt : Int32) (f_value : Int32) (f_laters : Int32) (f_places : Int32) (f_guesses : Int32) (f_ways : Int32) (f_now : Nat → Int32) (f_past : Nat → Int32) (f_images : Nat → Int32) (f_isKept : Nat → Int32) (f_text : Nat → Int32) (f_shown : Nat → Int32) (f_read : Nat → Int32) (f_letter : Nat → Int32) (f_sizes : Nat → Int32) (f_laterNumber : Nat → Int32) (f_many : Nat → Int32) (f_labelAt : Nat → Int32) (f_soAt : Nat → Int32) (f_meets : Nat → Int32) (f_wayFrom : Nat → Int32) (f_wayTo : Nat → Int32) (f_wayBy : Nat → Int32) (f_reach : Nat → Int64) (f_goesOn : Nat → Int32) (f_far : Nat → Int32) (f_round : Nat → Int32) (f_line : Nat → Int32) (f_guessAt : Nat → Int32) (a1 : Int32) : g_F y_M_isAt c_M_isAt 2 (some .boolean) rm_M_isAt [.ref 0, .int a1] (HM f_undone f_letters f_showing f_spot f_tokenAt f_value f_laters f_places f_guesses f_ways f_now f_past f_images f_isKept f_text f_shown f_read f_letter f_sizes f_laterNumber f_many f_labelAt f_soAt f_meets f_wayFrom f_wayTo f_wayBy f_reach f_goesOn f_far f_round f_line f_guessAt) (F_M_isAt f_letters f_spot f_text a1) (fun o => some (.int o)) (fun _ => (HM f_undone f_letters f_showing f_spot f_tokenAt f_value f_laters f_places f_guesses f_ways f_now f_past f_images f_isKept f_text f_shown f_read f_letter f_sizes f_laterNumber f_many f_labelAt f_soAt f_meets f_wayFrom f_wayTo f_wayBy f_reach f_goesOn f_far f_round f_line f_guessAt)) := by
  intro l P hs
  refine g_ofG 7 (by decide +kernel) rfl (Nat.le_of_ble_eq_true rfl) (fun X hX => ?_)
  unfold F_M_isAt at hs
  refine g_loc (L2 := [(0, .ref 0), (1, .int a1)]) [0, 1] rfl ?_
  refine g_blk 8 [(.aload_n 0, 0, 0, 0, 0), (.getfield 92, 7, 10, 0, 0), (.aload_n 0, 0, 0, 0, 0), (.getfield 89, 7, 6, 0, 0)] [] [(0, .ref 0), (1, .int a1)] [.int f_letters, .int f_spot] (HM f_undone f_letters f_showing f_spot f_tokenAt f_value f_laters f_places f_guesses f_ways f_now f_past f_images f_isKept f_text f_shown f_read f_letter f_sizes f_laterNumber f_many f_labelAt f_soAt f_meets f_wayFrom f_wayTo f_wayBy f_reach f_goesOn f_far f_round f_line f_guessAt) (by decide +kernel) rfl g_nil ?_
  refine g_join (fun (o3 : Int32) => g_G X rm_M_isAt c_M_isAt 2 7 (some .boolean) 29 [] [.int o3] (HM f_undone f_letters f_showing f_spot f_tokenAt f_value f_laters f_places f_guesses f_ways f_now f_past f_images f_isKept f_text f_shown f_read f_letter f_sizes f_laterNumber f_many f_labelAt f_soAt f_meets f_wayFrom f_wayTo f_wayBy f_reach f_goesOn f_far f_round f_line f_guessAt)) hs (fun o3 hs => ?_) (fun hs => ?_)
  · obtain ⟨h6, hs⟩ := g_sat_c hs
    have hq := g_sat_s hs
    exact g_zret hX (by decide +kernel) rfl (g_isb_of h6) hq
  · refine g_br 28 (.if_icmp .ge 20) (f_letters ≤ f_spot) [] (by decide +kernel) rfl (fun c1 => ?_) (fun c1 => ?_)
    · have hs := g_sat_t hs c1
      refine g_blk 29 [(.iconst 0, 0, 0, 0, 0)] [] [(0, .ref 0), (1, .int a1)] [.int (0 : Int32)] (HM f_undone f_letters f_showing f_spot f_tokenAt f_value f_laters f_places f_guesses f_ways f_now f_past f_images f_isKept f_text f_shown f_read f_letter f_sizes f_laterNumber f_many f_labelAt f_soAt f_meets f_wayFrom f_wayTo f_wayBy f_reach f_goesOn f_far f_round f_line f_guessAt) (by decide +kernel) rfl g_nil ?_
      refine g_loc (L2 := []) [] rfl ?_
      have hq := g_sat_s hs
      exact hq
    · have hs := g_sat_f hs c1
      obtain ⟨h4, hs⟩ := g_sat_c hs
      refine g_blk 21 [(.aload_n 0, 0, 0, 0, 0), (.getfield 23, 7, 5, 0, 0), (.aload_n 0, 0, 0, 0, 0), (.getfield 92, 7, 10, 0, 0), (.iaload, 0, 0, 0, 0), (.iload_n 1, 0, 0, 0, 0)] [vp_in f_spot 120] [(0, .ref 0), (1, .int a1)] [.int a1, .int (f_text f_spot.toNatClampNeg)] (HM f_undone f_letters f_showing f_spot f_tokenAt f_value f_laters f_places f_guesses f_ways f_now f_past f_images f_isKept f_text f_shown f_read f_letter f_sizes f_laterNumber f_many f_labelAt f_soAt f_meets f_wayFrom f_wayTo f_wayBy f_reach f_goesOn f_far f_round f_line f_guessAt) (by decide +kernel) rfl (g_and (g_inb_in h4) g_nil) ?_
      refine g_brn 28 (.if_icmp .ne 7) ((f_text f_spot.toNatClampNeg) = a1) [] (by decide +kernel) rfl (fun c5 => ?_) (fun c5 => ?_)
      · have hs := g_sat_f hs c5
        refine g_blk 29 [(.iconst 0, 0, 0, 0, 0)] [] [(0, .ref 0), (1, .int a1)] [.int (0 : Int32)] (HM f_undone f_letters f_showing f_spot f_tokenAt f_value f_laters f_places f_guesses f_ways f_now f_past f_images f_isKept f_text f_shown f_read f_letter f_sizes f_laterNumber f_many f_labelAt f_soAt f_meets f_wayFrom f_wayTo f_wayBy f_reach f_goesOn f_far f_round f_line f_guessAt) (by decide +kernel) rfl g_nil ?_
        refine g_loc (L2 := []) [] rfl ?_
        have hq := g_sat_s hs
        exact hq
      · have hs := g_sat_t hs c5
        refine g_blk 29 [(.iconst 1, 0, 0, 1, 0), (.goto 4, 0, 0, 0, 0)] [] [(0, .ref 0), (1, .int a1)] [.int (1 : Int32)] (HM f_undone f_letters f_showing f_spot f_tokenAt f_value f_laters f_places f_guesses f_ways f_now f_past f_images f_isKept f_text f_shown f_read f_letter f_sizes f_laterNumber f_many f_labelAt f_soAt f_meets f_wayFrom f_wayTo f_wayBy f_reach f_goesOn f_far f_round f_line f_guessAt) (by decide +kernel) rfl g_nil ?_
        refine g_loc (L2 := []) [] rfl ?_
        have hq := g_sat_s hs
        exact hq
abbrev rm_M_isFigure : Room := { frames := 1, cells := 0, slots := 0, locals := 22 }
def F_M_isFigure (f_letters : Int32) (f_spot : Int32) (f_text : Nat → Int32) : Option Int32 := ((if f_letters ≤ f_spot then (some (0 : Int32)) else (g_chk (g_inb f_spot 120) (if (F_M_in (f_text f_spot.toNatClampNeg) (48 : Int32) (57 : Int32)) = 0 then (some (0 : Int32)) else (some (1 : Int32))))).bind fun o3 => (g_chk (g_isb o3) (some o3)))
set_option maxRecDepth 100000 in
theorem ct_M_isFigure (f_undone : Int32) (f_letters : Int32) (f_showing : Int32) (f_spot : Int32) (f_tokenAt : Int32) (f_value : Int32) (f_laters : Int32) (f_places : Int32) (f_guesses : Int32) (f_ways : Int32) (f_now : Nat → Int32) (f_past : Nat → Int32) (f_images : Nat → Int32) (f_isKept : Nat → Int32) (f_text : Nat → Int32) (f_shown : Nat → Int32) (f_read : Nat → Int32) (f_letter : Nat → Int32) (f_sizes : Nat → Int32) (f_laterNumber : Nat → Int32) (f_many : Nat → Int32) (f_labelAt : Nat → Int32) (f_soAt : Nat → Int32) (f_meets : Nat → Int32) (f_wayFrom : Nat → Int32) (f_wayTo : Nat → Int32) (f_wayBy : Nat → Int32) (f_reach : Nat → Int64) (f_goesOn : Nat → Int32) (f_far : Nat → Int32) (f_round : Nat → Int32) (f_line : Nat → Int32) (f_guessAt : Nat → Int32) : g_F y_M_isFigure c_M_isFigure 1 (some .boolean) rm_M_isFigure [.ref 0] (HM f_undone f_letters f_showing f_spot f_tokenAt f_value f_laters f_places f_guesses f_ways f_now f_past f_images f_isKept f_text f_shown f_read f_letter f_sizes f_laterNumber f_many f_labelAt f_soAt f_meets f_wayFrom f_wayTo f_wayBy f_reach f_goesOn f_far f_round f_line f_guessAt) (F_M_isFigure f_letters f_spot f_text) (fun o => some (.int o)) (fun _ => (HM f_undone f_letters f_showing f_spot f_tokenAt f_value f_laters f_places f_guesses f_ways f_now f_past f_images f_isKept f_text f_shown f_read f_letter f_sizes f_laterNumber f_many f_labelAt f_soAt f_meets f_wayFrom f_wayTo f_wayBy f_reach f_goesOn f_far f_round f_line f_guessAt)) := by
  intro l P hs
  refine g_ofG 7 (by decide +kernel) rfl (Nat.le_of_ble_eq_true rfl) (fun X hX => ?_)
  unfold F_M_isFigure at hs
  refine g_loc (L2 := [(0, .ref 0)]) [0] rfl ?_
  refine g_blk 8 [(.aload_n 0, 0, 0, 0, 0), (.getfield 92, 7, 10, 0, 0), (.aload_n 0, 0, 0, 0, 0), (.getfield 89, 7, 6, 0, 0)] [] [(0, .ref 0)] [.int f_letters, .int f_spot] (HM f_undone f_letters f_showing f_spot f_tokenAt f_value f_laters f_places f_guesses f_ways f_now f_past f_images f_isKept f_text f_shown f_read f_letter f_sizes f_laterNumber f_many f_labelAt f_soAt f_meets f_wayFrom f_wayTo f_wayBy f_reach f_goesOn f_far f_round f_line f_guessAt) (by decide +kernel) rfl g_nil ?_
  refine g_join (fun (o3 : Int32) => g_G X rm_M_isFigure c_M_isFigure 1 7 (some .boolean) 35 [] [.int o3] (HM f_undone f_letters f_showing f_spot f_tokenAt f_value f_laters f_places f_guesses f_ways f_now f_past f_images f_isKept f_text f_shown f_read f_letter f_sizes f_laterNumber f_many f_labelAt f_soAt f_meets f_wayFrom f_wayTo f_wayBy f_reach f_goesOn f_far f_round f_line f_guessAt)) hs (fun o3 hs => ?_) (fun hs => ?_)
  · obtain ⟨h6, hs⟩ := g_sat_c hs
    have hq := g_sat_s hs
    exact g_zret hX (by decide +kernel) rfl (g_isb_of h6) hq
  · refine g_br 34 (.if_icmp .ge 26) (f_letters ≤ f_spot) [] (by decide +kernel) rfl (fun c1 => ?_) (fun c1 => ?_)
    · have hs := g_sat_t hs c1
      refine g_blk 35 [(.iconst 0, 0, 0, 0, 0)] [] [(0, .ref 0)] [.int (0 : Int32)] (HM f_undone f_letters f_showing f_spot f_tokenAt f_value f_laters f_places f_guesses f_ways f_now f_past f_images f_isKept f_text f_shown f_read f_letter f_sizes f_laterNumber f_many f_labelAt f_soAt f_meets f_wayFrom f_wayTo f_wayBy f_reach f_goesOn f_far f_round f_line f_guessAt) (by decide +kernel) rfl g_nil ?_
      refine g_loc (L2 := []) [] rfl ?_
      have hq := g_sat_s hs
      exact hq
    · have hs := g_sat_f hs c1
      obtain ⟨h4, hs⟩ := g_sat_c hs
      refine g_blk 24 [(.aload_n 0, 0, 0, 0, 0), (.getfield 23, 7, 5, 0, 0), (.aload_n 0, 0, 0, 0, 0), (.getfield 92, 7, 10, 0, 0), (.iaload, 0, 0, 0, 0), (.bipush 48, 0, 0, 48, 0), (.bipush 57, 0, 0, 57, 0)] [vp_in f_spot 120] [(0, .ref 0)] [.int (57 : Int32), .int (48 : Int32), .int (f_text f_spot.toNatClampNeg)] (HM f_undone f_letters f_showing f_spot f_tokenAt f_value f_laters f_places f_guesses f_ways f_now f_past f_images f_isKept f_text f_shown f_read f_letter f_sizes f_laterNumber f_many f_labelAt f_soAt f_meets f_wayFrom f_wayTo f_wayBy f_reach f_goesOn f_far f_round f_line f_guessAt) (by decide +kernel) rfl (g_and (g_inb_in h4) g_nil) ?_
      refine g_pN (ct_M_in (f_text f_spot.toNatClampNeg) (48 : Int32) (57 : Int32)) 85 3 lk_7_85 (by decide +kernel) rfl ⟨rfl, rfl, by decide, by decide⟩ [] rfl (Nat.le_of_ble_eq_true rfl) ?_
      refine g_br 34 (.ifCond .eq 7) ((F_M_in (f_text f_spot.toNatClampNeg) (48 : Int32) (57 : Int32)) = 0) [] (by decide +kernel) rfl (fun c5 => ?_) (fun c5 => ?_)
      · have hs := g_sat_t hs c5
        refine g_blk 35 [(.iconst 0, 0, 0, 0, 0)] [] [(0, .ref 0)] [.int (0 : Int32)] (HM f_undone f_letters f_showing f_spot f_tokenAt f_value f_laters f_places f_guesses f_ways f_now f_past f_images f_isKept f_text f_shown f_read f_letter f_sizes f_laterNumber f_many f_labelAt f_soAt f_meets f_wayFrom f_wayTo f_wayBy f_reach f_goesOn f_far f_round f_line f_guessAt) (by decide +kernel) rfl g_nil ?_
        refine g_loc (L2 := []) [] rfl ?_
        have hq := g_sat_s hs
        exact hq
      · have hs := g_sat_f hs c5
        refine g_blk 35 [(.iconst 1, 0, 0, 1, 0), (.goto 4, 0, 0, 0, 0)] [] [(0, .ref 0)] [.int (1 : Int32)] (HM f_undone f_letters f_showing f_spot f_tokenAt f_value f_laters f_places f_guesses f_ways f_now f_past f_images f_isKept f_text f_shown f_read f_letter f_sizes f_laterNumber f_many f_labelAt f_soAt f_meets f_wayFrom f_wayTo f_wayBy f_reach f_goesOn f_far f_round f_line f_guessAt) (by decide +kernel) rfl g_nil ?_
        refine g_loc (L2 := []) [] rfl ?_
        have hq := g_sat_s hs
        exact hq
abbrev rm_M_takesSign : Room := { frames := 1, cells := 0, slots := 0, locals := 21 }
def F_M_takesSign (N : Nat) (f_letters : Int32) (f_spot : Int32) (f_text : Nat → Int32) (a1 : Int32) : Option (Int32 × Int32 × Int32) := ((F_M_blanks N f_letters f_spot f_text).bind fun o1 => ((F_M_isAt f_letters o1.1 f_text a1).bind fun o2 => (g_chk (g_isb o2) (some (o2, (o1.1 + (if o2 = 0 then (0 : Int32) else (1 : Int32))), o1.2)))))
set_option maxRecDepth 100000 in
theorem ct_M_takesSign (N : Nat) (f_undone : Int32) (f_letters : Int32) (f_showing : Int32) (f_spot : Int32) (f_tokenAt : Int32) (f_value : Int32) (f_laters : Int32) (f_places : Int32) (f_guesses : Int32) (f_ways : Int32) (f_now : Nat → Int32) (f_past : Nat → Int32) (f_images : Nat → Int32) (f_isKept : Nat → Int32) (f_text : Nat → Int32) (f_shown : Nat → Int32) (f_read : Nat → Int32) (f_letter : Nat → Int32) (f_sizes : Nat → Int32) (f_laterNumber : Nat → Int32) (f_many : Nat → Int32) (f_labelAt : Nat → Int32) (f_soAt : Nat → Int32) (f_meets : Nat → Int32) (f_wayFrom : Nat → Int32) (f_wayTo : Nat → Int32) (f_wayBy : Nat → Int32) (f_reach : Nat → Int64) (f_goesOn : Nat → Int32) (f_far : Nat → Int32) (f_round : Nat → Int32) (f_line : Nat → Int32) (f_guessAt : Nat → Int32) (a1 : Int32) : g_F y_M_takesSign c_M_takesSign 3 (some .boolean) rm_M_takesSign [.ref 0, .int a1] (HM f_undone f_letters f_showing f_spot f_tokenAt f_value f_laters f_places f_guesses f_ways f_now f_past f_images f_isKept f_text f_shown f_read f_letter f_sizes f_laterNumber f_many f_labelAt f_soAt f_meets f_wayFrom f_wayTo f_wayBy f_reach f_goesOn f_far f_round f_line f_guessAt) (F_M_takesSign N f_letters f_spot f_text a1) (fun o => some (.int o.1)) (fun o => (HM f_undone f_letters f_showing o.2.1 o.2.2 f_value f_laters f_places f_guesses f_ways f_now f_past f_images f_isKept f_text f_shown f_read f_letter f_sizes f_laterNumber f_many f_labelAt f_soAt f_meets f_wayFrom f_wayTo f_wayBy f_reach f_goesOn f_far f_round f_line f_guessAt)) := by
  intro l P hs
  refine g_ofG 7 (by decide +kernel) rfl (Nat.le_of_ble_eq_true rfl) (fun X hX => ?_)
  unfold F_M_takesSign at hs
  refine g_loc (L2 := [(0, .ref 0), (1, .int a1)]) [0, 1] rfl ?_
  refine g_blk 1 [(.aload_n 0, 0, 0, 0, 0)] [] [(0, .ref 0), (1, .int a1)] [.ref 0] (HM f_undone f_letters f_showing f_spot f_tokenAt f_value f_laters f_places f_guesses f_ways f_now f_past f_images f_isKept f_text f_shown f_read f_letter f_sizes f_laterNumber f_many f_labelAt f_soAt f_meets f_wayFrom f_wayTo f_wayBy f_reach f_goesOn f_far f_round f_line f_guessAt) (by decide +kernel) rfl g_nil ?_
  refine g_fM (ct_M_blanks N f_undone f_letters f_showing f_spot f_tokenAt f_value f_laters f_places f_guesses f_ways f_now f_past f_images f_isKept f_text f_shown f_read f_letter f_sizes f_laterNumber f_many f_labelAt f_soAt f_meets f_wayFrom f_wayTo f_wayBy f_reach f_goesOn f_far f_round f_line f_guessAt) 98 true 0 lk_7_98 (by decide +kernel) rfl ⟨rfl, rfl, by decide, by decide⟩ [] rfl (Nat.le_of_ble_eq_true rfl) (fun _ => ⟨0, 7, _, rfl, rfl, by decide, rfl⟩) hs (fun o1 hs => ?_)
  refine g_blk 6 [(.aload_n 0, 0, 0, 0, 0), (.iload_n 1, 0, 0, 0, 0)] [] [(0, .ref 0), (1, .int a1)] [.int a1, .ref 0] (HM f_undone f_letters f_showing o1.1 o1.2 f_value f_laters f_places f_guesses f_ways f_now f_past f_images f_isKept f_text f_shown f_read f_letter f_sizes f_laterNumber f_many f_labelAt f_soAt f_meets f_wayFrom f_wayTo f_wayBy f_reach f_goesOn f_far f_round f_line f_guessAt) (by decide +kernel) rfl g_nil ?_
  refine g_fM (ct_M_isAt f_undone f_letters f_showing o1.1 o1.2 f_value f_laters f_places f_guesses f_ways f_now f_past f_images f_isKept f_text f_shown f_read f_letter f_sizes f_laterNumber f_many f_labelAt f_soAt f_meets f_wayFrom f_wayTo f_wayBy f_reach f_goesOn f_far f_round f_line f_guessAt a1) 101 true 1 lk_7_101 (by decide +kernel) rfl ⟨rfl, rfl, by decide, by decide⟩ [] rfl (Nat.le_of_ble_eq_true rfl) (fun _ => ⟨0, 7, _, rfl, rfl, by decide, rfl⟩) hs (fun o2 hs => ?_)
  refine g_blk 16 [(.istore_n 2, 0, 0, 0, 0), (.aload_n 0, 0, 0, 0, 0), (.dup, 0, 0, 0, 0), (.getfield 92, 7, 10, 0, 0), (.iload_n 2, 0, 0, 0, 0)] [] [(2, .int o2), (0, .ref 0), (1, .int a1)] [.int o2, .int o1.1, .ref 0] (HM f_undone f_letters f_showing o1.1 o1.2 f_value f_laters f_places f_guesses f_ways f_now f_past f_images f_isKept f_text f_shown f_read f_letter f_sizes f_laterNumber f_many f_labelAt f_soAt f_meets f_wayFrom f_wayTo f_wayBy f_reach f_goesOn f_far f_round f_line f_guessAt) (by decide +kernel) rfl g_nil ?_
  have hJ5 : ∀ (v4 : Int32) (ev4 : v4 = (if o2 = 0 then (0 : Int32) else (1 : Int32))), g_G X rm_M_takesSign c_M_takesSign 3 7 (some .boolean) 24 [(2, .int o2)] [.int v4, .int o1.1, .ref 0] (HM f_undone f_letters f_showing o1.1 o1.2 f_value f_laters f_places f_guesses f_ways f_now f_past f_images f_isKept f_text f_shown f_read f_letter f_sizes f_laterNumber f_many f_labelAt f_soAt f_meets f_wayFrom f_wayTo f_wayBy f_reach f_goesOn f_far f_round f_line f_guessAt) := by
    intro v4 ev4
    subst ev4
    refine g_blk 29 [(.iadd, 0, 0, 0, 0), (.putfield 92, 7, 10, 1, 0), (.iload_n 2, 0, 0, 0, 0)] [] [(2, .int o2)] [.int o2] (HM f_undone f_letters f_showing (o1.1 + (if o2 = 0 then (0 : Int32) else (1 : Int32))) o1.2 f_value f_laters f_places f_guesses f_ways f_now f_past f_images f_isKept f_text f_shown f_read f_letter f_sizes f_laterNumber f_many f_labelAt f_soAt f_meets f_wayFrom f_wayTo f_wayBy f_reach f_goesOn f_far f_round f_line f_guessAt) (by decide +kernel) rfl g_nil ?_
    obtain ⟨h5, hs⟩ := g_sat_c hs
    have hq := g_sat_s hs
    exact g_zret hX (by decide +kernel) rfl (g_isb_of h5) hq
  refine g_br 23 (.ifCond .eq 7) (o2 = 0) [.int o1.1, .ref 0] (by decide +kernel) rfl (fun c7 => ?_) (fun c7 => ?_)
  · refine g_blk 24 [(.iconst 0, 0, 0, 0, 0)] [] [(2, .int o2), (0, .ref 0), (1, .int a1)] [.int (0 : Int32), .int o1.1, .ref 0] (HM f_undone f_letters f_showing o1.1 o1.2 f_value f_laters f_places f_guesses f_ways f_now f_past f_images f_isKept f_text f_shown f_read f_letter f_sizes f_laterNumber f_many f_labelAt f_soAt f_meets f_wayFrom f_wayTo f_wayBy f_reach f_goesOn f_far f_round f_line f_guessAt) (by decide +kernel) rfl g_nil ?_
    refine g_loc (L2 := [(2, .int o2)]) [0] rfl ?_
    exact hJ5 _ (by rw [if_pos c7])
  · refine g_blk 24 [(.iconst 1, 0, 0, 1, 0), (.goto 4, 0, 0, 0, 0)] [] [(2, .int o2), (0, .ref 0), (1, .int a1)] [.int (1 : Int32), .int o1.1, .ref 0] (HM f_undone f_letters f_showing o1.1 o1.2 f_value f_laters f_places f_guesses f_ways f_now f_past f_images f_isKept f_text f_shown f_read f_letter f_sizes f_laterNumber f_many f_labelAt f_soAt f_meets f_wayFrom f_wayTo f_wayBy f_reach f_goesOn f_far f_round f_line f_guessAt) (by decide +kernel) rfl g_nil ?_
    refine g_loc (L2 := [(2, .int o2)]) [0] rfl ?_
    exact hJ5 _ (by rw [if_neg c7])
abbrev rm_M_takesNumber : Room := { frames := 2, cells := 0, slots := 0, locals := 42 }
def M_takesNumber_l1 (f_letters : Int32) (f_text : Nat → Int32) : Nat → Int32 → Int32 → Option (Int32 × Int32)
  | 0, _, _ => none
  | n + 1, w_spot_2, w_value_3 => ((F_M_isFigure f_letters w_spot_2 f_text).bind fun o5 => (if o5 = 0 then (some (w_spot_2, w_value_3)) else ((if w_value_3 ≤ (99 : Int32) then (g_chk (g_inb w_spot_2 120) (some ((((10 : Int32) * w_value_3) + (f_text w_spot_2.toNatClampNeg)) - (48 : Int32)))) else (some (100 : Int32))).bind fun o9 => (M_takesNumber_l1 f_letters f_text n (w_spot_2 + (1 : Int32)) o9))))
theorem M_takesNumber_l1_s (f_letters : Int32) (f_text : Nat → Int32) (n : Nat) (w_spot_2 : Int32) (w_value_3 : Int32) : M_takesNumber_l1 f_letters f_text (n + 1) w_spot_2 w_value_3 = ((F_M_isFigure f_letters w_spot_2 f_text).bind fun o5 => (if o5 = 0 then (some (w_spot_2, w_value_3)) else ((if w_value_3 ≤ (99 : Int32) then (g_chk (g_inb w_spot_2 120) (some ((((10 : Int32) * w_value_3) + (f_text w_spot_2.toNatClampNeg)) - (48 : Int32)))) else (some (100 : Int32))).bind fun o9 => (M_takesNumber_l1 f_letters f_text n (w_spot_2 + (1 : Int32)) o9)))) := rfl
def F_M_takesNumber (N : Nat) (f_letters : Int32) (f_spot : Int32) (f_text : Nat → Int32) (a1 : Int32) : Option (Int32 × Int32 × Int32 × Int32) := ((F_M_blanks N f_letters f_spot f_text).bind fun o1 => ((M_takesNumber_l1 f_letters f_text N o1.1 (0 : Int32)).bind fun o4 => ((if o4.1 = (o1.2 + (1 : Int32)) then (some (1 : Int32)) else (if o4.1 ≤ o1.2 then (some (0 : Int32)) else (g_chk (g_inb o1.2 120) (if (f_text (o1.2).toNatClampNeg) = (48 : Int32) then (some (0 : Int32)) else (some (1 : Int32)))))).bind fun o13 => (some ((if o13 = 0 then (0 : Int32) else (if a1 < o4.2 then (0 : Int32) else (1 : Int32))), o4.1, o1.2, o4.2)))))
set_option maxRecDepth 100000 in
theorem ct_M_takesNumber (N : Nat) (f_undone : Int32) (f_letters : Int32) (f_showing : Int32) (f_spot : Int32) (f_tokenAt : Int32) (f_value : Int32) (f_laters : Int32) (f_places : Int32) (f_guesses : Int32) (f_ways : Int32) (f_now : Nat → Int32) (f_past : Nat → Int32) (f_images : Nat → Int32) (f_isKept : Nat → Int32) (f_text : Nat → Int32) (f_shown : Nat → Int32) (f_read : Nat → Int32) (f_letter : Nat → Int32) (f_sizes : Nat → Int32) (f_laterNumber : Nat → Int32) (f_many : Nat → Int32) (f_labelAt : Nat → Int32) (f_soAt : Nat → Int32) (f_meets : Nat → Int32) (f_wayFrom : Nat → Int32) (f_wayTo : Nat → Int32) (f_wayBy : Nat → Int32) (f_reach : Nat → Int64) (f_goesOn : Nat → Int32) (f_far : Nat → Int32) (f_round : Nat → Int32) (f_line : Nat → Int32) (f_guessAt : Nat → Int32) (a1 : Int32) : g_F y_M_takesNumber c_M_takesNumber 3 (some .boolean) rm_M_takesNumber [.ref 0, .int a1] (HM f_undone f_letters f_showing f_spot f_tokenAt f_value f_laters f_places f_guesses f_ways f_now f_past f_images f_isKept f_text f_shown f_read f_letter f_sizes f_laterNumber f_many f_labelAt f_soAt f_meets f_wayFrom f_wayTo f_wayBy f_reach f_goesOn f_far f_round f_line f_guessAt) (F_M_takesNumber N f_letters f_spot f_text a1) (fun o => some (.int o.1)) (fun o => (HM f_undone f_letters f_showing o.2.1 o.2.2.1 o.2.2.2 f_laters f_places f_guesses f_ways f_now f_past f_images f_isKept f_text f_shown f_read f_letter f_sizes f_laterNumber f_many f_labelAt f_soAt f_meets f_wayFrom f_wayTo f_wayBy f_reach f_goesOn f_far f_round f_line f_guessAt)) := by
  intro l P hs
  refine g_ofG 7 (by decide +kernel) rfl (Nat.le_of_ble_eq_true rfl) (fun X hX => ?_)
  unfold F_M_takesNumber at hs
  refine g_loc (L2 := [(0, .ref 0), (1, .int a1)]) [0, 1] rfl ?_
  refine g_blk 1 [(.aload_n 0, 0, 0, 0, 0)] [] [(0, .ref 0), (1, .int a1)] [.ref 0] (HM f_undone f_letters f_showing f_spot f_tokenAt f_value f_laters f_places f_guesses f_ways f_now f_past f_images f_isKept f_text f_shown f_read f_letter f_sizes f_laterNumber f_many f_labelAt f_soAt f_meets f_wayFrom f_wayTo f_wayBy f_reach f_goesOn f_far f_round f_line f_guessAt) (by decide +kernel) rfl g_nil ?_
  refine g_fM (ct_M_blanks N f_undone f_letters f_showing f_spot f_tokenAt f_value f_laters f_places f_guesses f_ways f_now f_past f_images f_isKept f_text f_shown f_read f_letter f_sizes f_laterNumber f_many f_labelAt f_soAt f_meets f_wayFrom f_wayTo f_wayBy f_reach f_goesOn f_far f_round f_line f_guessAt) 98 true 0 lk_7_98 (by decide +kernel) rfl ⟨rfl, rfl, by decide, by decide⟩ [] rfl (Nat.le_of_ble_eq_true rfl) (fun _ => ⟨0, 7, _, rfl, rfl, by decide, rfl⟩) hs (fun o1 hs => ?_)
  refine g_blk 9 [(.aload_n 0, 0, 0, 0, 0), (.iconst 0, 0, 0, 0, 0), (.putfield 105, 7, 12, 1, 0)] [] [(0, .ref 0), (1, .int a1)] [] (HM f_undone f_letters f_showing o1.1 o1.2 (0 : Int32) f_laters f_places f_guesses f_ways f_now f_past f_images f_isKept f_text f_shown f_read f_letter f_sizes f_laterNumber f_many f_labelAt f_soAt f_meets f_wayFrom f_wayTo f_wayBy f_reach f_goesOn f_far f_round f_line f_guessAt) (by decide +kernel) rfl g_nil ?_
  refine g_join (fun (o4 : Int32 × Int32) => g_G X rm_M_takesNumber c_M_takesNumber 3 7 (some .boolean) 67 [(0, .ref 0), (1, .int a1)] [] (HM f_undone f_letters f_showing o4.1 o1.2 o4.2 f_laters f_places f_guesses f_ways f_now f_past f_images f_isKept f_text f_shown f_read f_letter f_sizes f_laterNumber f_many f_labelAt f_soAt f_meets f_wayFrom f_wayTo f_wayBy f_reach f_goesOn f_far f_round f_line f_guessAt)) hs (fun o4 hs => ?_) (fun hs => ?_)
  · refine g_blk 77 [(.aload_n 0, 0, 0, 0, 0), (.getfield 92, 7, 10, 0, 0), (.aload_n 0, 0, 0, 0, 0), (.getfield 95, 7, 11, 0, 0), (.iconst 1, 0, 0, 1, 0), (.iadd, 0, 0, 0, 0)] [] [(0, .ref 0), (1, .int a1)] [.int (o1.2 + (1 : Int32)), .int o4.1] (HM f_undone f_letters f_showing o4.1 o1.2 o4.2 f_laters f_places f_guesses f_ways f_now f_past f_images f_isKept f_text f_shown f_read f_letter f_sizes f_laterNumber f_many f_labelAt f_soAt f_meets f_wayFrom f_wayTo f_wayBy f_reach f_goesOn f_far f_round f_line f_guessAt) (by decide +kernel) rfl g_nil ?_
    refine g_join (fun (o13 : Int32) => g_G X rm_M_takesNumber c_M_takesNumber 3 7 (some .boolean) 110 [(0, .ref 0), (1, .int a1)] [.int o13] (HM f_undone f_letters f_showing o4.1 o1.2 o4.2 f_laters f_places f_guesses f_ways f_now f_past f_images f_isKept f_text f_shown f_read f_letter f_sizes f_laterNumber f_many f_labelAt f_soAt f_meets f_wayFrom f_wayTo f_wayBy f_reach f_goesOn f_far f_round f_line f_guessAt)) hs (fun o13 hs => ?_) (fun hs => ?_)
    · refine g_blk 112 [(.istore_n 2, 0, 0, 0, 0), (.iload_n 2, 0, 0, 0, 0)] [] [(2, .int o13), (0, .ref 0), (1, .int a1)] [.int o13] (HM f_undone f_letters f_showing o4.1 o1.2 o4.2 f_laters f_places f_guesses f_ways f_now f_past f_images f_isKept f_text f_shown f_read f_letter f_sizes f_laterNumber f_many f_labelAt f_soAt f_meets f_wayFrom f_wayTo f_wayBy f_reach f_goesOn f_far f_round f_line f_guessAt) (by decide +kernel) rfl g_nil ?_
      have hJ18 : ∀ (v18 : Int32) (ev18 : v18 = (if o13 = 0 then (0 : Int32) else (if a1 < o4.2 then (0 : Int32) else (1 : Int32)))), g_G X rm_M_takesNumber c_M_takesNumber 3 7 (some .boolean) 128 [] [.int v18] (HM f_undone f_letters f_showing o4.1 o1.2 o4.2 f_laters f_places f_guesses f_ways f_now f_past f_images f_isKept f_text f_shown f_read f_letter f_sizes f_laterNumber f_many f_labelAt f_soAt f_meets f_wayFrom f_wayTo f_wayBy f_reach f_goesOn f_far f_round f_line f_guessAt) := by
        intro v18 ev18
        subst ev18
        have hq := g_sat_s hs
        exact g_zret hX (by decide +kernel) rfl (by repeat (first | exact Or.inl rfl | exact Or.inr rfl | split)) hq
      refine g_br 127 (.ifCond .eq 15) (o13 = 0) [] (by decide +kernel) rfl (fun c20 => ?_) (fun c20 => ?_)
      · refine g_blk 128 [(.iconst 0, 0, 0, 0, 0)] [] [(2, .int o13), (0, .ref 0), (1, .int a1)] [.int (0 : Int32)] (HM f_undone f_letters f_showing o4.1 o1.2 o4.2 f_laters f_places f_guesses f_ways f_now f_past f_images f_isKept f_text f_shown f_read f_letter f_sizes f_laterNumber f_many f_labelAt f_soAt f_meets f_wayFrom f_wayTo f_wayBy f_reach f_goesOn f_far f_round f_line f_guessAt) (by decide +kernel) rfl g_nil ?_
        refine g_loc (L2 := []) [] rfl ?_
        exact hJ18 _ (by rw [if_pos c20])
      · refine g_blk 120 [(.aload_n 0, 0, 0, 0, 0), (.getfield 105, 7, 12, 0, 0), (.iload_n 1, 0, 0, 0, 0)] [] [(2, .int o13), (0, .ref 0), (1, .int a1)] [.int a1, .int o4.2] (HM f_undone f_letters f_showing o4.1 o1.2 o4.2 f_laters f_places f_guesses f_ways f_now f_past f_images f_isKept f_text f_shown f_read f_letter f_sizes f_laterNumber f_many f_labelAt f_soAt f_meets f_wayFrom f_wayTo f_wayBy f_reach f_goesOn f_far f_round f_line f_guessAt) (by decide +kernel) rfl g_nil ?_
        refine g_br 127 (.if_icmp .gt 7) (a1 < o4.2) [] (by decide +kernel) rfl (fun c21 => ?_) (fun c21 => ?_)
        · refine g_blk 128 [(.iconst 0, 0, 0, 0, 0)] [] [(2, .int o13), (0, .ref 0), (1, .int a1)] [.int (0 : Int32)] (HM f_undone f_letters f_showing o4.1 o1.2 o4.2 f_laters f_places f_guesses f_ways f_now f_past f_images f_isKept f_text f_shown f_read f_letter f_sizes f_laterNumber f_many f_labelAt f_soAt f_meets f_wayFrom f_wayTo f_wayBy f_reach f_goesOn f_far f_round f_line f_guessAt) (by decide +kernel) rfl g_nil ?_
          refine g_loc (L2 := []) [] rfl ?_
          exact hJ18 _ (by rw [if_neg c20, if_pos c21])
        · refine g_blk 128 [(.iconst 1, 0, 0, 1, 0), (.goto 4, 0, 0, 0, 0)] [] [(2, .int o13), (0, .ref 0), (1, .int a1)] [.int (1 : Int32)] (HM f_undone f_letters f_showing o4.1 o1.2 o4.2 f_laters f_places f_guesses f_ways f_now f_past f_images f_isKept f_text f_shown f_read f_letter f_sizes f_laterNumber f_many f_labelAt f_soAt f_meets f_wayFrom f_wayTo f_wayBy f_reach f_goesOn f_far f_round f_line f_guessAt) (by decide +kernel) rfl g_nil ?_
          refine g_loc (L2 := []) [] rfl ?_
          exact hJ18 _ (by rw [if_neg c20, if_neg c21])
    · refine g_br 105 (.if_icmp .eq 28) (o4.1 = (o1.2 + (1 : Int32))) [] (by decide +kernel) rfl (fun c11 => ?_) (fun c11 => ?_)
      · have hs := g_sat_t hs c11
        refine g_blk 110 [(.iconst 1, 0, 0, 1, 0), (.goto 4, 0, 0, 0, 0)] [] [(0, .ref 0), (1, .int a1)] [.int (1 : Int32)] (HM f_undone f_letters f_showing o4.1 o1.2 o4.2 f_laters f_places f_guesses f_ways f_now f_past f_images f_isKept f_text f_shown f_read f_letter f_sizes f_laterNumber f_many f_labelAt f_soAt f_meets f_wayFrom f_wayTo f_wayBy f_reach f_goesOn f_far f_round f_line f_guessAt) (by decide +kernel) rfl g_nil ?_
        have hq := g_sat_s hs
        exact hq
      · have hs := g_sat_f hs c11
        refine g_blk 88 [(.aload_n 0, 0, 0, 0, 0), (.getfield 92, 7, 10, 0, 0), (.aload_n 0, 0, 0, 0, 0), (.getfield 95, 7, 11, 0, 0)] [] [(0, .ref 0), (1, .int a1)] [.int o1.2, .int o4.1] (HM f_undone f_letters f_showing o4.1 o1.2 o4.2 f_laters f_places f_guesses f_ways f_now f_past f_images f_isKept f_text f_shown f_read f_letter f_sizes f_laterNumber f_many f_labelAt f_soAt f_meets f_wayFrom f_wayTo f_wayBy f_reach f_goesOn f_far f_round f_line f_guessAt) (by decide +kernel) rfl g_nil ?_
        refine g_br 109 (.if_icmp .le 21) (o4.1 ≤ o1.2) [] (by decide +kernel) rfl (fun c14 => ?_) (fun c14 => ?_)
        · have hs := g_sat_t hs c14
          refine g_blk 110 [(.iconst 0, 0, 0, 0, 0)] [] [(0, .ref 0), (1, .int a1)] [.int (0 : Int32)] (HM f_undone f_letters f_showing o4.1 o1.2 o4.2 f_laters f_places f_guesses f_ways f_now f_past f_images f_isKept f_text f_shown f_read f_letter f_sizes f_laterNumber f_many f_labelAt f_soAt f_meets f_wayFrom f_wayTo f_wayBy f_reach f_goesOn f_far f_round f_line f_guessAt) (by decide +kernel) rfl g_nil ?_
          have hq := g_sat_s hs
          exact hq
        · have hs := g_sat_f hs c14
          obtain ⟨h15, hs⟩ := g_sat_c hs
          refine g_blk 102 [(.aload_n 0, 0, 0, 0, 0), (.getfield 23, 7, 5, 0, 0), (.aload_n 0, 0, 0, 0, 0), (.getfield 95, 7, 11, 0, 0), (.iaload, 0, 0, 0, 0), (.bipush 48, 0, 0, 48, 0)] [vp_in o1.2 120] [(0, .ref 0), (1, .int a1)] [.int (48 : Int32), .int (f_text (o1.2).toNatClampNeg)] (HM f_undone f_letters f_showing o4.1 o1.2 o4.2 f_laters f_places f_guesses f_ways f_now f_past f_images f_isKept f_text f_shown f_read f_letter f_sizes f_laterNumber f_many f_labelAt f_soAt f_meets f_wayFrom f_wayTo f_wayBy f_reach f_goesOn f_far f_round f_line f_guessAt) (by decide +kernel) rfl (g_and (g_inb_in h15) g_nil) ?_
          refine g_br 109 (.if_icmp .eq 7) ((f_text (o1.2).toNatClampNeg) = (48 : Int32)) [] (by decide +kernel) rfl (fun c16 => ?_) (fun c16 => ?_)
          · have hs := g_sat_t hs c16
            refine g_blk 110 [(.iconst 0, 0, 0, 0, 0)] [] [(0, .ref 0), (1, .int a1)] [.int (0 : Int32)] (HM f_undone f_letters f_showing o4.1 o1.2 o4.2 f_laters f_places f_guesses f_ways f_now f_past f_images f_isKept f_text f_shown f_read f_letter f_sizes f_laterNumber f_many f_labelAt f_soAt f_meets f_wayFrom f_wayTo f_wayBy f_reach f_goesOn f_far f_round f_line f_guessAt) (by decide +kernel) rfl g_nil ?_
            have hq := g_sat_s hs
            exact hq
          · have hs := g_sat_f hs c16
            refine g_blk 110 [(.iconst 1, 0, 0, 1, 0), (.goto 4, 0, 0, 0, 0)] [] [(0, .ref 0), (1, .int a1)] [.int (1 : Int32)] (HM f_undone f_letters f_showing o4.1 o1.2 o4.2 f_laters f_places f_guesses f_ways f_now f_past f_images f_isKept f_text f_shown f_read f_letter f_sizes f_laterNumber f_many f_labelAt f_soAt f_meets f_wayFrom f_wayTo f_wayBy f_reach f_goesOn f_far f_round f_line f_guessAt) (by decide +kernel) rfl g_nil ?_
            have hq := g_sat_s hs
            exact hq
  · have hlM_takesNumber_l1 : ∀ (n : Nat) (w_spot_2 : Int32) (w_value_3 : Int32), g_sat (M_takesNumber_l1 f_letters f_text n w_spot_2 w_value_3) (fun (o4 : Int32 × Int32) => g_G X rm_M_takesNumber c_M_takesNumber 3 7 (some .boolean) 67 [(0, .ref 0), (1, .int a1)] [] (HM f_undone f_letters f_showing o4.1 o1.2 o4.2 f_laters f_places f_guesses f_ways f_now f_past f_images f_isKept f_text f_shown f_read f_letter f_sizes f_laterNumber f_many f_labelAt f_soAt f_meets f_wayFrom f_wayTo f_wayBy f_reach f_goesOn f_far f_round f_line f_guessAt)) → g_G X rm_M_takesNumber c_M_takesNumber 3 7 (some .boolean) 9 [(0, .ref 0), (1, .int a1)] [] (HM f_undone f_letters f_showing w_spot_2 o1.2 w_value_3 f_laters f_places f_guesses f_ways f_now f_past f_images f_isKept f_text f_shown f_read f_letter f_sizes f_laterNumber f_many f_labelAt f_soAt f_meets f_wayFrom f_wayTo f_wayBy f_reach f_goesOn f_far f_round f_line f_guessAt) := by
      intro n
      induction n with
      | zero =>
        intro w_spot_2 w_value_3 hs
        obtain ⟨_, h0, _⟩ := hs
        cases h0
      | succ n ih =>
        intro w_spot_2 w_value_3 hs
        rw [M_takesNumber_l1_s] at hs
        refine g_blk 10 [(.aload_n 0, 0, 0, 0, 0)] [] [(0, .ref 0), (1, .int a1)] [.ref 0] (HM f_undone f_letters f_showing w_spot_2 o1.2 w_value_3 f_laters f_places f_guesses f_ways f_now f_past f_images f_isKept f_text f_shown f_read f_letter f_sizes f_laterNumber f_many f_labelAt f_soAt f_meets f_wayFrom f_wayTo f_wayBy f_reach f_goesOn f_far f_round f_line f_guessAt) (by decide +kernel) rfl g_nil ?_
        refine g_fM (ct_M_isFigure f_undone f_letters f_showing w_spot_2 o1.2 w_value_3 f_laters f_places f_guesses f_ways f_now f_past f_images f_isKept f_text f_shown f_read f_letter f_sizes f_laterNumber f_many f_labelAt f_soAt f_meets f_wayFrom f_wayTo f_wayBy f_reach f_goesOn f_far f_round f_line f_guessAt) 108 true 0 lk_7_108 (by decide +kernel) rfl ⟨rfl, rfl, by decide, by decide⟩ [] rfl (Nat.le_of_ble_eq_true rfl) (fun _ => ⟨0, 7, _, rfl, rfl, by decide, rfl⟩) hs (fun o5 hs => ?_)
        refine g_br 67 (.ifCond .eq 54) (o5 = 0) [] (by decide +kernel) rfl (fun c6 => ?_) (fun c6 => ?_)
        · have hs := g_sat_t hs c6
          have hq := g_sat_s hs
          exact hq
        · have hs := g_sat_f hs c6
          refine g_blk 23 [(.aload_n 0, 0, 0, 0, 0), (.aload_n 0, 0, 0, 0, 0), (.getfield 105, 7, 12, 0, 0), (.bipush 99, 0, 0, 99, 0)] [] [(0, .ref 0), (1, .int a1)] [.int (99 : Int32), .int w_value_3, .ref 0] (HM f_undone f_letters f_showing w_spot_2 o1.2 w_value_3 f_laters f_places f_guesses f_ways f_now f_past f_images f_isKept f_text f_shown f_read f_letter f_sizes f_laterNumber f_many f_labelAt f_soAt f_meets f_wayFrom f_wayTo f_wayBy f_reach f_goesOn f_far f_round f_line f_guessAt) (by decide +kernel) rfl g_nil ?_
          refine g_join (fun (o9 : Int32) => g_G X rm_M_takesNumber c_M_takesNumber 3 7 (some .boolean) 51 [(0, .ref 0), (1, .int a1)] [.int o9, .ref 0] (HM f_undone f_letters f_showing w_spot_2 o1.2 w_value_3 f_laters f_places f_guesses f_ways f_now f_past f_images f_isKept f_text f_shown f_read f_letter f_sizes f_laterNumber f_many f_labelAt f_soAt f_meets f_wayFrom f_wayTo f_wayBy f_reach f_goesOn f_far f_round f_line f_guessAt)) hs (fun o9 hs => ?_) (fun hs => ?_)
          · refine g_blk 9 [(.putfield 105, 7, 12, 1, 0), (.aload_n 0, 0, 0, 0, 0), (.dup, 0, 0, 0, 0), (.getfield 92, 7, 10, 0, 0), (.iconst 1, 0, 0, 1, 0), (.iadd, 0, 0, 0, 0), (.putfield 92, 7, 10, 1, 0), (.goto (-55), 0, 0, 0, 0)] [] [(0, .ref 0), (1, .int a1)] [] (HM f_undone f_letters f_showing (w_spot_2 + (1 : Int32)) o1.2 o9 f_laters f_places f_guesses f_ways f_now f_past f_images f_isKept f_text f_shown f_read f_letter f_sizes f_laterNumber f_many f_labelAt f_soAt f_meets f_wayFrom f_wayTo f_wayBy f_reach f_goesOn f_far f_round f_line f_guessAt) (by decide +kernel) rfl g_nil ?_
            exact ih _ _ hs
          · refine g_br 31 (.if_icmp .le 8) (w_value_3 ≤ (99 : Int32)) [.ref 0] (by decide +kernel) rfl (fun c7 => ?_) (fun c7 => ?_)
            · have hs := g_sat_t hs c7
              obtain ⟨h10, hs⟩ := g_sat_c hs
              refine g_blk 51 [(.bipush 10, 0, 0, 10, 0), (.aload_n 0, 0, 0, 0, 0), (.getfield 105, 7, 12, 0, 0), (.imul, 0, 0, 0, 0), (.aload_n 0, 0, 0, 0, 0), (.getfield 23, 7, 5, 0, 0), (.aload_n 0, 0, 0, 0, 0), (.getfield 92, 7, 10, 0, 0), (.iaload, 0, 0, 0, 0), (.iadd, 0, 0, 0, 0), (.bipush 48, 0, 0, 48, 0), (.isub, 0, 0, 0, 0)] [vp_in w_spot_2 120] [(0, .ref 0), (1, .int a1)] [.int ((((10 : Int32) * w_value_3) + (f_text w_spot_2.toNatClampNeg)) - (48 : Int32)), .ref 0] (HM f_undone f_letters f_showing w_spot_2 o1.2 w_value_3 f_laters f_places f_guesses f_ways f_now f_past f_images f_isKept f_text f_shown f_read f_letter f_sizes f_laterNumber f_many f_labelAt f_soAt f_meets f_wayFrom f_wayTo f_wayBy f_reach f_goesOn f_far f_round f_line f_guessAt) (by decide +kernel) rfl (g_and (g_inb_in h10) g_nil) ?_
              have hq := g_sat_s hs
              exact hq
            · have hs := g_sat_f hs c7
              refine g_blk 51 [(.bipush 100, 0, 0, 100, 0), (.goto 23, 0, 0, 0, 0)] [] [(0, .ref 0), (1, .int a1)] [.int (100 : Int32), .ref 0] (HM f_undone f_letters f_showing w_spot_2 o1.2 w_value_3 f_laters f_places f_guesses f_ways f_now f_past f_images f_isKept f_text f_shown f_read f_letter f_sizes f_laterNumber f_many f_labelAt f_soAt f_meets f_wayFrom f_wayTo f_wayBy f_reach f_goesOn f_far f_round f_line f_guessAt) (by decide +kernel) rfl g_nil ?_
              have hq := g_sat_s hs
              exact hq
    exact hlM_takesNumber_l1 N _ _ hs
abbrev rm_M_takesState : Room := { frames := 3, cells := 0, slots := 0, locals := 64 }
def F_M_takesState (N : Nat) (f_letters : Int32) (f_spot : Int32) (f_tokenAt : Int32) (f_value : Int32) (f_text : Nat → Int32) (f_read : Nat → Int32) : Option (Int32 × Int32 × Int32 × Int32 × (Nat → Int32)) := (if (f_read 0) = (5 : Int32) then (some ((0 : Int32), f_spot, f_tokenAt, f_value, f_read)) else ((F_M_takesNumber N f_letters (f_spot + (1 : Int32)) f_text (7 : Int32)).bind fun o2 => (if o2.1 = 0 then (some ((0 : Int32), o2.2.1, o2.2.2.1, o2.2.2.2, f_read)) else (g_chk (g_inb ((1 : Int32) + (f_read 0)) 105) ((F_M_takesSign N f_letters o2.2.1 f_text (59 : Int32)).bind fun o5 => (g_chk (g_isb o5.1) (some (o5.1, o5.2.1, o5.2.2, o2.2.2.2, (upd (upd f_read (((1 : Int32) + (f_read 0))).toNatClampNeg o2.2.2.2) 0 (((upd f_read (((1 : Int32) + (f_read 0))).toNatClampNeg o2.2.2.2) 0) + (1 : Int32)))))))))))
set_option maxRecDepth 100000 in
theorem ct_M_takesState (N : Nat) (f_undone : Int32) (f_letters : Int32) (f_showing : Int32) (f_spot : Int32) (f_tokenAt : Int32) (f_value : Int32) (f_laters : Int32) (f_places : Int32) (f_guesses : Int32) (f_ways : Int32) (f_now : Nat → Int32) (f_past : Nat → Int32) (f_images : Nat → Int32) (f_isKept : Nat → Int32) (f_text : Nat → Int32) (f_shown : Nat → Int32) (f_read : Nat → Int32) (f_letter : Nat → Int32) (f_sizes : Nat → Int32) (f_laterNumber : Nat → Int32) (f_many : Nat → Int32) (f_labelAt : Nat → Int32) (f_soAt : Nat → Int32) (f_meets : Nat → Int32) (f_wayFrom : Nat → Int32) (f_wayTo : Nat → Int32) (f_wayBy : Nat → Int32) (f_reach : Nat → Int64) (f_goesOn : Nat → Int32) (f_far : Nat → Int32) (f_round : Nat → Int32) (f_line : Nat → Int32) (f_guessAt : Nat → Int32) : g_F y_M_takesState c_M_takesState 1 (some .boolean) rm_M_takesState [.ref 0] (HM f_undone f_letters f_showing f_spot f_tokenAt f_value f_laters f_places f_guesses f_ways f_now f_past f_images f_isKept f_text f_shown f_read f_letter f_sizes f_laterNumber f_many f_labelAt f_soAt f_meets f_wayFrom f_wayTo f_wayBy f_reach f_goesOn f_far f_round f_line f_guessAt) (F_M_takesState N f_letters f_spot f_tokenAt f_value f_text f_read) (fun o => some (.int o.1)) (fun o => (HM f_undone f_letters f_showing o.2.1 o.2.2.1 o.2.2.2.1 f_laters f_places f_guesses f_ways f_now f_past f_images f_isKept f_text f_shown o.2.2.2.2 f_letter f_sizes f_laterNumber f_many f_labelAt f_soAt f_meets f_wayFrom f_wayTo f_wayBy f_reach f_goesOn f_far f_round f_line f_guessAt)) := by
  intro l P hs
  refine g_ofG 7 (by decide +kernel) rfl (Nat.le_of_ble_eq_true rfl) (fun X hX => ?_)
  unfold F_M_takesState at hs
  refine g_loc (L2 := [(0, .ref 0)]) [0] rfl ?_
  refine g_blk 7 [(.aload_n 0, 0, 0, 0, 0), (.getfield 29, 7, 9, 0, 0), (.iconst 0, 0, 0, 0, 0), (.iaload, 0, 0, 0, 0), (.iconst 5, 0, 0, 5, 0)] [vp_in (0 : Int32) 105] [(0, .ref 0)] [.int (5 : Int32), .int (f_read 0)] (HM f_undone f_letters f_showing f_spot f_tokenAt f_value f_laters f_places f_guesses f_ways f_now f_past f_images f_isKept f_text f_shown f_read f_letter f_sizes f_laterNumber f_many f_labelAt f_soAt f_meets f_wayFrom f_wayTo f_wayBy f_reach f_goesOn f_far f_round f_line f_guessAt) (by decide +kernel) rfl (g_and (g_inb_in (by decide +kernel)) g_nil) ?_
  refine g_brn 12 (.if_icmp .ne 5) ((f_read 0) = (5 : Int32)) [] (by decide +kernel) rfl (fun c1 => ?_) (fun c1 => ?_)
  · have hs := g_sat_f hs c1
    refine g_blk 25 [(.aload_n 0, 0, 0, 0, 0), (.dup, 0, 0, 0, 0), (.getfield 92, 7, 10, 0, 0), (.iconst 1, 0, 0, 1, 0), (.iadd, 0, 0, 0, 0), (.putfield 92, 7, 10, 1, 0), (.aload_n 0, 0, 0, 0, 0), (.bipush 7, 0, 0, 7, 0)] [] [(0, .ref 0)] [.int (7 : Int32), .ref 0] (HM f_undone f_letters f_showing (f_spot + (1 : Int32)) f_tokenAt f_value f_laters f_places f_guesses f_ways f_now f_past f_images f_isKept f_text f_shown f_read f_letter f_sizes f_laterNumber f_many f_labelAt f_soAt f_meets f_wayFrom f_wayTo f_wayBy f_reach f_goesOn f_far f_round f_line f_guessAt) (by decide +kernel) rfl g_nil ?_
    refine g_fM (ct_M_takesNumber N f_undone f_letters f_showing (f_spot + (1 : Int32)) f_tokenAt f_value f_laters f_places f_guesses f_ways f_now f_past f_images f_isKept f_text f_shown f_read f_letter f_sizes f_laterNumber f_many f_labelAt f_soAt f_meets f_wayFrom f_wayTo f_wayBy f_reach f_goesOn f_far f_round f_line f_guessAt (7 : Int32)) 112 true 1 lk_7_112 (by decide +kernel) rfl ⟨rfl, rfl, by decide, by decide⟩ [] rfl (Nat.le_of_ble_eq_true rfl) (fun _ => ⟨0, 7, _, rfl, rfl, by decide, rfl⟩) hs (fun o2 hs => ?_)
    refine g_brn 33 (.ifCond .ne 5) (o2.1 = 0) [] (by decide +kernel) rfl (fun c3 => ?_) (fun c3 => ?_)
    · have hs := g_sat_f hs c3
      obtain ⟨h4, hs⟩ := g_sat_c hs
      refine g_blk 63 [(.aload_n 0, 0, 0, 0, 0), (.getfield 29, 7, 9, 0, 0), (.iconst 1, 0, 0, 1, 0), (.aload_n 0, 0, 0, 0, 0), (.getfield 29, 7, 9, 0, 0), (.iconst 0, 0, 0, 0, 0), (.iaload, 0, 0, 0, 0), (.iadd, 0, 0, 0, 0), (.aload_n 0, 0, 0, 0, 0), (.getfield 105, 7, 12, 0, 0), (.iastore, 0, 0, 0, 0), (.aload_n 0, 0, 0, 0, 0), (.getfield 29, 7, 9, 0, 0), (.iconst 0, 0, 0, 0, 0), (.dup2, 0, 0, 0, 0), (.iaload, 0, 0, 0, 0), (.iconst 1, 0, 0, 1, 0), (.iadd, 0, 0, 0, 0), (.iastore, 0, 0, 0, 0), (.aload_n 0, 0, 0, 0, 0), (.bipush 59, 0, 0, 59, 0)] [vp_in (0 : Int32) 105, vp_in ((1 : Int32) + (f_read 0)) 105, vp_in (0 : Int32) 105, vp_in (0 : Int32) 105] [(0, .ref 0)] [.int (59 : Int32), .ref 0] (HM f_undone f_letters f_showing o2.2.1 o2.2.2.1 o2.2.2.2 f_laters f_places f_guesses f_ways f_now f_past f_images f_isKept f_text f_shown (upd (upd f_read (((1 : Int32) + (f_read 0))).toNatClampNeg o2.2.2.2) 0 (((upd f_read (((1 : Int32) + (f_read 0))).toNatClampNeg o2.2.2.2) 0) + (1 : Int32))) f_letter f_sizes f_laterNumber f_many f_labelAt f_soAt f_meets f_wayFrom f_wayTo f_wayBy f_reach f_goesOn f_far f_round f_line f_guessAt) (by decide +kernel) rfl (g_and (g_inb_in (by decide +kernel)) (g_and (g_inb_in h4) (g_and (g_inb_in (by decide +kernel)) (g_and (g_inb_in (by decide +kernel)) g_nil)))) ?_
      refine g_fM (ct_M_takesSign N f_undone f_letters f_showing o2.2.1 o2.2.2.1 o2.2.2.2 f_laters f_places f_guesses f_ways f_now f_past f_images f_isKept f_text f_shown (upd (upd f_read (((1 : Int32) + (f_read 0))).toNatClampNeg o2.2.2.2) 0 (((upd f_read (((1 : Int32) + (f_read 0))).toNatClampNeg o2.2.2.2) 0) + (1 : Int32))) f_letter f_sizes f_laterNumber f_many f_labelAt f_soAt f_meets f_wayFrom f_wayTo f_wayBy f_reach f_goesOn f_far f_round f_line f_guessAt (59 : Int32)) 115 true 1 lk_7_115 (by decide +kernel) rfl ⟨rfl, rfl, by decide, by decide⟩ [] rfl (Nat.le_of_ble_eq_true rfl) (fun _ => ⟨0, 7, _, rfl, rfl, by decide, rfl⟩) hs (fun o5 hs => ?_)
      obtain ⟨h6, hs⟩ := g_sat_c hs
      have hq := g_sat_s hs
      exact g_zret hX (by decide +kernel) rfl (g_isb_of h6) hq
    · have hs := g_sat_t hs c3
      refine g_blk 32 [(.iconst 0, 0, 0, 0, 0)] [] [(0, .ref 0)] [.int (0 : Int32)] (HM f_undone f_letters f_showing o2.2.1 o2.2.2.1 o2.2.2.2 f_laters f_places f_guesses f_ways f_now f_past f_images f_isKept f_text f_shown f_read f_letter f_sizes f_laterNumber f_many f_labelAt f_soAt f_meets f_wayFrom f_wayTo f_wayBy f_reach f_goesOn f_far f_round f_line f_guessAt) (by decide +kernel) rfl g_nil ?_
      have hq := g_sat_s hs
      exact g_zret hX (by decide +kernel) rfl (Or.inl rfl) hq
  · have hs := g_sat_t hs c1
    refine g_blk 11 [(.iconst 0, 0, 0, 0, 0)] [] [(0, .ref 0)] [.int (0 : Int32)] (HM f_undone f_letters f_showing f_spot f_tokenAt f_value f_laters f_places f_guesses f_ways f_now f_past f_images f_isKept f_text f_shown f_read f_letter f_sizes f_laterNumber f_many f_labelAt f_soAt f_meets f_wayFrom f_wayTo f_wayBy f_reach f_goesOn f_far f_round f_line f_guessAt) (by decide +kernel) rfl g_nil ?_
    have hq := g_sat_s hs
    exact g_zret hX (by decide +kernel) rfl (Or.inl rfl) hq
abbrev rm_M_takesMove : Room := { frames := 3, cells := 0, slots := 0, locals := 64 }
def M_takesMove_l1 (N : Nat) (f_letters : Int32) (f_text : Nat → Int32) : Nat → Int32 → Int32 → Int32 → Int32 → (Nat → Int32) → Option ((Int32 × Int32 × Int32 × Int32 × (Nat → Int32)) ⊕ (Int32 × Int32 × Int32 × (Nat → Int32)))
  | 0, _, _, _, _, _ => none
  | n + 1, b1_2, w_spot_3, w_tokenAt_4, w_value_5, w_read_6 => (if (3 : Int32) ≤ b1_2 then (some (.inr (w_spot_3, w_tokenAt_4, w_value_5, w_read_6))) else ((F_M_takesNumber N f_letters w_spot_3 f_text (if b1_2 = 0 then (1 : Int32) else ((w_read_6 0) - (1 : Int32)))).bind fun o11 => (if o11.1 = 0 then (some (.inl ((0 : Int32), o11.2.1, o11.2.2.1, o11.2.2.2, w_read_6))) else (g_chk (g_inb (((7 : Int32) + ((3 : Int32) * (w_read_6 6))) + b1_2) 105) (M_takesMove_l1 N f_letters f_text n (b1_2 + (1 : Int32)) o11.2.1 o11.2.2.1 o11.2.2.2 (upd w_read_6 ((((7 : Int32) + ((3 : Int32) * (w_read_6 6))) + b1_2)).toNatClampNeg o11.2.2.2))))))
theorem M_takesMove_l1_s (N : Nat) (f_letters : Int32) (f_text : Nat → Int32) (n : Nat) (b1_2 : Int32) (w_spot_3 : Int32) (w_tokenAt_4 : Int32) (w_value_5 : Int32) (w_read_6 : Nat → Int32) : M_takesMove_l1 N f_letters f_text (n + 1) b1_2 w_spot_3 w_tokenAt_4 w_value_5 w_read_6 = (if (3 : Int32) ≤ b1_2 then (some (.inr (w_spot_3, w_tokenAt_4, w_value_5, w_read_6))) else ((F_M_takesNumber N f_letters w_spot_3 f_text (if b1_2 = 0 then (1 : Int32) else ((w_read_6 0) - (1 : Int32)))).bind fun o11 => (if o11.1 = 0 then (some (.inl ((0 : Int32), o11.2.1, o11.2.2.1, o11.2.2.2, w_read_6))) else (g_chk (g_inb (((7 : Int32) + ((3 : Int32) * (w_read_6 6))) + b1_2) 105) (M_takesMove_l1 N f_letters f_text n (b1_2 + (1 : Int32)) o11.2.1 o11.2.2.1 o11.2.2.2 (upd w_read_6 ((((7 : Int32) + ((3 : Int32) * (w_read_6 6))) + b1_2)).toNatClampNeg o11.2.2.2)))))) := rfl
def F_M_takesMove (N : Nat) (f_letters : Int32) (f_spot : Int32) (f_tokenAt : Int32) (f_value : Int32) (f_text : Nat → Int32) (f_read : Nat → Int32) : Option (Int32 × Int32 × Int32 × Int32 × (Nat → Int32)) := (if (f_read 6) = (10 : Int32) then (some ((0 : Int32), f_spot, f_tokenAt, f_value, f_read)) else (g_el (fun a => a) (M_takesMove_l1 N f_letters f_text N (0 : Int32) (f_spot + (1 : Int32)) f_tokenAt f_value f_read) (fun o7 => ((F_M_takesSign N f_letters o7.1 f_text (59 : Int32)).bind fun o16 => (g_chk (g_isb o16.1) (some (o16.1, o16.2.1, o16.2.2, o7.2.2.1, (upd o7.2.2.2 6 ((o7.2.2.2 6) + (1 : Int32))))))))))
set_option maxRecDepth 100000 in
theorem ct_M_takesMove (N : Nat) (f_undone : Int32) (f_letters : Int32) (f_showing : Int32) (f_spot : Int32) (f_tokenAt : Int32) (f_value : Int32) (f_laters : Int32) (f_places : Int32) (f_guesses : Int32) (f_ways : Int32) (f_now : Nat → Int32) (f_past : Nat → Int32) (f_images : Nat → Int32) (f_isKept : Nat → Int32) (f_text : Nat → Int32) (f_shown : Nat → Int32) (f_read : Nat → Int32) (f_letter : Nat → Int32) (f_sizes : Nat → Int32) (f_laterNumber : Nat → Int32) (f_many : Nat → Int32) (f_labelAt : Nat → Int32) (f_soAt : Nat → Int32) (f_meets : Nat → Int32) (f_wayFrom : Nat → Int32) (f_wayTo : Nat → Int32) (f_wayBy : Nat → Int32) (f_reach : Nat → Int64) (f_goesOn : Nat → Int32) (f_far : Nat → Int32) (f_round : Nat → Int32) (f_line : Nat → Int32) (f_guessAt : Nat → Int32) : g_F y_M_takesMove c_M_takesMove 2 (some .boolean) rm_M_takesMove [.ref 0] (HM f_undone f_letters f_showing f_spot f_tokenAt f_value f_laters f_places f_guesses f_ways f_now f_past f_images f_isKept f_text f_shown f_read f_letter f_sizes f_laterNumber f_many f_labelAt f_soAt f_meets f_wayFrom f_wayTo f_wayBy f_reach f_goesOn f_far f_round f_line f_guessAt) (F_M_takesMove N f_letters f_spot f_tokenAt f_value f_text f_read) (fun o => some (.int o.1)) (fun o => (HM f_undone f_letters f_showing o.2.1 o.2.2.1 o.2.2.2.1 f_laters f_places f_guesses f_ways f_now f_past f_images f_isKept f_text f_shown o.2.2.2.2 f_letter f_sizes f_laterNumber f_many f_labelAt f_soAt f_meets f_wayFrom f_wayTo f_wayBy f_reach f_goesOn f_far f_round f_line f_guessAt)) := by
  intro l P hs
  refine g_ofG 7 (by decide +kernel) rfl (Nat.le_of_ble_eq_true rfl) (fun X hX => ?_)
  unfold F_M_takesMove at hs
  refine g_loc (L2 := [(0, .ref 0)]) [0] rfl ?_
  refine g_blk 9 [(.aload_n 0, 0, 0, 0, 0), (.getfield 29, 7, 9, 0, 0), (.bipush 6, 0, 0, 6, 0), (.iaload, 0, 0, 0, 0), (.bipush 10, 0, 0, 10, 0)] [vp_in (6 : Int32) 105] [(0, .ref 0)] [.int (10 : Int32), .int (f_read 6)] (HM f_undone f_letters f_showing f_spot f_tokenAt f_value f_laters f_places f_guesses f_ways f_now f_past f_images f_isKept f_text f_shown f_read f_letter f_sizes f_laterNumber f_many f_labelAt f_soAt f_meets f_wayFrom f_wayTo f_wayBy f_reach f_goesOn f_far f_round f_line f_guessAt) (by decide +kernel) rfl (g_and (g_inb_in (by decide +kernel)) g_nil) ?_
  refine g_brn 14 (.if_icmp .ne 5) ((f_read 6) = (10 : Int32)) [] (by decide +kernel) rfl (fun c1 => ?_) (fun c1 => ?_)
  · have hs := g_sat_f hs c1
    refine g_blk 26 [(.aload_n 0, 0, 0, 0, 0), (.dup, 0, 0, 0, 0), (.getfield 92, 7, 10, 0, 0), (.iconst 1, 0, 0, 1, 0), (.iadd, 0, 0, 0, 0), (.putfield 92, 7, 10, 1, 0), (.iconst 0, 0, 0, 0, 0), (.istore_n 1, 0, 0, 0, 0)] [] [(1, .int (0 : Int32)), (0, .ref 0)] [] (HM f_undone f_letters f_showing (f_spot + (1 : Int32)) f_tokenAt f_value f_laters f_places f_guesses f_ways f_now f_past f_images f_isKept f_text f_shown f_read f_letter f_sizes f_laterNumber f_many f_labelAt f_soAt f_meets f_wayFrom f_wayTo f_wayBy f_reach f_goesOn f_far f_round f_line f_guessAt) (by decide +kernel) rfl g_nil ?_
    refine g_loc (L2 := [(0, .ref 0), (1, .int (0 : Int32))]) [1, 0] rfl ?_
    refine g_joinE (fun (o7 : Int32 × Int32 × Int32 × (Nat → Int32)) => g_G X rm_M_takesMove c_M_takesMove 2 7 (some .boolean) 85 [(0, .ref 0)] [] (HM f_undone f_letters f_showing o7.1 o7.2.1 o7.2.2.1 f_laters f_places f_guesses f_ways f_now f_past f_images f_isKept f_text f_shown o7.2.2.2 f_letter f_sizes f_laterNumber f_many f_labelAt f_soAt f_meets f_wayFrom f_wayTo f_wayBy f_reach f_goesOn f_far f_round f_line f_guessAt)) hs (fun o7 hs => ?_) (fun GPM_takesMove_l1 hretM_takesMove_l1 hexM_takesMove_l1 hs => ?_)
    · refine g_blk 99 [(.aload_n 0, 0, 0, 0, 0), (.getfield 29, 7, 9, 0, 0), (.bipush 6, 0, 0, 6, 0), (.dup2, 0, 0, 0, 0), (.iaload, 0, 0, 0, 0), (.iconst 1, 0, 0, 1, 0), (.iadd, 0, 0, 0, 0), (.iastore, 0, 0, 0, 0), (.aload_n 0, 0, 0, 0, 0), (.bipush 59, 0, 0, 59, 0)] [vp_in (6 : Int32) 105, vp_in (6 : Int32) 105] [(0, .ref 0)] [.int (59 : Int32), .ref 0] (HM f_undone f_letters f_showing o7.1 o7.2.1 o7.2.2.1 f_laters f_places f_guesses f_ways f_now f_past f_images f_isKept f_text f_shown (upd o7.2.2.2 6 ((o7.2.2.2 6) + (1 : Int32))) f_letter f_sizes f_laterNumber f_many f_labelAt f_soAt f_meets f_wayFrom f_wayTo f_wayBy f_reach f_goesOn f_far f_round f_line f_guessAt) (by decide +kernel) rfl (g_and (g_inb_in (by decide +kernel)) (g_and (g_inb_in (by decide +kernel)) g_nil)) ?_
      refine g_fM (ct_M_takesSign N f_undone f_letters f_showing o7.1 o7.2.1 o7.2.2.1 f_laters f_places f_guesses f_ways f_now f_past f_images f_isKept f_text f_shown (upd o7.2.2.2 6 ((o7.2.2.2 6) + (1 : Int32))) f_letter f_sizes f_laterNumber f_many f_labelAt f_soAt f_meets f_wayFrom f_wayTo f_wayBy f_reach f_goesOn f_far f_round f_line f_guessAt (59 : Int32)) 115 true 1 lk_7_115 (by decide +kernel) rfl ⟨rfl, rfl, by decide, by decide⟩ [] rfl (Nat.le_of_ble_eq_true rfl) (fun _ => ⟨0, 7, _, rfl, rfl, by decide, rfl⟩) hs (fun o16 hs => ?_)
      obtain ⟨h17, hs⟩ := g_sat_c hs
      have hq := g_sat_s hs
      exact g_zret hX (by decide +kernel) rfl (g_isb_of h17) hq
    · have hlM_takesMove_l1 : ∀ (n : Nat) (b1_2 : Int32) (w_spot_3 : Int32) (w_tokenAt_4 : Int32) (w_value_5 : Int32) (w_read_6 : Nat → Int32), g_sat (M_takesMove_l1 N f_letters f_text n b1_2 w_spot_3 w_tokenAt_4 w_value_5 w_read_6) GPM_takesMove_l1 → g_G X rm_M_takesMove c_M_takesMove 2 7 (some .boolean) 26 [(0, .ref 0), (1, .int b1_2)] [] (HM f_undone f_letters f_showing w_spot_3 w_tokenAt_4 w_value_5 f_laters f_places f_guesses f_ways f_now f_past f_images f_isKept f_text f_shown w_read_6 f_letter f_sizes f_laterNumber f_many f_labelAt f_soAt f_meets f_wayFrom f_wayTo f_wayBy f_reach f_goesOn f_far f_round f_line f_guessAt) := by
        intro n
        induction n with
        | zero =>
          intro b1_2 w_spot_3 w_tokenAt_4 w_value_5 w_read_6 hs
          obtain ⟨_, h0, _⟩ := hs
          cases h0
        | succ n ih =>
          intro b1_2 w_spot_3 w_tokenAt_4 w_value_5 w_read_6 hs
          rw [M_takesMove_l1_s] at hs
          refine g_blk 28 [(.iload_n 1, 0, 0, 0, 0), (.iconst 3, 0, 0, 3, 0)] [] [(0, .ref 0), (1, .int b1_2)] [.int (3 : Int32), .int b1_2] (HM f_undone f_letters f_showing w_spot_3 w_tokenAt_4 w_value_5 f_laters f_places f_guesses f_ways f_now f_past f_images f_isKept f_text f_shown w_read_6 f_letter f_sizes f_laterNumber f_many f_labelAt f_soAt f_meets f_wayFrom f_wayTo f_wayBy f_reach f_goesOn f_far f_round f_line f_guessAt) (by decide +kernel) rfl g_nil ?_
          refine g_br 85 (.if_icmp .ge 57) ((3 : Int32) ≤ b1_2) [] (by decide +kernel) rfl (fun c8 => ?_) (fun c8 => ?_)
          · have hs := g_sat_t hs c8
            refine g_loc (L2 := [(0, .ref 0)]) [0] rfl ?_
            have hq := hexM_takesMove_l1 _ (g_sat_s hs)
            exact hq
          · have hs := g_sat_f hs c8
            refine g_blk 33 [(.aload_n 0, 0, 0, 0, 0), (.iload_n 1, 0, 0, 0, 0)] [] [(0, .ref 0), (1, .int b1_2)] [.int b1_2, .ref 0] (HM f_undone f_letters f_showing w_spot_3 w_tokenAt_4 w_value_5 f_laters f_places f_guesses f_ways f_now f_past f_images f_isKept f_text f_shown w_read_6 f_letter f_sizes f_laterNumber f_many f_labelAt f_soAt f_meets f_wayFrom f_wayTo f_wayBy f_reach f_goesOn f_far f_round f_line f_guessAt) (by decide +kernel) rfl g_nil ?_
            have hJ13 : ∀ (v10 : Int32) (ev10 : v10 = (if b1_2 = 0 then (1 : Int32) else ((w_read_6 0) - (1 : Int32)))), g_G X rm_M_takesMove c_M_takesMove 2 7 (some .boolean) 48 [(0, .ref 0), (1, .int b1_2)] [.int v10, .ref 0] (HM f_undone f_letters f_showing w_spot_3 w_tokenAt_4 w_value_5 f_laters f_places f_guesses f_ways f_now f_past f_images f_isKept f_text f_shown w_read_6 f_letter f_sizes f_laterNumber f_many f_labelAt f_soAt f_meets f_wayFrom f_wayTo f_wayBy f_reach f_goesOn f_far f_round f_line f_guessAt) := by
              intro v10 ev10
              subst ev10
              refine g_fM (ct_M_takesNumber N f_undone f_letters f_showing w_spot_3 w_tokenAt_4 w_value_5 f_laters f_places f_guesses f_ways f_now f_past f_images f_isKept f_text f_shown w_read_6 f_letter f_sizes f_laterNumber f_many f_labelAt f_soAt f_meets f_wayFrom f_wayTo f_wayBy f_reach f_goesOn f_far f_round f_line f_guessAt (if b1_2 = 0 then (1 : Int32) else ((w_read_6 0) - (1 : Int32)))) 112 true 1 lk_7_112 (by decide +kernel) rfl ⟨rfl, rfl, by decide, by decide⟩ [] rfl (Nat.le_of_ble_eq_true rfl) (fun _ => ⟨0, 7, _, rfl, rfl, by decide, rfl⟩) hs (fun o11 hs => ?_)
              refine g_brn 56 (.ifCond .ne 5) (o11.1 = 0) [] (by decide +kernel) rfl (fun c12 => ?_) (fun c12 => ?_)
              · have hs := g_sat_f hs c12
                obtain ⟨h13, hs⟩ := g_sat_c hs
                refine g_blk 26 [(.aload_n 0, 0, 0, 0, 0), (.getfield 29, 7, 9, 0, 0), (.bipush 7, 0, 0, 7, 0), (.iconst 3, 0, 0, 3, 0), (.aload_n 0, 0, 0, 0, 0), (.getfield 29, 7, 9, 0, 0), (.bipush 6, 0, 0, 6, 0), (.iaload, 0, 0, 0, 0), (.imul, 0, 0, 0, 0), (.iadd, 0, 0, 0, 0), (.iload_n 1, 0, 0, 0, 0), (.iadd, 0, 0, 0, 0), (.aload_n 0, 0, 0, 0, 0), (.getfield 105, 7, 12, 0, 0), (.iastore, 0, 0, 0, 0), (.iinc 1 1, 0, 0, 1, 0), (.goto (-56), 0, 0, 0, 0)] [vp_in (6 : Int32) 105, vp_in (((7 : Int32) + ((3 : Int32) * (w_read_6 6))) + b1_2) 105] [(1, .int (b1_2 + (1 : Int32))), (0, .ref 0)] [] (HM f_undone f_letters f_showing o11.2.1 o11.2.2.1 o11.2.2.2 f_laters f_places f_guesses f_ways f_now f_past f_images f_isKept f_text f_shown (upd w_read_6 ((((7 : Int32) + ((3 : Int32) * (w_read_6 6))) + b1_2)).toNatClampNeg o11.2.2.2) f_letter f_sizes f_laterNumber f_many f_labelAt f_soAt f_meets f_wayFrom f_wayTo f_wayBy f_reach f_goesOn f_far f_round f_line f_guessAt) (by decide +kernel) rfl (g_and (g_inb_in (by decide +kernel)) (g_and (g_inb_in h13) g_nil)) ?_
                refine g_loc (L2 := [(0, .ref 0), (1, .int (b1_2 + (1 : Int32)))]) [1, 0] rfl ?_
                exact ih _ _ _ _ _ hs
              · have hs := g_sat_t hs c12
                refine g_blk 55 [(.iconst 0, 0, 0, 0, 0)] [] [(0, .ref 0), (1, .int b1_2)] [.int (0 : Int32)] (HM f_undone f_letters f_showing o11.2.1 o11.2.2.1 o11.2.2.2 f_laters f_places f_guesses f_ways f_now f_past f_images f_isKept f_text f_shown w_read_6 f_letter f_sizes f_laterNumber f_many f_labelAt f_soAt f_meets f_wayFrom f_wayTo f_wayBy f_reach f_goesOn f_far f_round f_line f_guessAt) (by decide +kernel) rfl g_nil ?_
                have hq := hretM_takesMove_l1 _ (g_sat_s hs)
                exact g_zret hX (by decide +kernel) rfl (Or.inl rfl) hq
            refine g_brn 40 (.ifCond .ne 7) (b1_2 = 0) [.ref 0] (by decide +kernel) rfl (fun c15 => ?_) (fun c15 => ?_)
            · refine g_blk 48 [(.aload_n 0, 0, 0, 0, 0), (.getfield 29, 7, 9, 0, 0), (.iconst 0, 0, 0, 0, 0), (.iaload, 0, 0, 0, 0), (.iconst 1, 0, 0, 1, 0), (.isub, 0, 0, 0, 0)] [vp_in (0 : Int32) 105] [(0, .ref 0), (1, .int b1_2)] [.int ((w_read_6 0) - (1 : Int32)), .ref 0] (HM f_undone f_letters f_showing w_spot_3 w_tokenAt_4 w_value_5 f_laters f_places f_guesses f_ways f_now f_past f_images f_isKept f_text f_shown w_read_6 f_letter f_sizes f_laterNumber f_many f_labelAt f_soAt f_meets f_wayFrom f_wayTo f_wayBy f_reach f_goesOn f_far f_round f_line f_guessAt) (by decide +kernel) rfl (g_and (g_inb_in (by decide +kernel)) g_nil) ?_
              exact hJ13 _ (by rw [if_neg c15])
            · refine g_blk 48 [(.iconst 1, 0, 0, 1, 0), (.goto 11, 0, 0, 0, 0)] [] [(0, .ref 0), (1, .int b1_2)] [.int (1 : Int32), .ref 0] (HM f_undone f_letters f_showing w_spot_3 w_tokenAt_4 w_value_5 f_laters f_places f_guesses f_ways f_now f_past f_images f_isKept f_text f_shown w_read_6 f_letter f_sizes f_laterNumber f_many f_labelAt f_soAt f_meets f_wayFrom f_wayTo f_wayBy f_reach f_goesOn f_far f_round f_line f_guessAt) (by decide +kernel) rfl g_nil ?_
              exact hJ13 _ (by rw [if_pos c15])
      exact hlM_takesMove_l1 N _ _ _ _ _ hs
  · have hs := g_sat_t hs c1
    refine g_blk 13 [(.iconst 0, 0, 0, 0, 0)] [] [(0, .ref 0)] [.int (0 : Int32)] (HM f_undone f_letters f_showing f_spot f_tokenAt f_value f_laters f_places f_guesses f_ways f_now f_past f_images f_isKept f_text f_shown f_read f_letter f_sizes f_laterNumber f_many f_labelAt f_soAt f_meets f_wayFrom f_wayTo f_wayBy f_reach f_goesOn f_far f_round f_line f_guessAt) (by decide +kernel) rfl g_nil ?_
    have hq := g_sat_s hs
    exact g_zret hX (by decide +kernel) rfl (Or.inl rfl) hq
abbrev rm_M_readsSystem : Room := { frames := 4, cells := 0, slots := 0, locals := 85 }
def M_readsSystem_l1 : Nat → Int32 → (Nat → Int32) → Option (Nat → Int32)
  | 0, _, _ => none
  | n + 1, b1_1, w_read_2 => (if (37 : Int32) ≤ b1_1 then (some w_read_2) else (g_chk (g_inb b1_1 105) (M_readsSystem_l1 n (b1_1 + (1 : Int32)) (upd w_read_2 b1_1.toNatClampNeg (0 : Int32)))))
theorem M_readsSystem_l1_s (n : Nat) (b1_1 : Int32) (w_read_2 : Nat → Int32) : M_readsSystem_l1 (n + 1) b1_1 w_read_2 = (if (37 : Int32) ≤ b1_1 then (some w_read_2) else (g_chk (g_inb b1_1 105) (M_readsSystem_l1 n (b1_1 + (1 : Int32)) (upd w_read_2 b1_1.toNatClampNeg (0 : Int32))))) := rfl
def M_readsSystem_l2 (N : Nat) (f_letters : Int32) (f_text : Nat → Int32) : Nat → Int32 → Int32 → Int32 → Int32 → (Nat → Int32) → Option ((Int32 × Int32 × Int32 × Int32 × (Nat → Int32)) ⊕ (Int32 × Int32 × Int32 × Int32 × (Nat → Int32)))
  | 0, _, _, _, _, _ => none
  | n + 1, b1_7, w_spot_8, w_tokenAt_9, w_value_10, w_read_11 => (if f_letters ≤ w_spot_8 then (some (.inr (b1_7, w_spot_8, w_tokenAt_9, w_value_10, w_read_11))) else ((F_M_isAt f_letters w_spot_8 f_text (115 : Int32)).bind fun o14 => ((if o14 = 0 then ((F_M_isAt f_letters w_spot_8 f_text (109 : Int32)).bind fun o17 => (if o17 = 0 then (some ((0 : Int32), w_spot_8, w_tokenAt_9, w_value_10, w_read_11)) else ((F_M_takesMove N f_letters w_spot_8 w_tokenAt_9 w_value_10 f_text w_read_11).bind fun o19 => (if o19.1 = 0 then (some ((0 : Int32), o19.2.1, o19.2.2.1, o19.2.2.2.1, o19.2.2.2.2)) else (some ((1 : Int32), o19.2.1, o19.2.2.1, o19.2.2.2.1, o19.2.2.2.2)))))) else ((F_M_takesState N f_letters w_spot_8 w_tokenAt_9 w_value_10 f_text w_read_11).bind fun o21 => (some (o21.1, o21.2.1, o21.2.2.1, o21.2.2.2.1, o21.2.2.2.2)))).bind fun o16 => (if o16.1 = 0 then (some (.inl (((-10 : Int32) - o16.2.2.1), o16.2.1, o16.2.2.1, o16.2.2.2.1, o16.2.2.2.2))) else ((F_M_blanks N f_letters o16.2.1 f_text).bind fun o23 => (M_readsSystem_l2 N f_letters f_text n (b1_7 + (1 : Int32)) o23.1 o23.2 o16.2.2.2.1 o16.2.2.2.2))))))
theorem M_readsSystem_l2_s (N : Nat) (f_letters : Int32) (f_text : Nat → Int32) (n : Nat) (b1_7 : Int32) (w_spot_8 : Int32) (w_tokenAt_9 : Int32) (w_value_10 : Int32) (w_read_11 : Nat → Int32) : M_readsSystem_l2 N f_letters f_text (n + 1) b1_7 w_spot_8 w_tokenAt_9 w_value_10 w_read_11 = (if f_letters ≤ w_spot_8 then (some (.inr (b1_7, w_spot_8, w_tokenAt_9, w_value_10, w_read_11))) else ((F_M_isAt f_letters w_spot_8 f_text (115 : Int32)).bind fun o14 => ((if o14 = 0 then ((F_M_isAt f_letters w_spot_8 f_text (109 : Int32)).bind fun o17 => (if o17 = 0 then (some ((0 : Int32), w_spot_8, w_tokenAt_9, w_value_10, w_read_11)) else ((F_M_takesMove N f_letters w_spot_8 w_tokenAt_9 w_value_10 f_text w_read_11).bind fun o19 => (if o19.1 = 0 then (some ((0 : Int32), o19.2.1, o19.2.2.1, o19.2.2.2.1, o19.2.2.2.2)) else (some ((1 : Int32), o19.2.1, o19.2.2.1, o19.2.2.2.1, o19.2.2.2.2)))))) else ((F_M_takesState N f_letters w_spot_8 w_tokenAt_9 w_value_10 f_text w_read_11).bind fun o21 => (some (o21.1, o21.2.1, o21.2.2.1, o21.2.2.2.1, o21.2.2.2.2)))).bind fun o16 => (if o16.1 = 0 then (some (.inl (((-10 : Int32) - o16.2.2.1), o16.2.1, o16.2.2.1, o16.2.2.2.1, o16.2.2.2.2))) else ((F_M_blanks N f_letters o16.2.1 f_text).bind fun o23 => (M_readsSystem_l2 N f_letters f_text n (b1_7 + (1 : Int32)) o23.1 o23.2 o16.2.2.2.1 o16.2.2.2.2)))))) := rfl
def F_M_readsSystem (N : Nat) (f_letters : Int32) (f_value : Int32) (f_text : Nat → Int32) (f_read : Nat → Int32) : Option (Int32 × Int32 × Int32 × Int32 × (Nat → Int32)) := ((M_readsSystem_l1 N (0 : Int32) f_read).bind fun o3 => ((F_M_blanks N f_letters (0 : Int32) f_text).bind fun o6 => (g_el (fun a => a) (M_readsSystem_l2 N f_letters f_text N (0 : Int32) o6.1 o6.2 f_value o3) (fun o12 => (some (o12.1, o12.2.1, o12.2.2.1, o12.2.2.2.1, o12.2.2.2.2))))))
set_option maxRecDepth 100000 in
theorem ct_M_readsSystem (N : Nat) (f_undone : Int32) (f_letters : Int32) (f_showing : Int32) (f_spot : Int32) (f_tokenAt : Int32) (f_value : Int32) (f_laters : Int32) (f_places : Int32) (f_guesses : Int32) (f_ways : Int32) (f_now : Nat → Int32) (f_past : Nat → Int32) (f_images : Nat → Int32) (f_isKept : Nat → Int32) (f_text : Nat → Int32) (f_shown : Nat → Int32) (f_read : Nat → Int32) (f_letter : Nat → Int32) (f_sizes : Nat → Int32) (f_laterNumber : Nat → Int32) (f_many : Nat → Int32) (f_labelAt : Nat → Int32) (f_soAt : Nat → Int32) (f_meets : Nat → Int32) (f_wayFrom : Nat → Int32) (f_wayTo : Nat → Int32) (f_wayBy : Nat → Int32) (f_reach : Nat → Int64) (f_goesOn : Nat → Int32) (f_far : Nat → Int32) (f_round : Nat → Int32) (f_line : Nat → Int32) (f_guessAt : Nat → Int32) : g_F y_M_readsSystem c_M_readsSystem 3 (some .int) rm_M_readsSystem [.ref 0] (HM f_undone f_letters f_showing f_spot f_tokenAt f_value f_laters f_places f_guesses f_ways f_now f_past f_images f_isKept f_text f_shown f_read f_letter f_sizes f_laterNumber f_many f_labelAt f_soAt f_meets f_wayFrom f_wayTo f_wayBy f_reach f_goesOn f_far f_round f_line f_guessAt) (F_M_readsSystem N f_letters f_value f_text f_read) (fun o => some (.int o.1)) (fun o => (HM f_undone f_letters f_showing o.2.1 o.2.2.1 o.2.2.2.1 f_laters f_places f_guesses f_ways f_now f_past f_images f_isKept f_text f_shown o.2.2.2.2 f_letter f_sizes f_laterNumber f_many f_labelAt f_soAt f_meets f_wayFrom f_wayTo f_wayBy f_reach f_goesOn f_far f_round f_line f_guessAt)) := by
  intro l P hs
  refine g_ofG 7 (by decide +kernel) rfl (Nat.le_of_ble_eq_true rfl) (fun X hX => ?_)
  unfold F_M_readsSystem at hs
  refine g_loc (L2 := [(0, .ref 0)]) [0] rfl ?_
  refine g_blk 2 [(.iconst 0, 0, 0, 0, 0), (.istore_n 1, 0, 0, 0, 0)] [] [(1, .int (0 : Int32)), (0, .ref 0)] [] (HM f_undone f_letters f_showing f_spot f_tokenAt f_value f_laters f_places f_guesses f_ways f_now f_past f_images f_isKept f_text f_shown f_read f_letter f_sizes f_laterNumber f_many f_labelAt f_soAt f_meets f_wayFrom f_wayTo f_wayBy f_reach f_goesOn f_far f_round f_line f_guessAt) (by decide +kernel) rfl g_nil ?_
  refine g_loc (L2 := [(0, .ref 0), (1, .int (0 : Int32))]) [1, 0] rfl ?_
  refine g_join (fun (o3 : Nat → Int32) => g_G X rm_M_readsSystem c_M_readsSystem 3 7 (some .int) 21 [(0, .ref 0)] [] (HM f_undone f_letters f_showing f_spot f_tokenAt f_value f_laters f_places f_guesses f_ways f_now f_past f_images f_isKept f_text f_shown o3 f_letter f_sizes f_laterNumber f_many f_labelAt f_soAt f_meets f_wayFrom f_wayTo f_wayBy f_reach f_goesOn f_far f_round f_line f_guessAt)) hs (fun o3 hs => ?_) (fun hs => ?_)
  · refine g_blk 29 [(.aload_n 0, 0, 0, 0, 0), (.iconst 0, 0, 0, 0, 0), (.putfield 92, 7, 10, 1, 0), (.iconst 0, 0, 0, 0, 0), (.istore_n 1, 0, 0, 0, 0), (.aload_n 0, 0, 0, 0, 0)] [] [(1, .int (0 : Int32)), (0, .ref 0)] [.ref 0] (HM f_undone f_letters f_showing (0 : Int32) f_tokenAt f_value f_laters f_places f_guesses f_ways f_now f_past f_images f_isKept f_text f_shown o3 f_letter f_sizes f_laterNumber f_many f_labelAt f_soAt f_meets f_wayFrom f_wayTo f_wayBy f_reach f_goesOn f_far f_round f_line f_guessAt) (by decide +kernel) rfl g_nil ?_
    refine g_fM (ct_M_blanks N f_undone f_letters f_showing (0 : Int32) f_tokenAt f_value f_laters f_places f_guesses f_ways f_now f_past f_images f_isKept f_text f_shown o3 f_letter f_sizes f_laterNumber f_many f_labelAt f_soAt f_meets f_wayFrom f_wayTo f_wayBy f_reach f_goesOn f_far f_round f_line f_guessAt) 98 true 0 lk_7_98 (by decide +kernel) rfl ⟨rfl, rfl, by decide, by decide⟩ [] rfl (Nat.le_of_ble_eq_true rfl) (fun _ => ⟨0, 7, _, rfl, rfl, by decide, rfl⟩) hs (fun o6 hs => ?_)
    refine g_loc (L2 := [(0, .ref 0), (1, .int (0 : Int32))]) [1, 0] rfl ?_
    refine g_joinE (fun (o12 : Int32 × Int32 × Int32 × Int32 × (Nat → Int32)) => g_G X rm_M_readsSystem c_M_readsSystem 3 7 (some .int) 103 [(1, .int o12.1)] [] (HM f_undone f_letters f_showing o12.2.1 o12.2.2.1 o12.2.2.2.1 f_laters f_places f_guesses f_ways f_now f_past f_images f_isKept f_text f_shown o12.2.2.2.2 f_letter f_sizes f_laterNumber f_many f_labelAt f_soAt f_meets f_wayFrom f_wayTo f_wayBy f_reach f_goesOn f_far f_round f_line f_guessAt)) hs (fun o12 hs => ?_) (fun GPM_readsSystem_l2 hretM_readsSystem_l2 hexM_readsSystem_l2 hs => ?_)
    · refine g_blk 104 [(.iload_n 1, 0, 0, 0, 0)] [] [(1, .int o12.1)] [.int o12.1] (HM f_undone f_letters f_showing o12.2.1 o12.2.2.1 o12.2.2.2.1 f_laters f_places f_guesses f_ways f_now f_past f_images f_isKept f_text f_shown o12.2.2.2.2 f_letter f_sizes f_laterNumber f_many f_labelAt f_soAt f_meets f_wayFrom f_wayTo f_wayBy f_reach f_goesOn f_far f_round f_line f_guessAt) (by decide +kernel) rfl g_nil ?_
      have hq := g_sat_s hs
      exact g_iret hX (by decide +kernel) rfl hq
    · have hlM_readsSystem_l2 : ∀ (n : Nat) (b1_7 : Int32) (w_spot_8 : Int32) (w_tokenAt_9 : Int32) (w_value_10 : Int32) (w_read_11 : Nat → Int32), g_sat (M_readsSystem_l2 N f_letters f_text n b1_7 w_spot_8 w_tokenAt_9 w_value_10 w_read_11) GPM_readsSystem_l2 → g_G X rm_M_readsSystem c_M_readsSystem 3 7 (some .int) 32 [(0, .ref 0), (1, .int b1_7)] [] (HM f_undone f_letters f_showing w_spot_8 w_tokenAt_9 w_value_10 f_laters f_places f_guesses f_ways f_now f_past f_images f_isKept f_text f_shown w_read_11 f_letter f_sizes f_laterNumber f_many f_labelAt f_soAt f_meets f_wayFrom f_wayTo f_wayBy f_reach f_goesOn f_far f_round f_line f_guessAt) := by
        intro n
        induction n with
        | zero =>
          intro b1_7 w_spot_8 w_tokenAt_9 w_value_10 w_read_11 hs
          obtain ⟨_, h0, _⟩ := hs
          cases h0
        | succ n ih =>
          intro b1_7 w_spot_8 w_tokenAt_9 w_value_10 w_read_11 hs
          rw [M_readsSystem_l2_s] at hs
          refine g_blk 40 [(.aload_n 0, 0, 0, 0, 0), (.getfield 92, 7, 10, 0, 0), (.aload_n 0, 0, 0, 0, 0), (.getfield 89, 7, 6, 0, 0)] [] [(0, .ref 0), (1, .int b1_7)] [.int f_letters, .int w_spot_8] (HM f_undone f_letters f_showing w_spot_8 w_tokenAt_9 w_value_10 f_laters f_places f_guesses f_ways f_now f_past f_images f_isKept f_text f_shown w_read_11 f_letter f_sizes f_laterNumber f_many f_labelAt f_soAt f_meets f_wayFrom f_wayTo f_wayBy f_reach f_goesOn f_far f_round f_line f_guessAt) (by decide +kernel) rfl g_nil ?_
          refine g_br 103 (.if_icmp .ge 63) (f_letters ≤ w_spot_8) [] (by decide +kernel) rfl (fun c13 => ?_) (fun c13 => ?_)
          · have hs := g_sat_t hs c13
            refine g_loc (L2 := [(1, .int b1_7)]) [1] rfl ?_
            have hq := hexM_readsSystem_l2 _ (g_sat_s hs)
            exact hq
          · have hs := g_sat_f hs c13
            refine g_blk 46 [(.aload_n 0, 0, 0, 0, 0), (.bipush 115, 0, 0, 115, 0)] [] [(0, .ref 0), (1, .int b1_7)] [.int (115 : Int32), .ref 0] (HM f_undone f_letters f_showing w_spot_8 w_tokenAt_9 w_value_10 f_laters f_places f_guesses f_ways f_now f_past f_images f_isKept f_text f_shown w_read_11 f_letter f_sizes f_laterNumber f_many f_labelAt f_soAt f_meets f_wayFrom f_wayTo f_wayBy f_reach f_goesOn f_far f_round f_line f_guessAt) (by decide +kernel) rfl g_nil ?_
            refine g_fM (ct_M_isAt f_undone f_letters f_showing w_spot_8 w_tokenAt_9 w_value_10 f_laters f_places f_guesses f_ways f_now f_past f_images f_isKept f_text f_shown w_read_11 f_letter f_sizes f_laterNumber f_many f_labelAt f_soAt f_meets f_wayFrom f_wayTo f_wayBy f_reach f_goesOn f_far f_round f_line f_guessAt (115 : Int32)) 101 true 1 lk_7_101 (by decide +kernel) rfl ⟨rfl, rfl, by decide, by decide⟩ [] rfl (Nat.le_of_ble_eq_true rfl) (fun _ => ⟨0, 7, _, rfl, rfl, by decide, rfl⟩) hs (fun o14 hs => ?_)
            refine g_join (fun (o16 : Int32 × Int32 × Int32 × Int32 × (Nat → Int32)) => g_G X rm_M_readsSystem c_M_readsSystem 3 7 (some .int) 80 [(0, .ref 0), (1, .int b1_7)] [.int o16.1] (HM f_undone f_letters f_showing o16.2.1 o16.2.2.1 o16.2.2.2.1 f_laters f_places f_guesses f_ways f_now f_past f_images f_isKept f_text f_shown o16.2.2.2.2 f_letter f_sizes f_laterNumber f_many f_labelAt f_soAt f_meets f_wayFrom f_wayTo f_wayBy f_reach f_goesOn f_far f_round f_line f_guessAt)) hs (fun o16 hs => ?_) (fun hs => ?_)
            · refine g_blk 82 [(.istore_n 2, 0, 0, 0, 0), (.iload_n 2, 0, 0, 0, 0)] [] [(2, .int o16.1), (0, .ref 0), (1, .int b1_7)] [.int o16.1] (HM f_undone f_letters f_showing o16.2.1 o16.2.2.1 o16.2.2.2.1 f_laters f_places f_guesses f_ways f_now f_past f_images f_isKept f_text f_shown o16.2.2.2.2 f_letter f_sizes f_laterNumber f_many f_labelAt f_soAt f_meets f_wayFrom f_wayTo f_wayBy f_reach f_goesOn f_far f_round f_line f_guessAt) (by decide +kernel) rfl g_nil ?_
              refine g_brn 93 (.ifCond .ne 11) (o16.1 = 0) [] (by decide +kernel) rfl (fun c22 => ?_) (fun c22 => ?_)
              · have hs := g_sat_f hs c22
                refine g_blk 97 [(.iinc 1 1, 0, 0, 1, 0), (.aload_n 0, 0, 0, 0, 0)] [] [(1, .int (b1_7 + (1 : Int32))), (2, .int o16.1), (0, .ref 0)] [.ref 0] (HM f_undone f_letters f_showing o16.2.1 o16.2.2.1 o16.2.2.2.1 f_laters f_places f_guesses f_ways f_now f_past f_images f_isKept f_text f_shown o16.2.2.2.2 f_letter f_sizes f_laterNumber f_many f_labelAt f_soAt f_meets f_wayFrom f_wayTo f_wayBy f_reach f_goesOn f_far f_round f_line f_guessAt) (by decide +kernel) rfl g_nil ?_
                refine g_fM (ct_M_blanks N f_undone f_letters f_showing o16.2.1 o16.2.2.1 o16.2.2.2.1 f_laters f_places f_guesses f_ways f_now f_past f_images f_isKept f_text f_shown o16.2.2.2.2 f_letter f_sizes f_laterNumber f_many f_labelAt f_soAt f_meets f_wayFrom f_wayTo f_wayBy f_reach f_goesOn f_far f_round f_line f_guessAt) 98 true 0 lk_7_98 (by decide +kernel) rfl ⟨rfl, rfl, by decide, by decide⟩ [] rfl (Nat.le_of_ble_eq_true rfl) (fun _ => ⟨0, 7, _, rfl, rfl, by decide, rfl⟩) hs (fun o23 hs => ?_)
                refine g_blk 32 [(.goto (-68), 0, 0, 0, 0)] [] [(1, .int (b1_7 + (1 : Int32))), (2, .int o16.1), (0, .ref 0)] [] (HM f_undone f_letters f_showing o23.1 o23.2 o16.2.2.2.1 f_laters f_places f_guesses f_ways f_now f_past f_images f_isKept f_text f_shown o16.2.2.2.2 f_letter f_sizes f_laterNumber f_many f_labelAt f_soAt f_meets f_wayFrom f_wayTo f_wayBy f_reach f_goesOn f_far f_round f_line f_guessAt) (by decide +kernel) rfl g_nil ?_
                refine g_loc (L2 := [(0, .ref 0), (1, .int (b1_7 + (1 : Int32)))]) [2, 0] rfl ?_
                exact ih _ _ _ _ _ hs
              · have hs := g_sat_t hs c22
                refine g_blk 92 [(.bipush (-10), 0, 0, (-10), 0), (.aload_n 0, 0, 0, 0, 0), (.getfield 95, 7, 11, 0, 0), (.isub, 0, 0, 0, 0)] [] [(2, .int o16.1), (0, .ref 0), (1, .int b1_7)] [.int ((-10 : Int32) - o16.2.2.1)] (HM f_undone f_letters f_showing o16.2.1 o16.2.2.1 o16.2.2.2.1 f_laters f_places f_guesses f_ways f_now f_past f_images f_isKept f_text f_shown o16.2.2.2.2 f_letter f_sizes f_laterNumber f_many f_labelAt f_soAt f_meets f_wayFrom f_wayTo f_wayBy f_reach f_goesOn f_far f_round f_line f_guessAt) (by decide +kernel) rfl g_nil ?_
                have hq := hretM_readsSystem_l2 _ (g_sat_s hs)
                exact g_iret hX (by decide +kernel) rfl hq
            · refine g_br 59 (.ifCond .eq 10) (o14 = 0) [] (by decide +kernel) rfl (fun c15 => ?_) (fun c15 => ?_)
              · have hs := g_sat_t hs c15
                refine g_blk 62 [(.aload_n 0, 0, 0, 0, 0), (.bipush 109, 0, 0, 109, 0)] [] [(0, .ref 0), (1, .int b1_7)] [.int (109 : Int32), .ref 0] (HM f_undone f_letters f_showing w_spot_8 w_tokenAt_9 w_value_10 f_laters f_places f_guesses f_ways f_now f_past f_images f_isKept f_text f_shown w_read_11 f_letter f_sizes f_laterNumber f_many f_labelAt f_soAt f_meets f_wayFrom f_wayTo f_wayBy f_reach f_goesOn f_far f_round f_line f_guessAt) (by decide +kernel) rfl g_nil ?_
                refine g_fM (ct_M_isAt f_undone f_letters f_showing w_spot_8 w_tokenAt_9 w_value_10 f_laters f_places f_guesses f_ways f_now f_past f_images f_isKept f_text f_shown w_read_11 f_letter f_sizes f_laterNumber f_many f_labelAt f_soAt f_meets f_wayFrom f_wayTo f_wayBy f_reach f_goesOn f_far f_round f_line f_guessAt (109 : Int32)) 101 true 1 lk_7_101 (by decide +kernel) rfl ⟨rfl, rfl, by decide, by decide⟩ [] rfl (Nat.le_of_ble_eq_true rfl) (fun _ => ⟨0, 7, _, rfl, rfl, by decide, rfl⟩) hs (fun o17 hs => ?_)
                refine g_br 79 (.ifCond .eq 14) (o17 = 0) [] (by decide +kernel) rfl (fun c18 => ?_) (fun c18 => ?_)
                · have hs := g_sat_t hs c18
                  refine g_blk 80 [(.iconst 0, 0, 0, 0, 0)] [] [(0, .ref 0), (1, .int b1_7)] [.int (0 : Int32)] (HM f_undone f_letters f_showing w_spot_8 w_tokenAt_9 w_value_10 f_laters f_places f_guesses f_ways f_now f_past f_images f_isKept f_text f_shown w_read_11 f_letter f_sizes f_laterNumber f_many f_labelAt f_soAt f_meets f_wayFrom f_wayTo f_wayBy f_reach f_goesOn f_far f_round f_line f_guessAt) (by decide +kernel) rfl g_nil ?_
                  have hq := g_sat_s hs
                  exact hq
                · have hs := g_sat_f hs c18
                  refine g_blk 69 [(.aload_n 0, 0, 0, 0, 0)] [] [(0, .ref 0), (1, .int b1_7)] [.ref 0] (HM f_undone f_letters f_showing w_spot_8 w_tokenAt_9 w_value_10 f_laters f_places f_guesses f_ways f_now f_past f_images f_isKept f_text f_shown w_read_11 f_letter f_sizes f_laterNumber f_many f_labelAt f_soAt f_meets f_wayFrom f_wayTo f_wayBy f_reach f_goesOn f_far f_round f_line f_guessAt) (by decide +kernel) rfl g_nil ?_
                  refine g_fM (ct_M_takesMove N f_undone f_letters f_showing w_spot_8 w_tokenAt_9 w_value_10 f_laters f_places f_guesses f_ways f_now f_past f_images f_isKept f_text f_shown w_read_11 f_letter f_sizes f_laterNumber f_many f_labelAt f_soAt f_meets f_wayFrom f_wayTo f_wayBy f_reach f_goesOn f_far f_round f_line f_guessAt) 121 true 0 lk_7_121 (by decide +kernel) rfl ⟨rfl, rfl, by decide, by decide⟩ [] rfl (Nat.le_of_ble_eq_true rfl) (fun _ => ⟨0, 7, _, rfl, rfl, by decide, rfl⟩) hs (fun o19 hs => ?_)
                  refine g_br 79 (.ifCond .eq 7) (o19.1 = 0) [] (by decide +kernel) rfl (fun c20 => ?_) (fun c20 => ?_)
                  · have hs := g_sat_t hs c20
                    refine g_blk 80 [(.iconst 0, 0, 0, 0, 0)] [] [(0, .ref 0), (1, .int b1_7)] [.int (0 : Int32)] (HM f_undone f_letters f_showing o19.2.1 o19.2.2.1 o19.2.2.2.1 f_laters f_places f_guesses f_ways f_now f_past f_images f_isKept f_text f_shown o19.2.2.2.2 f_letter f_sizes f_laterNumber f_many f_labelAt f_soAt f_meets f_wayFrom f_wayTo f_wayBy f_reach f_goesOn f_far f_round f_line f_guessAt) (by decide +kernel) rfl g_nil ?_
                    have hq := g_sat_s hs
                    exact hq
                  · have hs := g_sat_f hs c20
                    refine g_blk 80 [(.iconst 1, 0, 0, 1, 0), (.goto 4, 0, 0, 0, 0)] [] [(0, .ref 0), (1, .int b1_7)] [.int (1 : Int32)] (HM f_undone f_letters f_showing o19.2.1 o19.2.2.1 o19.2.2.2.1 f_laters f_places f_guesses f_ways f_now f_past f_images f_isKept f_text f_shown o19.2.2.2.2 f_letter f_sizes f_laterNumber f_many f_labelAt f_soAt f_meets f_wayFrom f_wayTo f_wayBy f_reach f_goesOn f_far f_round f_line f_guessAt) (by decide +kernel) rfl g_nil ?_
                    have hq := g_sat_s hs
                    exact hq
              · have hs := g_sat_f hs c15
                refine g_blk 53 [(.aload_n 0, 0, 0, 0, 0)] [] [(0, .ref 0), (1, .int b1_7)] [.ref 0] (HM f_undone f_letters f_showing w_spot_8 w_tokenAt_9 w_value_10 f_laters f_places f_guesses f_ways f_now f_past f_images f_isKept f_text f_shown w_read_11 f_letter f_sizes f_laterNumber f_many f_labelAt f_soAt f_meets f_wayFrom f_wayTo f_wayBy f_reach f_goesOn f_far f_round f_line f_guessAt) (by decide +kernel) rfl g_nil ?_
                refine g_fM (ct_M_takesState N f_undone f_letters f_showing w_spot_8 w_tokenAt_9 w_value_10 f_laters f_places f_guesses f_ways f_now f_past f_images f_isKept f_text f_shown w_read_11 f_letter f_sizes f_laterNumber f_many f_labelAt f_soAt f_meets f_wayFrom f_wayTo f_wayBy f_reach f_goesOn f_far f_round f_line f_guessAt) 118 true 0 lk_7_118 (by decide +kernel) rfl ⟨rfl, rfl, by decide, by decide⟩ [] rfl (Nat.le_of_ble_eq_true rfl) (fun _ => ⟨0, 7, _, rfl, rfl, by decide, rfl⟩) hs (fun o21 hs => ?_)
                refine g_blk 80 [(.goto 24, 0, 0, 0, 0)] [] [(0, .ref 0), (1, .int b1_7)] [.int o21.1] (HM f_undone f_letters f_showing o21.2.1 o21.2.2.1 o21.2.2.2.1 f_laters f_places f_guesses f_ways f_now f_past f_images f_isKept f_text f_shown o21.2.2.2.2 f_letter f_sizes f_laterNumber f_many f_labelAt f_soAt f_meets f_wayFrom f_wayTo f_wayBy f_reach f_goesOn f_far f_round f_line f_guessAt) (by decide +kernel) rfl g_nil ?_
                have hq := g_sat_s hs
                exact hq
      exact hlM_readsSystem_l2 N _ _ _ _ _ hs
  · have hlM_readsSystem_l1 : ∀ (n : Nat) (b1_1 : Int32) (w_read_2 : Nat → Int32), g_sat (M_readsSystem_l1 n b1_1 w_read_2) (fun (o3 : Nat → Int32) => g_G X rm_M_readsSystem c_M_readsSystem 3 7 (some .int) 21 [(0, .ref 0)] [] (HM f_undone f_letters f_showing f_spot f_tokenAt f_value f_laters f_places f_guesses f_ways f_now f_past f_images f_isKept f_text f_shown o3 f_letter f_sizes f_laterNumber f_many f_labelAt f_soAt f_meets f_wayFrom f_wayTo f_wayBy f_reach f_goesOn f_far f_round f_line f_guessAt)) → g_G X rm_M_readsSystem c_M_readsSystem 3 7 (some .int) 2 [(0, .ref 0), (1, .int b1_1)] [] (HM f_undone f_letters f_showing f_spot f_tokenAt f_value f_laters f_places f_guesses f_ways f_now f_past f_images f_isKept f_text f_shown w_read_2 f_letter f_sizes f_laterNumber f_many f_labelAt f_soAt f_meets f_wayFrom f_wayTo f_wayBy f_reach f_goesOn f_far f_round f_line f_guessAt) := by
      intro n
      induction n with
      | zero =>
        intro b1_1 w_read_2 hs
        obtain ⟨_, h0, _⟩ := hs
        cases h0
      | succ n ih =>
        intro b1_1 w_read_2 hs
        rw [M_readsSystem_l1_s] at hs
        refine g_blk 5 [(.iload_n 1, 0, 0, 0, 0), (.bipush 37, 0, 0, 37, 0)] [] [(0, .ref 0), (1, .int b1_1)] [.int (37 : Int32), .int b1_1] (HM f_undone f_letters f_showing f_spot f_tokenAt f_value f_laters f_places f_guesses f_ways f_now f_past f_images f_isKept f_text f_shown w_read_2 f_letter f_sizes f_laterNumber f_many f_labelAt f_soAt f_meets f_wayFrom f_wayTo f_wayBy f_reach f_goesOn f_far f_round f_line f_guessAt) (by decide +kernel) rfl g_nil ?_
        refine g_br 21 (.if_icmp .ge 16) ((37 : Int32) ≤ b1_1) [] (by decide +kernel) rfl (fun c4 => ?_) (fun c4 => ?_)
        · have hs := g_sat_t hs c4
          refine g_loc (L2 := [(0, .ref 0)]) [0] rfl ?_
          have hq := g_sat_s hs
          exact hq
        · have hs := g_sat_f hs c4
          obtain ⟨h5, hs⟩ := g_sat_c hs
          refine g_blk 2 [(.aload_n 0, 0, 0, 0, 0), (.getfield 29, 7, 9, 0, 0), (.iload_n 1, 0, 0, 0, 0), (.iconst 0, 0, 0, 0, 0), (.iastore, 0, 0, 0, 0), (.iinc 1 1, 0, 0, 1, 0), (.goto (-16), 0, 0, 0, 0)] [vp_in b1_1 105] [(1, .int (b1_1 + (1 : Int32))), (0, .ref 0)] [] (HM f_undone f_letters f_showing f_spot f_tokenAt f_value f_laters f_places f_guesses f_ways f_now f_past f_images f_isKept f_text f_shown (upd w_read_2 b1_1.toNatClampNeg (0 : Int32)) f_letter f_sizes f_laterNumber f_many f_labelAt f_soAt f_meets f_wayFrom f_wayTo f_wayBy f_reach f_goesOn f_far f_round f_line f_guessAt) (by decide +kernel) rfl (g_and (g_inb_in h5) g_nil) ?_
          refine g_loc (L2 := [(0, .ref 0), (1, .int (b1_1 + (1 : Int32)))]) [1, 0] rfl ?_
          exact ih _ _ hs
    exact hlM_readsSystem_l1 N _ _ hs
abbrev rm_M_system : Room := { frames := 5, cells := 0, slots := 0, locals := 107 }
def M_system_l1 (o1 : Int32 × Int32 × Int32 × Int32 × (Nat → Int32)) : Nat → Int32 → (Nat → Int32) → Option (Nat → Int32)
  | 0, _, _ => none
  | n + 1, b2_4, w_now_5 => (if (37 : Int32) ≤ b2_4 then (some w_now_5) else (g_chk (g_inb b2_4 105) (g_chk (g_inb b2_4 105) (M_system_l1 o1 n (b2_4 + (1 : Int32)) (upd w_now_5 b2_4.toNatClampNeg (o1.2.2.2.2 b2_4.toNatClampNeg))))))
theorem M_system_l1_s (o1 : Int32 × Int32 × Int32 × Int32 × (Nat → Int32)) (n : Nat) (b2_4 : Int32) (w_now_5 : Nat → Int32) : M_system_l1 o1 (n + 1) b2_4 w_now_5 = (if (37 : Int32) ≤ b2_4 then (some w_now_5) else (g_chk (g_inb b2_4 105) (g_chk (g_inb b2_4 105) (M_system_l1 o1 n (b2_4 + (1 : Int32)) (upd w_now_5 b2_4.toNatClampNeg (o1.2.2.2.2 b2_4.toNatClampNeg)))))) := rfl
def F_M_system (N : Nat) (f_undone : Int32) (f_letters : Int32) (f_value : Int32) (f_now : Nat → Int32) (f_past : Nat → Int32) (f_text : Nat → Int32) (f_read : Nat → Int32) : Option (Int32 × Int32 × Int32 × Int32 × Int32 × Int32 × (Nat → Int32) × (Nat → Int32) × (Nat → Int32)) := ((F_M_readsSystem N f_letters f_value f_text f_read).bind fun o1 => (if 0 ≤ o1.1 then ((F_M_remembers N f_undone f_now f_past).bind fun o3 => ((M_system_l1 o1 N (0 : Int32) f_now).bind fun o6 => (some (o1.1, o3.1, (0 : Int32), o1.2.1, o1.2.2.1, o1.2.2.2.1, o6, o3.2, o1.2.2.2.2)))) else (some (o1.1, f_undone, f_letters, o1.2.1, o1.2.2.1, o1.2.2.2.1, f_now, f_past, o1.2.2.2.2))))
set_option maxRecDepth 100000 in
theorem ct_M_system (N : Nat) (f_undone : Int32) (f_letters : Int32) (f_showing : Int32) (f_spot : Int32) (f_tokenAt : Int32) (f_value : Int32) (f_laters : Int32) (f_places : Int32) (f_guesses : Int32) (f_ways : Int32) (f_now : Nat → Int32) (f_past : Nat → Int32) (f_images : Nat → Int32) (f_isKept : Nat → Int32) (f_text : Nat → Int32) (f_shown : Nat → Int32) (f_read : Nat → Int32) (f_letter : Nat → Int32) (f_sizes : Nat → Int32) (f_laterNumber : Nat → Int32) (f_many : Nat → Int32) (f_labelAt : Nat → Int32) (f_soAt : Nat → Int32) (f_meets : Nat → Int32) (f_wayFrom : Nat → Int32) (f_wayTo : Nat → Int32) (f_wayBy : Nat → Int32) (f_reach : Nat → Int64) (f_goesOn : Nat → Int32) (f_far : Nat → Int32) (f_round : Nat → Int32) (f_line : Nat → Int32) (f_guessAt : Nat → Int32) : g_F y_M_system c_M_system 3 (some .int) rm_M_system [.ref 0] (HM f_undone f_letters f_showing f_spot f_tokenAt f_value f_laters f_places f_guesses f_ways f_now f_past f_images f_isKept f_text f_shown f_read f_letter f_sizes f_laterNumber f_many f_labelAt f_soAt f_meets f_wayFrom f_wayTo f_wayBy f_reach f_goesOn f_far f_round f_line f_guessAt) (F_M_system N f_undone f_letters f_value f_now f_past f_text f_read) (fun o => some (.int o.1)) (fun o => (HM o.2.1 o.2.2.1 f_showing o.2.2.2.1 o.2.2.2.2.1 o.2.2.2.2.2.1 f_laters f_places f_guesses f_ways o.2.2.2.2.2.2.1 o.2.2.2.2.2.2.2.1 f_images f_isKept f_text f_shown o.2.2.2.2.2.2.2.2 f_letter f_sizes f_laterNumber f_many f_labelAt f_soAt f_meets f_wayFrom f_wayTo f_wayBy f_reach f_goesOn f_far f_round f_line f_guessAt)) := by
  intro l P hs
  refine g_ofG 7 (by decide +kernel) rfl (Nat.le_of_ble_eq_true rfl) (fun X hX => ?_)
  unfold F_M_system at hs
  refine g_loc (L2 := [(0, .ref 0)]) [0] rfl ?_
  refine g_blk 1 [(.aload_n 0, 0, 0, 0, 0)] [] [(0, .ref 0)] [.ref 0] (HM f_undone f_letters f_showing f_spot f_tokenAt f_value f_laters f_places f_guesses f_ways f_now f_past f_images f_isKept f_text f_shown f_read f_letter f_sizes f_laterNumber f_many f_labelAt f_soAt f_meets f_wayFrom f_wayTo f_wayBy f_reach f_goesOn f_far f_round f_line f_guessAt) (by decide +kernel) rfl g_nil ?_
  refine g_fM (ct_M_readsSystem N f_undone f_letters f_showing f_spot f_tokenAt f_value f_laters f_places f_guesses f_ways f_now f_past f_images f_isKept f_text f_shown f_read f_letter f_sizes f_laterNumber f_many f_labelAt f_soAt f_meets f_wayFrom f_wayTo f_wayBy f_reach f_goesOn f_far f_round f_line f_guessAt) 124 true 0 lk_7_124 (by decide +kernel) rfl ⟨rfl, rfl, by decide, by decide⟩ [] rfl (Nat.le_of_ble_eq_true rfl) (fun _ => ⟨0, 7, _, rfl, rfl, by decide, rfl⟩) hs (fun o1 hs => ?_)
  refine g_blk 6 [(.istore_n 1, 0, 0, 0, 0), (.iload_n 1, 0, 0, 0, 0)] [] [(1, .int o1.1), (0, .ref 0)] [.int o1.1] (HM f_undone f_letters f_showing o1.2.1 o1.2.2.1 o1.2.2.2.1 f_laters f_places f_guesses f_ways f_now f_past f_images f_isKept f_text f_shown o1.2.2.2.2 f_letter f_sizes f_laterNumber f_many f_labelAt f_soAt f_meets f_wayFrom f_wayTo f_wayBy f_reach f_goesOn f_far f_round f_line f_guessAt) (by decide +kernel) rfl g_nil ?_
  refine g_br 11 (.ifCond .ge 5) (0 ≤ o1.1) [] (by decide +kernel) rfl (fun c2 => ?_) (fun c2 => ?_)
  · have hs := g_sat_t hs c2
    refine g_blk 12 [(.aload_n 0, 0, 0, 0, 0)] [] [(1, .int o1.1), (0, .ref 0)] [.ref 0] (HM f_undone f_letters f_showing o1.2.1 o1.2.2.1 o1.2.2.2.1 f_laters f_places f_guesses f_ways f_now f_past f_images f_isKept f_text f_shown o1.2.2.2.2 f_letter f_sizes f_laterNumber f_many f_labelAt f_soAt f_meets f_wayFrom f_wayTo f_wayBy f_reach f_goesOn f_far f_round f_line f_guessAt) (by decide +kernel) rfl g_nil ?_
    refine g_fM (ct_M_remembers N f_undone f_letters f_showing o1.2.1 o1.2.2.1 o1.2.2.2.1 f_laters f_places f_guesses f_ways f_now f_past f_images f_isKept f_text f_shown o1.2.2.2.2 f_letter f_sizes f_laterNumber f_many f_labelAt f_soAt f_meets f_wayFrom f_wayTo f_wayBy f_reach f_goesOn f_far f_round f_line f_guessAt) 128 true 0 lk_7_128 (by decide +kernel) rfl ⟨rfl, rfl, by decide, by decide⟩ [] rfl (Nat.le_of_ble_eq_true rfl) (fun _ => ⟨0, 7, _, rfl, rfl, by decide, rfl⟩) hs (fun o3 hs => ?_)
    refine g_blk 17 [(.iconst 0, 0, 0, 0, 0), (.istore_n 2, 0, 0, 0, 0)] [] [(2, .int (0 : Int32)), (1, .int o1.1), (0, .ref 0)] [] (HM o3.1 f_letters f_showing o1.2.1 o1.2.2.1 o1.2.2.2.1 f_laters f_places f_guesses f_ways f_now o3.2 f_images f_isKept f_text f_shown o1.2.2.2.2 f_letter f_sizes f_laterNumber f_many f_labelAt f_soAt f_meets f_wayFrom f_wayTo f_wayBy f_reach f_goesOn f_far f_round f_line f_guessAt) (by decide +kernel) rfl g_nil ?_
    refine g_loc (L2 := [(0, .ref 0), (1, .int o1.1), (2, .int (0 : Int32))]) [2, 1, 0] rfl ?_
    refine g_join (fun (o6 : Nat → Int32) => g_G X rm_M_system c_M_system 3 7 (some .int) 41 [(0, .ref 0), (1, .int o1.1)] [] (HM o3.1 f_letters f_showing o1.2.1 o1.2.2.1 o1.2.2.2.1 f_laters f_places f_guesses f_ways o6 o3.2 f_images f_isKept f_text f_shown o1.2.2.2.2 f_letter f_sizes f_laterNumber f_many f_labelAt f_soAt f_meets f_wayFrom f_wayTo f_wayBy f_reach f_goesOn f_far f_round f_line f_guessAt)) hs (fun o6 hs => ?_) (fun hs => ?_)
    · refine g_blk 47 [(.aload_n 0, 0, 0, 0, 0), (.iconst 0, 0, 0, 0, 0), (.putfield 89, 7, 6, 1, 0), (.iload_n 1, 0, 0, 0, 0)] [] [(0, .ref 0), (1, .int o1.1)] [.int o1.1] (HM o3.1 (0 : Int32) f_showing o1.2.1 o1.2.2.1 o1.2.2.2.1 f_laters f_places f_guesses f_ways o6 o3.2 f_images f_isKept f_text f_shown o1.2.2.2.2 f_letter f_sizes f_laterNumber f_many f_labelAt f_soAt f_meets f_wayFrom f_wayTo f_wayBy f_reach f_goesOn f_far f_round f_line f_guessAt) (by decide +kernel) rfl g_nil ?_
      have hq := g_sat_s hs
      exact g_iret hX (by decide +kernel) rfl hq
    · have hlM_system_l1 : ∀ (n : Nat) (b2_4 : Int32) (w_now_5 : Nat → Int32), g_sat (M_system_l1 o1 n b2_4 w_now_5) (fun (o6 : Nat → Int32) => g_G X rm_M_system c_M_system 3 7 (some .int) 41 [(0, .ref 0), (1, .int o1.1)] [] (HM o3.1 f_letters f_showing o1.2.1 o1.2.2.1 o1.2.2.2.1 f_laters f_places f_guesses f_ways o6 o3.2 f_images f_isKept f_text f_shown o1.2.2.2.2 f_letter f_sizes f_laterNumber f_many f_labelAt f_soAt f_meets f_wayFrom f_wayTo f_wayBy f_reach f_goesOn f_far f_round f_line f_guessAt)) → g_G X rm_M_system c_M_system 3 7 (some .int) 17 [(0, .ref 0), (1, .int o1.1), (2, .int b2_4)] [] (HM o3.1 f_letters f_showing o1.2.1 o1.2.2.1 o1.2.2.2.1 f_laters f_places f_guesses f_ways w_now_5 o3.2 f_images f_isKept f_text f_shown o1.2.2.2.2 f_letter f_sizes f_laterNumber f_many f_labelAt f_soAt f_meets f_wayFrom f_wayTo f_wayBy f_reach f_goesOn f_far f_round f_line f_guessAt) := by
        intro n
        induction n with
        | zero =>
          intro b2_4 w_now_5 hs
          obtain ⟨_, h0, _⟩ := hs
          cases h0
        | succ n ih =>
          intro b2_4 w_now_5 hs
          rw [M_system_l1_s] at hs
          refine g_blk 20 [(.iload_n 2, 0, 0, 0, 0), (.bipush 37, 0, 0, 37, 0)] [] [(0, .ref 0), (1, .int o1.1), (2, .int b2_4)] [.int (37 : Int32), .int b2_4] (HM o3.1 f_letters f_showing o1.2.1 o1.2.2.1 o1.2.2.2.1 f_laters f_places f_guesses f_ways w_now_5 o3.2 f_images f_isKept f_text f_shown o1.2.2.2.2 f_letter f_sizes f_laterNumber f_many f_labelAt f_soAt f_meets f_wayFrom f_wayTo f_wayBy f_reach f_goesOn f_far f_round f_line f_guessAt) (by decide +kernel) rfl g_nil ?_
          refine g_br 41 (.if_icmp .ge 21) ((37 : Int32) ≤ b2_4) [] (by decide +kernel) rfl (fun c7 => ?_) (fun c7 => ?_)
          · have hs := g_sat_t hs c7
            refine g_loc (L2 := [(0, .ref 0), (1, .int o1.1)]) [0, 1] rfl ?_
            have hq := g_sat_s hs
            exact hq
          · have hs := g_sat_f hs c7
            obtain ⟨h8, hs⟩ := g_sat_c hs
            obtain ⟨h9, hs⟩ := g_sat_c hs
            refine g_blk 17 [(.aload_n 0, 0, 0, 0, 0), (.getfield 7, 7, 0, 0, 0), (.iload_n 2, 0, 0, 0, 0), (.aload_n 0, 0, 0, 0, 0), (.getfield 29, 7, 9, 0, 0), (.iload_n 2, 0, 0, 0, 0), (.iaload, 0, 0, 0, 0), (.iastore, 0, 0, 0, 0), (.iinc 2 1, 0, 0, 1, 0), (.goto (-21), 0, 0, 0, 0)] [vp_in b2_4 105, vp_in b2_4 105] [(2, .int (b2_4 + (1 : Int32))), (0, .ref 0), (1, .int o1.1)] [] (HM o3.1 f_letters f_showing o1.2.1 o1.2.2.1 o1.2.2.2.1 f_laters f_places f_guesses f_ways (upd w_now_5 b2_4.toNatClampNeg (o1.2.2.2.2 b2_4.toNatClampNeg)) o3.2 f_images f_isKept f_text f_shown o1.2.2.2.2 f_letter f_sizes f_laterNumber f_many f_labelAt f_soAt f_meets f_wayFrom f_wayTo f_wayBy f_reach f_goesOn f_far f_round f_line f_guessAt) (by decide +kernel) rfl (g_and (g_inb_in h8) (g_and (g_inb_in h9) g_nil)) ?_
            refine g_loc (L2 := [(0, .ref 0), (1, .int o1.1), (2, .int (b2_4 + (1 : Int32)))]) [1, 2, 0] rfl ?_
            exact ih _ _ hs
      exact hlM_system_l1 N _ _ hs
  · have hs := g_sat_f hs c2
    refine g_blk 10 [(.iload_n 1, 0, 0, 0, 0)] [] [(1, .int o1.1), (0, .ref 0)] [.int o1.1] (HM f_undone f_letters f_showing o1.2.1 o1.2.2.1 o1.2.2.2.1 f_laters f_places f_guesses f_ways f_now f_past f_images f_isKept f_text f_shown o1.2.2.2.2 f_letter f_sizes f_laterNumber f_many f_labelAt f_soAt f_meets f_wayFrom f_wayTo f_wayBy f_reach f_goesOn f_far f_round f_line f_guessAt) (by decide +kernel) rfl g_nil ?_
    have hq := g_sat_s hs
    exact g_iret hX (by decide +kernel) rfl hq
