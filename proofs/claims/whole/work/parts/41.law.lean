set_option maxHeartbeats 8000000 in
set_option maxRecDepth 100000 in
/-- the law's loop: from its head, with the relation, to the end with 1 -/
theorem law_loop (Rel : List g_E → List g_E → Prop) (hok : g_relok Rel)
    (op_type : ∀ (a1 : Int32), g_op Rel y_L_type y_M_type c_L_type c_M_type 2 2 rm_L_type rm_M_type [.int a1])
    (op_clear : ∀ (_ : Unit), g_op Rel y_L_clear y_M_clear c_L_clear c_M_clear 2 2 rm_L_clear rm_M_clear [])
    (op_system : ∀ (_ : Unit), g_op Rel y_L_system y_M_system c_L_system c_M_system 2 3 rm_L_system rm_M_system [])
    (op_formula : ∀ (_ : Unit), g_op Rel y_L_formula y_M_formula c_L_formula c_M_formula 2 3 rm_L_formula rm_M_formula [])
    (op_labels : ∀ (a1 : Int32) (a2 : Int32), g_op Rel y_L_labels y_M_labels c_L_labels c_M_labels 4 4 rm_L_labels rm_M_labels [.int a1, .int a2])
    (op_moves : ∀ (a1 : Int32) (a2 : Int32) (a3 : Int32), g_op Rel y_L_moves y_M_moves c_L_moves c_M_moves 4 5 rm_L_moves rm_M_moves [.int a1, .int a2, .int a3])
    (op_takes : ∀ (a1 : Int32), g_op Rel y_L_takes y_M_takes c_L_takes c_M_takes 2 3 rm_L_takes rm_M_takes [.int a1])
    (op_stores : ∀ (a1 : Int32), g_op Rel y_L_stores y_M_stores c_L_stores c_M_stores 2 2 rm_L_stores rm_M_stores [.int a1])
    (op_fetches : ∀ (a1 : Int32), g_op Rel y_L_fetches y_M_fetches c_L_fetches c_M_fetches 2 2 rm_L_fetches rm_M_fetches [.int a1])
    (op_undo : ∀ (_ : Unit), g_op Rel y_L_undo y_M_undo c_L_undo c_M_undo 1 2 rm_L_undo rm_M_undo [])
    (op_label : ∀ (a1 : Int32), g_op Rel y_L_label y_M_label c_L_label c_M_label 2 2 rm_L_label rm_M_label [.int a1])
    (op_move : ∀ (a1 : Int32) (a2 : Int32), g_op Rel y_L_move y_M_move c_L_move c_M_move 3 3 rm_L_move rm_M_move [.int a1, .int a2])
    (op_part : ∀ (a1 : Int32) (a2 : Int32), g_op Rel y_L_part y_M_part c_L_part c_M_part 3 3 rm_L_part rm_M_part [.int a1, .int a2])
    (op_holds : ∀ (a1 : Int32) (a2 : Int32), g_op Rel y_L_holds y_M_holds c_L_holds c_M_holds 3 3 rm_L_holds rm_M_holds [.int a1, .int a2])
    (op_where : ∀ (a1 : Int32), g_op Rel y_L_where y_M_where c_L_where c_M_where 6 2 rm_L_where rm_M_where [.int a1])
    (op_some : ∀ (a1 : Int32), g_op Rel y_L_some y_M_some c_L_some c_M_some 4 2 rm_L_some rm_M_some [.int a1])
    (op_breaks : ∀ (a1 : Int32) (a2 : Int32), g_op Rel y_L_breaks y_M_breaks c_L_breaks c_M_breaks 3 3 rm_L_breaks rm_M_breaks [.int a1, .int a2])
    (op_against : ∀ (a1 : Int32) (a2 : Int32), g_op Rel y_L_against y_M_against c_L_against c_M_against 8 3 rm_L_against rm_M_against [.int a1, .int a2])
    (op_shows : ∀ (a1 : Int32), g_op Rel y_L_shows y_M_shows c_L_shows c_M_shows 2 2 rm_L_shows rm_M_shows [.int a1])
    (op_hides : ∀ (_ : Unit), g_op Rel y_L_hides y_M_hides c_L_hides c_M_hides 2 2 rm_L_hides rm_M_hides [])
    (op_judged : ∀ (a1 : Int32), g_op Rel y_L_judged y_M_judged c_L_judged c_M_judged 4 2 rm_L_judged rm_M_judged [.int a1])
    (op_keep : ∀ (a1 : Int32), g_op Rel y_L_keep y_M_keep c_L_keep c_M_keep 2 3 rm_L_keep rm_M_keep [.int a1])
    (op_back : ∀ (a1 : Int32), g_op Rel y_L_back y_M_back c_L_back c_M_back 2 3 rm_L_back rm_M_back [.int a1])
    (op_count : ∀ (a1 : Int32), g_op Rel y_L_count y_M_count c_L_count c_M_count 2 2 rm_L_count rm_M_count [.int a1])
    {b Ls : Nat} {xs : Nat → Int32} {c0 s0 : Nat} {X : g_X} (hLs : Ls ≤ 2048) (hX : g_AtL b Ls xs c0 s0 X) (h1 : c0 ≤ 600000) (h2 : s0 ≤ 7302249) : ∀ (n k : Nat) (hl hm : List g_E), Ls + 4 ≤ k + 4 * n → k ≤ Ls → Rel hl hm → g_G X room_1 code 4 8 ret 18 [(0, .ref 1000), (1, .ref 0), (2, .ref 172), (3, .int (nI k))] [] (g_two hl hm) := by
  intro n
  induction n with
  | zero =>
    intro k hl hm hk hk2
    omega
  | succ n ih =>
    intro k hl hm hk hk2 hrel
    have hend : ∀ hl2 hm2, Rel hl2 hm2 → k + 4 ≤ Ls → g_G X room_1 code 4 8 ret 726 [(0, .ref 1000), (1, .ref 0), (2, .ref 172), (3, .int (nI k))] [] (g_two hl2 hm2) := by
      intro hl2 hm2 hrel2 hk4
      refine g_blk 18 [(.iinc 3 4, 0, 0, 4, 0), (.goto (-711), 0, 0, 0, 0)] [] [(3, .int (nI k + 4)), (0, .ref 1000), (1, .ref 0), (2, .ref 172)] [] (g_two hl2 hm2) (by decide +kernel) rfl g_nil ?_
      refine g_loc (L2 := [(0, .ref 1000), (1, .ref 0), (2, .ref 172), (3, .int (nI (k + 4)))]) [1, 2, 3, 0] (by rw [show nI k + 4 = nI (k + 4) from nI_add k 4]; rfl) ?_
      exact ih (k + 4) hl2 hm2 (by omega) hk4 hrel2
    refine g_blk 20 [(.iload_n 3, 0, 0, 0, 0), (.aload_n 0, 0, 0, 0, 0)] [] [(0, .ref 1000), (1, .ref 0), (2, .ref 172), (3, .int (nI k))] [.ref 1000, .int (nI k)] (g_two hl hm) (by decide +kernel) rfl g_nil ?_
    refine g_slen hX (by decide +kernel) ?_
    refine g_blk 23 [(.iconst 4, 0, 0, 4, 0), (.isub, 0, 0, 0, 0)] [] [(0, .ref 1000), (1, .ref 0), (2, .ref 172), (3, .int (nI k))] [.int (Int32.ofNat Ls - 4), .int (nI k)] (g_two hl hm) (by decide +kernel) rfl g_nil ?_
    refine g_br 732 (.if_icmp .gt 709) (Int32.ofNat Ls - 4 < nI k) [] (by decide +kernel) rfl (fun hc => ?_) (fun hc => ?_)
    · refine g_blk 733 [(.iconst 1, 0, 0, 1, 0)] [] [(0, .ref 1000), (1, .ref 0), (2, .ref 172), (3, .int (nI k))] [.int 1] (g_two hl hm) (by decide +kernel) rfl g_nil ?_
      exact g_lret1 hX (by decide +kernel) h1 h2
    · have hk4 : k + 4 ≤ Ls := by
        have h9 : ¬ (Int32.ofNat Ls - 4).toInt < (nI k).toInt := fun z => hc (Int32.lt_iff_toInt_lt.mpr z)
        have h10 := pk_sub_toInt (a := Ls) (b := 4) (by omega) (by omega)
        rw [nI_toInt (by omega)] at h9
        have h11 : (Int32.ofNat Ls - 4).toInt = (Ls : Int) - 4 := h10
        omega
      have hend := fun hl2 hm2 h => hend hl2 hm2 h hk4
      have h0 : vp_in (nI k) Ls := vp_in_nI (by omega) (by omega)
      have h1 : vp_in (nI k + 1) Ls := by rw [show nI k + 1 = nI (k + 1) from nI_add k 1]; exact vp_in_nI (by omega) (by omega)
      have h2 : vp_in (nI k + 2) Ls := by rw [show nI k + 2 = nI (k + 2) from nI_add k 2]; exact vp_in_nI (by omega) (by omega)
      have h3 : vp_in (nI k + 3) Ls := by rw [show nI k + 3 = nI (k + 3) from nI_add k 3]; exact vp_in_nI (by omega) (by omega)
      refine g_blk 28 [(.aload_n 0, 0, 0, 0, 0), (.iload_n 3, 0, 0, 0, 0)] [] [(0, .ref 1000), (1, .ref 0), (2, .ref 172), (3, .int (nI k))] [.int (nI k), .ref 1000] (g_two hl hm) (by decide +kernel) rfl g_nil ?_
      refine g_sld hX (by decide +kernel) h0 ?_
      refine g_blk 32 [(.bipush 31, 0, 0, 31, 0), (.iand, 0, 0, 0, 0)] [] [(0, .ref 1000), (1, .ref 0), (2, .ref 172), (3, .int (nI k))] [.int (xs (nI k).toNatClampNeg &&& 31)] (g_two hl hm) (by decide +kernel) rfl g_nil ?_
      generalize xs (nI k).toNatClampNeg &&& 31 = x
      refine g_tsw 726 [(0, 144), (1, 167), (2, 180), (3, 193), (4, 206), (5, 239), (6, 282), (7, 305), (8, 328), (9, 351), (10, 364), (11, 387), (12, 420), (13, 453), (14, 486), (15, 509), (16, 532), (17, 565), (18, 598), (19, 621), (20, 634), (21, 657), (22, 680), (23, 703)] 694 0 23 #[112, 135, 148, 161, 174, 207, 250, 273, 296, 319, 332, 355, 388, 421, 454, 477, 500, 533, 566, 589, 602, 625, 648, 671] 112 (by decide +kernel) (fun t ht => ?_)
      by_cases c0 : x = 0
      · simp only [g_sw, if_pos c0] at ht
        subst ht
        refine g_blk 149 [(.aload_n 1, 0, 0, 0, 0), (.aload_n 0, 0, 0, 0, 0), (.iload_n 3, 0, 0, 0, 0), (.iconst 1, 0, 0, 1, 0), (.iadd, 0, 0, 0, 0)] [] [(0, .ref 1000), (1, .ref 0), (2, .ref 172), (3, .int (nI k))] [.int (nI k + 1), .ref 1000, .ref 0] (g_two hl hm) (by decide +kernel) rfl g_nil ?_
        refine g_sld hX (by decide +kernel) h1 ?_
        obtain ⟨r, hl2, hm2, hA1, hB1, hrel2⟩ := op_type (xs (nI k + 1).toNatClampNeg) hl hm hrel
        refine g_callA hA1 13 1 lk_8_13 (by decide +kernel) rfl ⟨rfl, rfl, by decide, by decide⟩ [] rfl (by decide) rfl (hok hl hm hrel).2.2.1 ?_
        refine g_blk 158 [(.aload_n 2, 0, 0, 0, 0), (.aload_n 0, 0, 0, 0, 0), (.iload_n 3, 0, 0, 0, 0), (.iconst 1, 0, 0, 1, 0), (.iadd, 0, 0, 0, 0)] [] [(0, .ref 1000), (1, .ref 0), (2, .ref 172), (3, .int (nI k))] [.int (nI k + 1), .ref 1000, .ref 172, .int r] (g_two hl2 hm) (by decide +kernel) rfl g_nil ?_
        refine g_sld hX (by decide +kernel) h1 ?_
        have hlen2 := (hok hl2 hm2 hrel2).1
        refine g_callB hlen2 hB1 17 1 lk_8_17 (by decide +kernel) rfl rfl ⟨rfl, rfl, by decide, by decide⟩ [.int r] rfl (Nat.le_of_ble_eq_true rfl) rfl (hok hl hm hrel).2.2.2 ?_
        refine g_br 726 (.if_icmp .eq 564) (r = r) [] (by decide +kernel) rfl (fun _ => ?_) (fun z => absurd rfl z)
        exact hend hl2 hm2 hrel2
      rw [g_sw, if_neg c0] at ht
      by_cases c1 : x = 1
      · simp only [g_sw, if_pos c1] at ht
        subst ht
        refine g_blk 168 [(.aload_n 1, 0, 0, 0, 0)] [] [(0, .ref 1000), (1, .ref 0), (2, .ref 172), (3, .int (nI k))] [.ref 0] (g_two hl hm) (by decide +kernel) rfl g_nil ?_
        obtain ⟨r, hl2, hm2, hA1, hB1, hrel2⟩ := op_clear () hl hm hrel
        refine g_callA hA1 18 0 lk_8_18 (by decide +kernel) rfl ⟨rfl, rfl, by decide, by decide⟩ [] rfl (by decide) rfl (hok hl hm hrel).2.2.1 ?_
        refine g_blk 172 [(.aload_n 2, 0, 0, 0, 0)] [] [(0, .ref 1000), (1, .ref 0), (2, .ref 172), (3, .int (nI k))] [.ref 172, .int r] (g_two hl2 hm) (by decide +kernel) rfl g_nil ?_
        have hlen2 := (hok hl2 hm2 hrel2).1
        refine g_callB hlen2 hB1 22 0 lk_8_22 (by decide +kernel) rfl rfl ⟨rfl, rfl, by decide, by decide⟩ [.int r] rfl (Nat.le_of_ble_eq_true rfl) rfl (hok hl hm hrel).2.2.2 ?_
        refine g_br 726 (.if_icmp .eq 551) (r = r) [] (by decide +kernel) rfl (fun _ => ?_) (fun z => absurd rfl z)
        exact hend hl2 hm2 hrel2
      rw [g_sw, if_neg c1] at ht
      by_cases c2 : x = 2
      · simp only [g_sw, if_pos c2] at ht
        subst ht
        refine g_blk 181 [(.aload_n 1, 0, 0, 0, 0)] [] [(0, .ref 1000), (1, .ref 0), (2, .ref 172), (3, .int (nI k))] [.ref 0] (g_two hl hm) (by decide +kernel) rfl g_nil ?_
        obtain ⟨r, hl2, hm2, hA1, hB1, hrel2⟩ := op_system () hl hm hrel
        refine g_callA hA1 23 0 lk_8_23 (by decide +kernel) rfl ⟨rfl, rfl, by decide, by decide⟩ [] rfl (by decide) rfl (hok hl hm hrel).2.2.1 ?_
        refine g_blk 185 [(.aload_n 2, 0, 0, 0, 0)] [] [(0, .ref 1000), (1, .ref 0), (2, .ref 172), (3, .int (nI k))] [.ref 172, .int r] (g_two hl2 hm) (by decide +kernel) rfl g_nil ?_
        have hlen2 := (hok hl2 hm2 hrel2).1
        refine g_callB hlen2 hB1 26 0 lk_8_26 (by decide +kernel) rfl rfl ⟨rfl, rfl, by decide, by decide⟩ [.int r] rfl (Nat.le_of_ble_eq_true rfl) rfl (hok hl hm hrel).2.2.2 ?_
        refine g_br 726 (.if_icmp .eq 538) (r = r) [] (by decide +kernel) rfl (fun _ => ?_) (fun z => absurd rfl z)
        exact hend hl2 hm2 hrel2
      rw [g_sw, if_neg c2] at ht
      by_cases c3 : x = 3
      · simp only [g_sw, if_pos c3] at ht
        subst ht
        refine g_blk 194 [(.aload_n 1, 0, 0, 0, 0)] [] [(0, .ref 1000), (1, .ref 0), (2, .ref 172), (3, .int (nI k))] [.ref 0] (g_two hl hm) (by decide +kernel) rfl g_nil ?_
        obtain ⟨r, hl2, hm2, hA1, hB1, hrel2⟩ := op_formula () hl hm hrel
        refine g_callA hA1 27 0 lk_8_27 (by decide +kernel) rfl ⟨rfl, rfl, by decide, by decide⟩ [] rfl (by decide) rfl (hok hl hm hrel).2.2.1 ?_
        refine g_blk 198 [(.aload_n 2, 0, 0, 0, 0)] [] [(0, .ref 1000), (1, .ref 0), (2, .ref 172), (3, .int (nI k))] [.ref 172, .int r] (g_two hl2 hm) (by decide +kernel) rfl g_nil ?_
        have hlen2 := (hok hl2 hm2 hrel2).1
        refine g_callB hlen2 hB1 30 0 lk_8_30 (by decide +kernel) rfl rfl ⟨rfl, rfl, by decide, by decide⟩ [.int r] rfl (Nat.le_of_ble_eq_true rfl) rfl (hok hl hm hrel).2.2.2 ?_
        refine g_br 726 (.if_icmp .eq 525) (r = r) [] (by decide +kernel) rfl (fun _ => ?_) (fun z => absurd rfl z)
        exact hend hl2 hm2 hrel2
      rw [g_sw, if_neg c3] at ht
      by_cases c4 : x = 4
      · simp only [g_sw, if_pos c4] at ht
        subst ht
        refine g_blk 211 [(.aload_n 1, 0, 0, 0, 0), (.aload_n 0, 0, 0, 0, 0), (.iload_n 3, 0, 0, 0, 0), (.iconst 1, 0, 0, 1, 0), (.iadd, 0, 0, 0, 0)] [] [(0, .ref 1000), (1, .ref 0), (2, .ref 172), (3, .int (nI k))] [.int (nI k + 1), .ref 1000, .ref 0] (g_two hl hm) (by decide +kernel) rfl g_nil ?_
        refine g_sld hX (by decide +kernel) h1 ?_
        refine g_blk 216 [(.aload_n 0, 0, 0, 0, 0), (.iload_n 3, 0, 0, 0, 0), (.iconst 2, 0, 0, 2, 0), (.iadd, 0, 0, 0, 0)] [] [(0, .ref 1000), (1, .ref 0), (2, .ref 172), (3, .int (nI k))] [.int (nI k + 2), .ref 1000, .int (xs (nI k + 1).toNatClampNeg), .ref 0] (g_two hl hm) (by decide +kernel) rfl g_nil ?_
        refine g_sld hX (by decide +kernel) h2 ?_
        obtain ⟨r, hl2, hm2, hA1, hB1, hrel2⟩ := op_labels (xs (nI k + 1).toNatClampNeg) (xs (nI k + 2).toNatClampNeg) hl hm hrel
        refine g_callA hA1 31 2 lk_8_31 (by decide +kernel) rfl ⟨rfl, rfl, by decide, by decide⟩ [] rfl (by decide) rfl (hok hl hm hrel).2.2.1 ?_
        refine g_blk 225 [(.aload_n 2, 0, 0, 0, 0), (.aload_n 0, 0, 0, 0, 0), (.iload_n 3, 0, 0, 0, 0), (.iconst 1, 0, 0, 1, 0), (.iadd, 0, 0, 0, 0)] [] [(0, .ref 1000), (1, .ref 0), (2, .ref 172), (3, .int (nI k))] [.int (nI k + 1), .ref 1000, .ref 172, .int r] (g_two hl2 hm) (by decide +kernel) rfl g_nil ?_
        refine g_sld hX (by decide +kernel) h1 ?_
        refine g_blk 230 [(.aload_n 0, 0, 0, 0, 0), (.iload_n 3, 0, 0, 0, 0), (.iconst 2, 0, 0, 2, 0), (.iadd, 0, 0, 0, 0)] [] [(0, .ref 1000), (1, .ref 0), (2, .ref 172), (3, .int (nI k))] [.int (nI k + 2), .ref 1000, .int (xs (nI k + 1).toNatClampNeg), .ref 172, .int r] (g_two hl2 hm) (by decide +kernel) rfl g_nil ?_
        refine g_sld hX (by decide +kernel) h2 ?_
        have hlen2 := (hok hl2 hm2 hrel2).1
        refine g_callB hlen2 hB1 35 2 lk_8_35 (by decide +kernel) rfl rfl ⟨rfl, rfl, by decide, by decide⟩ [.int r] rfl (Nat.le_of_ble_eq_true rfl) rfl (hok hl hm hrel).2.2.2 ?_
        refine g_br 726 (.if_icmp .eq 492) (r = r) [] (by decide +kernel) rfl (fun _ => ?_) (fun z => absurd rfl z)
        exact hend hl2 hm2 hrel2
      rw [g_sw, if_neg c4] at ht
      by_cases c5 : x = 5
      · simp only [g_sw, if_pos c5] at ht
        subst ht
        refine g_blk 244 [(.aload_n 1, 0, 0, 0, 0), (.aload_n 0, 0, 0, 0, 0), (.iload_n 3, 0, 0, 0, 0), (.iconst 1, 0, 0, 1, 0), (.iadd, 0, 0, 0, 0)] [] [(0, .ref 1000), (1, .ref 0), (2, .ref 172), (3, .int (nI k))] [.int (nI k + 1), .ref 1000, .ref 0] (g_two hl hm) (by decide +kernel) rfl g_nil ?_
        refine g_sld hX (by decide +kernel) h1 ?_
        refine g_blk 249 [(.aload_n 0, 0, 0, 0, 0), (.iload_n 3, 0, 0, 0, 0), (.iconst 2, 0, 0, 2, 0), (.iadd, 0, 0, 0, 0)] [] [(0, .ref 1000), (1, .ref 0), (2, .ref 172), (3, .int (nI k))] [.int (nI k + 2), .ref 1000, .int (xs (nI k + 1).toNatClampNeg), .ref 0] (g_two hl hm) (by decide +kernel) rfl g_nil ?_
        refine g_sld hX (by decide +kernel) h2 ?_
        refine g_blk 254 [(.aload_n 0, 0, 0, 0, 0), (.iload_n 3, 0, 0, 0, 0), (.iconst 3, 0, 0, 3, 0), (.iadd, 0, 0, 0, 0)] [] [(0, .ref 1000), (1, .ref 0), (2, .ref 172), (3, .int (nI k))] [.int (nI k + 3), .ref 1000, .int (xs (nI k + 2).toNatClampNeg), .int (xs (nI k + 1).toNatClampNeg), .ref 0] (g_two hl hm) (by decide +kernel) rfl g_nil ?_
        refine g_sld hX (by decide +kernel) h3 ?_
        obtain ⟨r, hl2, hm2, hA1, hB1, hrel2⟩ := op_moves (xs (nI k + 1).toNatClampNeg) (xs (nI k + 2).toNatClampNeg) (xs (nI k + 3).toNatClampNeg) hl hm hrel
        refine g_callA hA1 36 3 lk_8_36 (by decide +kernel) rfl ⟨rfl, rfl, by decide, by decide⟩ [] rfl (by decide) rfl (hok hl hm hrel).2.2.1 ?_
        refine g_blk 263 [(.aload_n 2, 0, 0, 0, 0), (.aload_n 0, 0, 0, 0, 0), (.iload_n 3, 0, 0, 0, 0), (.iconst 1, 0, 0, 1, 0), (.iadd, 0, 0, 0, 0)] [] [(0, .ref 1000), (1, .ref 0), (2, .ref 172), (3, .int (nI k))] [.int (nI k + 1), .ref 1000, .ref 172, .int r] (g_two hl2 hm) (by decide +kernel) rfl g_nil ?_
        refine g_sld hX (by decide +kernel) h1 ?_
        refine g_blk 268 [(.aload_n 0, 0, 0, 0, 0), (.iload_n 3, 0, 0, 0, 0), (.iconst 2, 0, 0, 2, 0), (.iadd, 0, 0, 0, 0)] [] [(0, .ref 1000), (1, .ref 0), (2, .ref 172), (3, .int (nI k))] [.int (nI k + 2), .ref 1000, .int (xs (nI k + 1).toNatClampNeg), .ref 172, .int r] (g_two hl2 hm) (by decide +kernel) rfl g_nil ?_
        refine g_sld hX (by decide +kernel) h2 ?_
        refine g_blk 273 [(.aload_n 0, 0, 0, 0, 0), (.iload_n 3, 0, 0, 0, 0), (.iconst 3, 0, 0, 3, 0), (.iadd, 0, 0, 0, 0)] [] [(0, .ref 1000), (1, .ref 0), (2, .ref 172), (3, .int (nI k))] [.int (nI k + 3), .ref 1000, .int (xs (nI k + 2).toNatClampNeg), .int (xs (nI k + 1).toNatClampNeg), .ref 172, .int r] (g_two hl2 hm) (by decide +kernel) rfl g_nil ?_
        refine g_sld hX (by decide +kernel) h3 ?_
        have hlen2 := (hok hl2 hm2 hrel2).1
        refine g_callB hlen2 hB1 40 3 lk_8_40 (by decide +kernel) rfl rfl ⟨rfl, rfl, by decide, by decide⟩ [.int r] rfl (Nat.le_of_ble_eq_true rfl) rfl (hok hl hm hrel).2.2.2 ?_
        refine g_br 726 (.if_icmp .eq 449) (r = r) [] (by decide +kernel) rfl (fun _ => ?_) (fun z => absurd rfl z)
        exact hend hl2 hm2 hrel2
      rw [g_sw, if_neg c5] at ht
      by_cases c6 : x = 6
      · simp only [g_sw, if_pos c6] at ht
        subst ht
        refine g_blk 287 [(.aload_n 1, 0, 0, 0, 0), (.aload_n 0, 0, 0, 0, 0), (.iload_n 3, 0, 0, 0, 0), (.iconst 1, 0, 0, 1, 0), (.iadd, 0, 0, 0, 0)] [] [(0, .ref 1000), (1, .ref 0), (2, .ref 172), (3, .int (nI k))] [.int (nI k + 1), .ref 1000, .ref 0] (g_two hl hm) (by decide +kernel) rfl g_nil ?_
        refine g_sld hX (by decide +kernel) h1 ?_
        obtain ⟨r, hl2, hm2, hA1, hB1, hrel2⟩ := op_takes (xs (nI k + 1).toNatClampNeg) hl hm hrel
        refine g_callA hA1 41 1 lk_8_41 (by decide +kernel) rfl ⟨rfl, rfl, by decide, by decide⟩ [] rfl (by decide) rfl (hok hl hm hrel).2.2.1 ?_
        refine g_blk 296 [(.aload_n 2, 0, 0, 0, 0), (.aload_n 0, 0, 0, 0, 0), (.iload_n 3, 0, 0, 0, 0), (.iconst 1, 0, 0, 1, 0), (.iadd, 0, 0, 0, 0)] [] [(0, .ref 1000), (1, .ref 0), (2, .ref 172), (3, .int (nI k))] [.int (nI k + 1), .ref 1000, .ref 172, .int r] (g_two hl2 hm) (by decide +kernel) rfl g_nil ?_
        refine g_sld hX (by decide +kernel) h1 ?_
        have hlen2 := (hok hl2 hm2 hrel2).1
        refine g_callB hlen2 hB1 44 1 lk_8_44 (by decide +kernel) rfl rfl ⟨rfl, rfl, by decide, by decide⟩ [.int r] rfl (Nat.le_of_ble_eq_true rfl) rfl (hok hl hm hrel).2.2.2 ?_
        refine g_br 726 (.if_icmp .eq 426) (r = r) [] (by decide +kernel) rfl (fun _ => ?_) (fun z => absurd rfl z)
        exact hend hl2 hm2 hrel2
      rw [g_sw, if_neg c6] at ht
      by_cases c7 : x = 7
      · simp only [g_sw, if_pos c7] at ht
        subst ht
        refine g_blk 310 [(.aload_n 1, 0, 0, 0, 0), (.aload_n 0, 0, 0, 0, 0), (.iload_n 3, 0, 0, 0, 0), (.iconst 1, 0, 0, 1, 0), (.iadd, 0, 0, 0, 0)] [] [(0, .ref 1000), (1, .ref 0), (2, .ref 172), (3, .int (nI k))] [.int (nI k + 1), .ref 1000, .ref 0] (g_two hl hm) (by decide +kernel) rfl g_nil ?_
        refine g_sld hX (by decide +kernel) h1 ?_
        obtain ⟨r, hl2, hm2, hA1, hB1, hrel2⟩ := op_stores (xs (nI k + 1).toNatClampNeg) hl hm hrel
        refine g_callA hA1 45 1 lk_8_45 (by decide +kernel) rfl ⟨rfl, rfl, by decide, by decide⟩ [] rfl (by decide) rfl (hok hl hm hrel).2.2.1 ?_
        refine g_blk 319 [(.aload_n 2, 0, 0, 0, 0), (.aload_n 0, 0, 0, 0, 0), (.iload_n 3, 0, 0, 0, 0), (.iconst 1, 0, 0, 1, 0), (.iadd, 0, 0, 0, 0)] [] [(0, .ref 1000), (1, .ref 0), (2, .ref 172), (3, .int (nI k))] [.int (nI k + 1), .ref 1000, .ref 172, .int r] (g_two hl2 hm) (by decide +kernel) rfl g_nil ?_
        refine g_sld hX (by decide +kernel) h1 ?_
        have hlen2 := (hok hl2 hm2 hrel2).1
        refine g_callB hlen2 hB1 48 1 lk_8_48 (by decide +kernel) rfl rfl ⟨rfl, rfl, by decide, by decide⟩ [.int r] rfl (Nat.le_of_ble_eq_true rfl) rfl (hok hl hm hrel).2.2.2 ?_
        refine g_br 726 (.if_icmp .eq 403) (r = r) [] (by decide +kernel) rfl (fun _ => ?_) (fun z => absurd rfl z)
        exact hend hl2 hm2 hrel2
      rw [g_sw, if_neg c7] at ht
      by_cases c8 : x = 8
      · simp only [g_sw, if_pos c8] at ht
        subst ht
        refine g_blk 333 [(.aload_n 1, 0, 0, 0, 0), (.aload_n 0, 0, 0, 0, 0), (.iload_n 3, 0, 0, 0, 0), (.iconst 1, 0, 0, 1, 0), (.iadd, 0, 0, 0, 0)] [] [(0, .ref 1000), (1, .ref 0), (2, .ref 172), (3, .int (nI k))] [.int (nI k + 1), .ref 1000, .ref 0] (g_two hl hm) (by decide +kernel) rfl g_nil ?_
        refine g_sld hX (by decide +kernel) h1 ?_
        obtain ⟨r, hl2, hm2, hA1, hB1, hrel2⟩ := op_fetches (xs (nI k + 1).toNatClampNeg) hl hm hrel
        refine g_callA hA1 49 1 lk_8_49 (by decide +kernel) rfl ⟨rfl, rfl, by decide, by decide⟩ [] rfl (by decide) rfl (hok hl hm hrel).2.2.1 ?_
        refine g_blk 342 [(.aload_n 2, 0, 0, 0, 0), (.aload_n 0, 0, 0, 0, 0), (.iload_n 3, 0, 0, 0, 0), (.iconst 1, 0, 0, 1, 0), (.iadd, 0, 0, 0, 0)] [] [(0, .ref 1000), (1, .ref 0), (2, .ref 172), (3, .int (nI k))] [.int (nI k + 1), .ref 1000, .ref 172, .int r] (g_two hl2 hm) (by decide +kernel) rfl g_nil ?_
        refine g_sld hX (by decide +kernel) h1 ?_
        have hlen2 := (hok hl2 hm2 hrel2).1
        refine g_callB hlen2 hB1 52 1 lk_8_52 (by decide +kernel) rfl rfl ⟨rfl, rfl, by decide, by decide⟩ [.int r] rfl (Nat.le_of_ble_eq_true rfl) rfl (hok hl hm hrel).2.2.2 ?_
        refine g_br 726 (.if_icmp .eq 380) (r = r) [] (by decide +kernel) rfl (fun _ => ?_) (fun z => absurd rfl z)
        exact hend hl2 hm2 hrel2
      rw [g_sw, if_neg c8] at ht
      by_cases c9 : x = 9
      · simp only [g_sw, if_pos c9] at ht
        subst ht
        refine g_blk 352 [(.aload_n 1, 0, 0, 0, 0)] [] [(0, .ref 1000), (1, .ref 0), (2, .ref 172), (3, .int (nI k))] [.ref 0] (g_two hl hm) (by decide +kernel) rfl g_nil ?_
        obtain ⟨r, hl2, hm2, hA1, hB1, hrel2⟩ := op_undo () hl hm hrel
        refine g_callA hA1 53 0 lk_8_53 (by decide +kernel) rfl ⟨rfl, rfl, by decide, by decide⟩ [] rfl (by decide) rfl (hok hl hm hrel).2.2.1 ?_
        refine g_blk 356 [(.aload_n 2, 0, 0, 0, 0)] [] [(0, .ref 1000), (1, .ref 0), (2, .ref 172), (3, .int (nI k))] [.ref 172, .int r] (g_two hl2 hm) (by decide +kernel) rfl g_nil ?_
        have hlen2 := (hok hl2 hm2 hrel2).1
        refine g_callB hlen2 hB1 56 0 lk_8_56 (by decide +kernel) rfl rfl ⟨rfl, rfl, by decide, by decide⟩ [.int r] rfl (Nat.le_of_ble_eq_true rfl) rfl (hok hl hm hrel).2.2.2 ?_
        refine g_br 726 (.if_icmp .eq 367) (r = r) [] (by decide +kernel) rfl (fun _ => ?_) (fun z => absurd rfl z)
        exact hend hl2 hm2 hrel2
      rw [g_sw, if_neg c9] at ht
      by_cases c10 : x = 10
      · simp only [g_sw, if_pos c10] at ht
        subst ht
        refine g_blk 369 [(.aload_n 1, 0, 0, 0, 0), (.aload_n 0, 0, 0, 0, 0), (.iload_n 3, 0, 0, 0, 0), (.iconst 1, 0, 0, 1, 0), (.iadd, 0, 0, 0, 0)] [] [(0, .ref 1000), (1, .ref 0), (2, .ref 172), (3, .int (nI k))] [.int (nI k + 1), .ref 1000, .ref 0] (g_two hl hm) (by decide +kernel) rfl g_nil ?_
        refine g_sld hX (by decide +kernel) h1 ?_
        obtain ⟨r, hl2, hm2, hA1, hB1, hrel2⟩ := op_label (xs (nI k + 1).toNatClampNeg) hl hm hrel
        refine g_callA hA1 57 1 lk_8_57 (by decide +kernel) rfl ⟨rfl, rfl, by decide, by decide⟩ [] rfl (by decide) rfl (hok hl hm hrel).2.2.1 ?_
        refine g_blk 378 [(.aload_n 2, 0, 0, 0, 0), (.aload_n 0, 0, 0, 0, 0), (.iload_n 3, 0, 0, 0, 0), (.iconst 1, 0, 0, 1, 0), (.iadd, 0, 0, 0, 0)] [] [(0, .ref 1000), (1, .ref 0), (2, .ref 172), (3, .int (nI k))] [.int (nI k + 1), .ref 1000, .ref 172, .int r] (g_two hl2 hm) (by decide +kernel) rfl g_nil ?_
        refine g_sld hX (by decide +kernel) h1 ?_
        have hlen2 := (hok hl2 hm2 hrel2).1
        refine g_callB hlen2 hB1 60 1 lk_8_60 (by decide +kernel) rfl rfl ⟨rfl, rfl, by decide, by decide⟩ [.int r] rfl (Nat.le_of_ble_eq_true rfl) rfl (hok hl hm hrel).2.2.2 ?_
        refine g_br 726 (.if_icmp .eq 344) (r = r) [] (by decide +kernel) rfl (fun _ => ?_) (fun z => absurd rfl z)
        exact hend hl2 hm2 hrel2
      rw [g_sw, if_neg c10] at ht
      by_cases c11 : x = 11
      · simp only [g_sw, if_pos c11] at ht
        subst ht
        refine g_blk 392 [(.aload_n 1, 0, 0, 0, 0), (.aload_n 0, 0, 0, 0, 0), (.iload_n 3, 0, 0, 0, 0), (.iconst 1, 0, 0, 1, 0), (.iadd, 0, 0, 0, 0)] [] [(0, .ref 1000), (1, .ref 0), (2, .ref 172), (3, .int (nI k))] [.int (nI k + 1), .ref 1000, .ref 0] (g_two hl hm) (by decide +kernel) rfl g_nil ?_
        refine g_sld hX (by decide +kernel) h1 ?_
        refine g_blk 397 [(.aload_n 0, 0, 0, 0, 0), (.iload_n 3, 0, 0, 0, 0), (.iconst 2, 0, 0, 2, 0), (.iadd, 0, 0, 0, 0)] [] [(0, .ref 1000), (1, .ref 0), (2, .ref 172), (3, .int (nI k))] [.int (nI k + 2), .ref 1000, .int (xs (nI k + 1).toNatClampNeg), .ref 0] (g_two hl hm) (by decide +kernel) rfl g_nil ?_
        refine g_sld hX (by decide +kernel) h2 ?_
        obtain ⟨r, hl2, hm2, hA1, hB1, hrel2⟩ := op_move (xs (nI k + 1).toNatClampNeg) (xs (nI k + 2).toNatClampNeg) hl hm hrel
        refine g_callA hA1 61 2 lk_8_61 (by decide +kernel) rfl ⟨rfl, rfl, by decide, by decide⟩ [] rfl (by decide) rfl (hok hl hm hrel).2.2.1 ?_
        refine g_blk 406 [(.aload_n 2, 0, 0, 0, 0), (.aload_n 0, 0, 0, 0, 0), (.iload_n 3, 0, 0, 0, 0), (.iconst 1, 0, 0, 1, 0), (.iadd, 0, 0, 0, 0)] [] [(0, .ref 1000), (1, .ref 0), (2, .ref 172), (3, .int (nI k))] [.int (nI k + 1), .ref 1000, .ref 172, .int r] (g_two hl2 hm) (by decide +kernel) rfl g_nil ?_
        refine g_sld hX (by decide +kernel) h1 ?_
        refine g_blk 411 [(.aload_n 0, 0, 0, 0, 0), (.iload_n 3, 0, 0, 0, 0), (.iconst 2, 0, 0, 2, 0), (.iadd, 0, 0, 0, 0)] [] [(0, .ref 1000), (1, .ref 0), (2, .ref 172), (3, .int (nI k))] [.int (nI k + 2), .ref 1000, .int (xs (nI k + 1).toNatClampNeg), .ref 172, .int r] (g_two hl2 hm) (by decide +kernel) rfl g_nil ?_
        refine g_sld hX (by decide +kernel) h2 ?_
        have hlen2 := (hok hl2 hm2 hrel2).1
        refine g_callB hlen2 hB1 64 2 lk_8_64 (by decide +kernel) rfl rfl ⟨rfl, rfl, by decide, by decide⟩ [.int r] rfl (Nat.le_of_ble_eq_true rfl) rfl (hok hl hm hrel).2.2.2 ?_
        refine g_br 726 (.if_icmp .eq 311) (r = r) [] (by decide +kernel) rfl (fun _ => ?_) (fun z => absurd rfl z)
        exact hend hl2 hm2 hrel2
      rw [g_sw, if_neg c11] at ht
      by_cases c12 : x = 12
      · simp only [g_sw, if_pos c12] at ht
        subst ht
        refine g_blk 425 [(.aload_n 1, 0, 0, 0, 0), (.aload_n 0, 0, 0, 0, 0), (.iload_n 3, 0, 0, 0, 0), (.iconst 1, 0, 0, 1, 0), (.iadd, 0, 0, 0, 0)] [] [(0, .ref 1000), (1, .ref 0), (2, .ref 172), (3, .int (nI k))] [.int (nI k + 1), .ref 1000, .ref 0] (g_two hl hm) (by decide +kernel) rfl g_nil ?_
        refine g_sld hX (by decide +kernel) h1 ?_
        refine g_blk 430 [(.aload_n 0, 0, 0, 0, 0), (.iload_n 3, 0, 0, 0, 0), (.iconst 2, 0, 0, 2, 0), (.iadd, 0, 0, 0, 0)] [] [(0, .ref 1000), (1, .ref 0), (2, .ref 172), (3, .int (nI k))] [.int (nI k + 2), .ref 1000, .int (xs (nI k + 1).toNatClampNeg), .ref 0] (g_two hl hm) (by decide +kernel) rfl g_nil ?_
        refine g_sld hX (by decide +kernel) h2 ?_
        obtain ⟨r, hl2, hm2, hA1, hB1, hrel2⟩ := op_part (xs (nI k + 1).toNatClampNeg) (xs (nI k + 2).toNatClampNeg) hl hm hrel
        refine g_callA hA1 65 2 lk_8_65 (by decide +kernel) rfl ⟨rfl, rfl, by decide, by decide⟩ [] rfl (by decide) rfl (hok hl hm hrel).2.2.1 ?_
        refine g_blk 439 [(.aload_n 2, 0, 0, 0, 0), (.aload_n 0, 0, 0, 0, 0), (.iload_n 3, 0, 0, 0, 0), (.iconst 1, 0, 0, 1, 0), (.iadd, 0, 0, 0, 0)] [] [(0, .ref 1000), (1, .ref 0), (2, .ref 172), (3, .int (nI k))] [.int (nI k + 1), .ref 1000, .ref 172, .int r] (g_two hl2 hm) (by decide +kernel) rfl g_nil ?_
        refine g_sld hX (by decide +kernel) h1 ?_
        refine g_blk 444 [(.aload_n 0, 0, 0, 0, 0), (.iload_n 3, 0, 0, 0, 0), (.iconst 2, 0, 0, 2, 0), (.iadd, 0, 0, 0, 0)] [] [(0, .ref 1000), (1, .ref 0), (2, .ref 172), (3, .int (nI k))] [.int (nI k + 2), .ref 1000, .int (xs (nI k + 1).toNatClampNeg), .ref 172, .int r] (g_two hl2 hm) (by decide +kernel) rfl g_nil ?_
        refine g_sld hX (by decide +kernel) h2 ?_
        have hlen2 := (hok hl2 hm2 hrel2).1
        refine g_callB hlen2 hB1 68 2 lk_8_68 (by decide +kernel) rfl rfl ⟨rfl, rfl, by decide, by decide⟩ [.int r] rfl (Nat.le_of_ble_eq_true rfl) rfl (hok hl hm hrel).2.2.2 ?_
        refine g_br 726 (.if_icmp .eq 278) (r = r) [] (by decide +kernel) rfl (fun _ => ?_) (fun z => absurd rfl z)
        exact hend hl2 hm2 hrel2
      rw [g_sw, if_neg c12] at ht
      by_cases c13 : x = 13
      · simp only [g_sw, if_pos c13] at ht
        subst ht
        refine g_blk 458 [(.aload_n 1, 0, 0, 0, 0), (.aload_n 0, 0, 0, 0, 0), (.iload_n 3, 0, 0, 0, 0), (.iconst 1, 0, 0, 1, 0), (.iadd, 0, 0, 0, 0)] [] [(0, .ref 1000), (1, .ref 0), (2, .ref 172), (3, .int (nI k))] [.int (nI k + 1), .ref 1000, .ref 0] (g_two hl hm) (by decide +kernel) rfl g_nil ?_
        refine g_sld hX (by decide +kernel) h1 ?_
        refine g_blk 463 [(.aload_n 0, 0, 0, 0, 0), (.iload_n 3, 0, 0, 0, 0), (.iconst 2, 0, 0, 2, 0), (.iadd, 0, 0, 0, 0)] [] [(0, .ref 1000), (1, .ref 0), (2, .ref 172), (3, .int (nI k))] [.int (nI k + 2), .ref 1000, .int (xs (nI k + 1).toNatClampNeg), .ref 0] (g_two hl hm) (by decide +kernel) rfl g_nil ?_
        refine g_sld hX (by decide +kernel) h2 ?_
        obtain ⟨r, hl2, hm2, hA1, hB1, hrel2⟩ := op_holds (xs (nI k + 1).toNatClampNeg) (xs (nI k + 2).toNatClampNeg) hl hm hrel
        refine g_callA hA1 69 2 lk_8_69 (by decide +kernel) rfl ⟨rfl, rfl, by decide, by decide⟩ [] rfl (by decide) rfl (hok hl hm hrel).2.2.1 ?_
        refine g_blk 472 [(.aload_n 2, 0, 0, 0, 0), (.aload_n 0, 0, 0, 0, 0), (.iload_n 3, 0, 0, 0, 0), (.iconst 1, 0, 0, 1, 0), (.iadd, 0, 0, 0, 0)] [] [(0, .ref 1000), (1, .ref 0), (2, .ref 172), (3, .int (nI k))] [.int (nI k + 1), .ref 1000, .ref 172, .int r] (g_two hl2 hm) (by decide +kernel) rfl g_nil ?_
        refine g_sld hX (by decide +kernel) h1 ?_
        refine g_blk 477 [(.aload_n 0, 0, 0, 0, 0), (.iload_n 3, 0, 0, 0, 0), (.iconst 2, 0, 0, 2, 0), (.iadd, 0, 0, 0, 0)] [] [(0, .ref 1000), (1, .ref 0), (2, .ref 172), (3, .int (nI k))] [.int (nI k + 2), .ref 1000, .int (xs (nI k + 1).toNatClampNeg), .ref 172, .int r] (g_two hl2 hm) (by decide +kernel) rfl g_nil ?_
        refine g_sld hX (by decide +kernel) h2 ?_
        have hlen2 := (hok hl2 hm2 hrel2).1
        refine g_callB hlen2 hB1 72 2 lk_8_72 (by decide +kernel) rfl rfl ⟨rfl, rfl, by decide, by decide⟩ [.int r] rfl (Nat.le_of_ble_eq_true rfl) rfl (hok hl hm hrel).2.2.2 ?_
        refine g_br 726 (.if_icmp .eq 245) (r = r) [] (by decide +kernel) rfl (fun _ => ?_) (fun z => absurd rfl z)
        exact hend hl2 hm2 hrel2
      rw [g_sw, if_neg c13] at ht
      by_cases c14 : x = 14
      · simp only [g_sw, if_pos c14] at ht
        subst ht
        refine g_blk 491 [(.aload_n 1, 0, 0, 0, 0), (.aload_n 0, 0, 0, 0, 0), (.iload_n 3, 0, 0, 0, 0), (.iconst 1, 0, 0, 1, 0), (.iadd, 0, 0, 0, 0)] [] [(0, .ref 1000), (1, .ref 0), (2, .ref 172), (3, .int (nI k))] [.int (nI k + 1), .ref 1000, .ref 0] (g_two hl hm) (by decide +kernel) rfl g_nil ?_
        refine g_sld hX (by decide +kernel) h1 ?_
        obtain ⟨r, hl2, hm2, hA1, hB1, hrel2⟩ := op_where (xs (nI k + 1).toNatClampNeg) hl hm hrel
        refine g_callA hA1 73 1 lk_8_73 (by decide +kernel) rfl ⟨rfl, rfl, by decide, by decide⟩ [] rfl (by decide) rfl (hok hl hm hrel).2.2.1 ?_
        refine g_blk 500 [(.aload_n 2, 0, 0, 0, 0), (.aload_n 0, 0, 0, 0, 0), (.iload_n 3, 0, 0, 0, 0), (.iconst 1, 0, 0, 1, 0), (.iadd, 0, 0, 0, 0)] [] [(0, .ref 1000), (1, .ref 0), (2, .ref 172), (3, .int (nI k))] [.int (nI k + 1), .ref 1000, .ref 172, .int r] (g_two hl2 hm) (by decide +kernel) rfl g_nil ?_
        refine g_sld hX (by decide +kernel) h1 ?_
        have hlen2 := (hok hl2 hm2 hrel2).1
        refine g_callB hlen2 hB1 76 1 lk_8_76 (by decide +kernel) rfl rfl ⟨rfl, rfl, by decide, by decide⟩ [.int r] rfl (Nat.le_of_ble_eq_true rfl) rfl (hok hl hm hrel).2.2.2 ?_
        refine g_br 726 (.if_icmp .eq 222) (r = r) [] (by decide +kernel) rfl (fun _ => ?_) (fun z => absurd rfl z)
        exact hend hl2 hm2 hrel2
      rw [g_sw, if_neg c14] at ht
      by_cases c15 : x = 15
      · simp only [g_sw, if_pos c15] at ht
        subst ht
        refine g_blk 514 [(.aload_n 1, 0, 0, 0, 0), (.aload_n 0, 0, 0, 0, 0), (.iload_n 3, 0, 0, 0, 0), (.iconst 1, 0, 0, 1, 0), (.iadd, 0, 0, 0, 0)] [] [(0, .ref 1000), (1, .ref 0), (2, .ref 172), (3, .int (nI k))] [.int (nI k + 1), .ref 1000, .ref 0] (g_two hl hm) (by decide +kernel) rfl g_nil ?_
        refine g_sld hX (by decide +kernel) h1 ?_
        obtain ⟨r, hl2, hm2, hA1, hB1, hrel2⟩ := op_some (xs (nI k + 1).toNatClampNeg) hl hm hrel
        refine g_callA hA1 77 1 lk_8_77 (by decide +kernel) rfl ⟨rfl, rfl, by decide, by decide⟩ [] rfl (by decide) rfl (hok hl hm hrel).2.2.1 ?_
        refine g_blk 523 [(.aload_n 2, 0, 0, 0, 0), (.aload_n 0, 0, 0, 0, 0), (.iload_n 3, 0, 0, 0, 0), (.iconst 1, 0, 0, 1, 0), (.iadd, 0, 0, 0, 0)] [] [(0, .ref 1000), (1, .ref 0), (2, .ref 172), (3, .int (nI k))] [.int (nI k + 1), .ref 1000, .ref 172, .int r] (g_two hl2 hm) (by decide +kernel) rfl g_nil ?_
        refine g_sld hX (by decide +kernel) h1 ?_
        have hlen2 := (hok hl2 hm2 hrel2).1
        refine g_callB hlen2 hB1 80 1 lk_8_80 (by decide +kernel) rfl rfl ⟨rfl, rfl, by decide, by decide⟩ [.int r] rfl (Nat.le_of_ble_eq_true rfl) rfl (hok hl hm hrel).2.2.2 ?_
        refine g_br 726 (.if_icmp .eq 199) (r = r) [] (by decide +kernel) rfl (fun _ => ?_) (fun z => absurd rfl z)
        exact hend hl2 hm2 hrel2
      rw [g_sw, if_neg c15] at ht
      by_cases c16 : x = 16
      · simp only [g_sw, if_pos c16] at ht
        subst ht
        refine g_blk 537 [(.aload_n 1, 0, 0, 0, 0), (.aload_n 0, 0, 0, 0, 0), (.iload_n 3, 0, 0, 0, 0), (.iconst 1, 0, 0, 1, 0), (.iadd, 0, 0, 0, 0)] [] [(0, .ref 1000), (1, .ref 0), (2, .ref 172), (3, .int (nI k))] [.int (nI k + 1), .ref 1000, .ref 0] (g_two hl hm) (by decide +kernel) rfl g_nil ?_
        refine g_sld hX (by decide +kernel) h1 ?_
        refine g_blk 542 [(.aload_n 0, 0, 0, 0, 0), (.iload_n 3, 0, 0, 0, 0), (.iconst 2, 0, 0, 2, 0), (.iadd, 0, 0, 0, 0)] [] [(0, .ref 1000), (1, .ref 0), (2, .ref 172), (3, .int (nI k))] [.int (nI k + 2), .ref 1000, .int (xs (nI k + 1).toNatClampNeg), .ref 0] (g_two hl hm) (by decide +kernel) rfl g_nil ?_
        refine g_sld hX (by decide +kernel) h2 ?_
        obtain ⟨r, hl2, hm2, hA1, hB1, hrel2⟩ := op_breaks (xs (nI k + 1).toNatClampNeg) (xs (nI k + 2).toNatClampNeg) hl hm hrel
        refine g_callA hA1 81 2 lk_8_81 (by decide +kernel) rfl ⟨rfl, rfl, by decide, by decide⟩ [] rfl (by decide) rfl (hok hl hm hrel).2.2.1 ?_
        refine g_blk 551 [(.aload_n 2, 0, 0, 0, 0), (.aload_n 0, 0, 0, 0, 0), (.iload_n 3, 0, 0, 0, 0), (.iconst 1, 0, 0, 1, 0), (.iadd, 0, 0, 0, 0)] [] [(0, .ref 1000), (1, .ref 0), (2, .ref 172), (3, .int (nI k))] [.int (nI k + 1), .ref 1000, .ref 172, .int r] (g_two hl2 hm) (by decide +kernel) rfl g_nil ?_
        refine g_sld hX (by decide +kernel) h1 ?_
        refine g_blk 556 [(.aload_n 0, 0, 0, 0, 0), (.iload_n 3, 0, 0, 0, 0), (.iconst 2, 0, 0, 2, 0), (.iadd, 0, 0, 0, 0)] [] [(0, .ref 1000), (1, .ref 0), (2, .ref 172), (3, .int (nI k))] [.int (nI k + 2), .ref 1000, .int (xs (nI k + 1).toNatClampNeg), .ref 172, .int r] (g_two hl2 hm) (by decide +kernel) rfl g_nil ?_
        refine g_sld hX (by decide +kernel) h2 ?_
        have hlen2 := (hok hl2 hm2 hrel2).1
        refine g_callB hlen2 hB1 84 2 lk_8_84 (by decide +kernel) rfl rfl ⟨rfl, rfl, by decide, by decide⟩ [.int r] rfl (Nat.le_of_ble_eq_true rfl) rfl (hok hl hm hrel).2.2.2 ?_
        refine g_br 726 (.if_icmp .eq 166) (r = r) [] (by decide +kernel) rfl (fun _ => ?_) (fun z => absurd rfl z)
        exact hend hl2 hm2 hrel2
      rw [g_sw, if_neg c16] at ht
      by_cases c17 : x = 17
      · simp only [g_sw, if_pos c17] at ht
        subst ht
        refine g_blk 570 [(.aload_n 1, 0, 0, 0, 0), (.aload_n 0, 0, 0, 0, 0), (.iload_n 3, 0, 0, 0, 0), (.iconst 1, 0, 0, 1, 0), (.iadd, 0, 0, 0, 0)] [] [(0, .ref 1000), (1, .ref 0), (2, .ref 172), (3, .int (nI k))] [.int (nI k + 1), .ref 1000, .ref 0] (g_two hl hm) (by decide +kernel) rfl g_nil ?_
        refine g_sld hX (by decide +kernel) h1 ?_
        refine g_blk 575 [(.aload_n 0, 0, 0, 0, 0), (.iload_n 3, 0, 0, 0, 0), (.iconst 2, 0, 0, 2, 0), (.iadd, 0, 0, 0, 0)] [] [(0, .ref 1000), (1, .ref 0), (2, .ref 172), (3, .int (nI k))] [.int (nI k + 2), .ref 1000, .int (xs (nI k + 1).toNatClampNeg), .ref 0] (g_two hl hm) (by decide +kernel) rfl g_nil ?_
        refine g_sld hX (by decide +kernel) h2 ?_
        obtain ⟨r, hl2, hm2, hA1, hB1, hrel2⟩ := op_against (xs (nI k + 1).toNatClampNeg) (xs (nI k + 2).toNatClampNeg) hl hm hrel
        refine g_callA hA1 85 2 lk_8_85 (by decide +kernel) rfl ⟨rfl, rfl, by decide, by decide⟩ [] rfl (by decide) rfl (hok hl hm hrel).2.2.1 ?_
        refine g_blk 584 [(.aload_n 2, 0, 0, 0, 0), (.aload_n 0, 0, 0, 0, 0), (.iload_n 3, 0, 0, 0, 0), (.iconst 1, 0, 0, 1, 0), (.iadd, 0, 0, 0, 0)] [] [(0, .ref 1000), (1, .ref 0), (2, .ref 172), (3, .int (nI k))] [.int (nI k + 1), .ref 1000, .ref 172, .int r] (g_two hl2 hm) (by decide +kernel) rfl g_nil ?_
        refine g_sld hX (by decide +kernel) h1 ?_
        refine g_blk 589 [(.aload_n 0, 0, 0, 0, 0), (.iload_n 3, 0, 0, 0, 0), (.iconst 2, 0, 0, 2, 0), (.iadd, 0, 0, 0, 0)] [] [(0, .ref 1000), (1, .ref 0), (2, .ref 172), (3, .int (nI k))] [.int (nI k + 2), .ref 1000, .int (xs (nI k + 1).toNatClampNeg), .ref 172, .int r] (g_two hl2 hm) (by decide +kernel) rfl g_nil ?_
        refine g_sld hX (by decide +kernel) h2 ?_
        have hlen2 := (hok hl2 hm2 hrel2).1
        refine g_callB hlen2 hB1 88 2 lk_8_88 (by decide +kernel) rfl rfl ⟨rfl, rfl, by decide, by decide⟩ [.int r] rfl (Nat.le_of_ble_eq_true rfl) rfl (hok hl hm hrel).2.2.2 ?_
        refine g_br 726 (.if_icmp .eq 133) (r = r) [] (by decide +kernel) rfl (fun _ => ?_) (fun z => absurd rfl z)
        exact hend hl2 hm2 hrel2
      rw [g_sw, if_neg c17] at ht
      by_cases c18 : x = 18
      · simp only [g_sw, if_pos c18] at ht
        subst ht
        refine g_blk 603 [(.aload_n 1, 0, 0, 0, 0), (.aload_n 0, 0, 0, 0, 0), (.iload_n 3, 0, 0, 0, 0), (.iconst 1, 0, 0, 1, 0), (.iadd, 0, 0, 0, 0)] [] [(0, .ref 1000), (1, .ref 0), (2, .ref 172), (3, .int (nI k))] [.int (nI k + 1), .ref 1000, .ref 0] (g_two hl hm) (by decide +kernel) rfl g_nil ?_
        refine g_sld hX (by decide +kernel) h1 ?_
        obtain ⟨r, hl2, hm2, hA1, hB1, hrel2⟩ := op_shows (xs (nI k + 1).toNatClampNeg) hl hm hrel
        refine g_callA hA1 89 1 lk_8_89 (by decide +kernel) rfl ⟨rfl, rfl, by decide, by decide⟩ [] rfl (by decide) rfl (hok hl hm hrel).2.2.1 ?_
        refine g_blk 612 [(.aload_n 2, 0, 0, 0, 0), (.aload_n 0, 0, 0, 0, 0), (.iload_n 3, 0, 0, 0, 0), (.iconst 1, 0, 0, 1, 0), (.iadd, 0, 0, 0, 0)] [] [(0, .ref 1000), (1, .ref 0), (2, .ref 172), (3, .int (nI k))] [.int (nI k + 1), .ref 1000, .ref 172, .int r] (g_two hl2 hm) (by decide +kernel) rfl g_nil ?_
        refine g_sld hX (by decide +kernel) h1 ?_
        have hlen2 := (hok hl2 hm2 hrel2).1
        refine g_callB hlen2 hB1 92 1 lk_8_92 (by decide +kernel) rfl rfl ⟨rfl, rfl, by decide, by decide⟩ [.int r] rfl (Nat.le_of_ble_eq_true rfl) rfl (hok hl hm hrel).2.2.2 ?_
        refine g_br 726 (.if_icmp .eq 110) (r = r) [] (by decide +kernel) rfl (fun _ => ?_) (fun z => absurd rfl z)
        exact hend hl2 hm2 hrel2
      rw [g_sw, if_neg c18] at ht
      by_cases c19 : x = 19
      · simp only [g_sw, if_pos c19] at ht
        subst ht
        refine g_blk 622 [(.aload_n 1, 0, 0, 0, 0)] [] [(0, .ref 1000), (1, .ref 0), (2, .ref 172), (3, .int (nI k))] [.ref 0] (g_two hl hm) (by decide +kernel) rfl g_nil ?_
        obtain ⟨r, hl2, hm2, hA1, hB1, hrel2⟩ := op_hides () hl hm hrel
        refine g_callA hA1 93 0 lk_8_93 (by decide +kernel) rfl ⟨rfl, rfl, by decide, by decide⟩ [] rfl (by decide) rfl (hok hl hm hrel).2.2.1 ?_
        refine g_blk 626 [(.aload_n 2, 0, 0, 0, 0)] [] [(0, .ref 1000), (1, .ref 0), (2, .ref 172), (3, .int (nI k))] [.ref 172, .int r] (g_two hl2 hm) (by decide +kernel) rfl g_nil ?_
        have hlen2 := (hok hl2 hm2 hrel2).1
        refine g_callB hlen2 hB1 96 0 lk_8_96 (by decide +kernel) rfl rfl ⟨rfl, rfl, by decide, by decide⟩ [.int r] rfl (Nat.le_of_ble_eq_true rfl) rfl (hok hl hm hrel).2.2.2 ?_
        refine g_br 726 (.if_icmp .eq 97) (r = r) [] (by decide +kernel) rfl (fun _ => ?_) (fun z => absurd rfl z)
        exact hend hl2 hm2 hrel2
      rw [g_sw, if_neg c19] at ht
      by_cases c20 : x = 20
      · simp only [g_sw, if_pos c20] at ht
        subst ht
        refine g_blk 639 [(.aload_n 1, 0, 0, 0, 0), (.aload_n 0, 0, 0, 0, 0), (.iload_n 3, 0, 0, 0, 0), (.iconst 1, 0, 0, 1, 0), (.iadd, 0, 0, 0, 0)] [] [(0, .ref 1000), (1, .ref 0), (2, .ref 172), (3, .int (nI k))] [.int (nI k + 1), .ref 1000, .ref 0] (g_two hl hm) (by decide +kernel) rfl g_nil ?_
        refine g_sld hX (by decide +kernel) h1 ?_
        obtain ⟨r, hl2, hm2, hA1, hB1, hrel2⟩ := op_judged (xs (nI k + 1).toNatClampNeg) hl hm hrel
        refine g_callA hA1 97 1 lk_8_97 (by decide +kernel) rfl ⟨rfl, rfl, by decide, by decide⟩ [] rfl (by decide) rfl (hok hl hm hrel).2.2.1 ?_
        refine g_blk 648 [(.aload_n 2, 0, 0, 0, 0), (.aload_n 0, 0, 0, 0, 0), (.iload_n 3, 0, 0, 0, 0), (.iconst 1, 0, 0, 1, 0), (.iadd, 0, 0, 0, 0)] [] [(0, .ref 1000), (1, .ref 0), (2, .ref 172), (3, .int (nI k))] [.int (nI k + 1), .ref 1000, .ref 172, .int r] (g_two hl2 hm) (by decide +kernel) rfl g_nil ?_
        refine g_sld hX (by decide +kernel) h1 ?_
        have hlen2 := (hok hl2 hm2 hrel2).1
        refine g_callB hlen2 hB1 100 1 lk_8_100 (by decide +kernel) rfl rfl ⟨rfl, rfl, by decide, by decide⟩ [.int r] rfl (Nat.le_of_ble_eq_true rfl) rfl (hok hl hm hrel).2.2.2 ?_
        refine g_br 726 (.if_icmp .eq 74) (r = r) [] (by decide +kernel) rfl (fun _ => ?_) (fun z => absurd rfl z)
        exact hend hl2 hm2 hrel2
      rw [g_sw, if_neg c20] at ht
      by_cases c21 : x = 21
      · simp only [g_sw, if_pos c21] at ht
        subst ht
        refine g_blk 662 [(.aload_n 1, 0, 0, 0, 0), (.aload_n 0, 0, 0, 0, 0), (.iload_n 3, 0, 0, 0, 0), (.iconst 1, 0, 0, 1, 0), (.iadd, 0, 0, 0, 0)] [] [(0, .ref 1000), (1, .ref 0), (2, .ref 172), (3, .int (nI k))] [.int (nI k + 1), .ref 1000, .ref 0] (g_two hl hm) (by decide +kernel) rfl g_nil ?_
        refine g_sld hX (by decide +kernel) h1 ?_
        obtain ⟨r, hl2, hm2, hA1, hB1, hrel2⟩ := op_keep (xs (nI k + 1).toNatClampNeg) hl hm hrel
        refine g_callA hA1 101 1 lk_8_101 (by decide +kernel) rfl ⟨rfl, rfl, by decide, by decide⟩ [] rfl (by decide) rfl (hok hl hm hrel).2.2.1 ?_
        refine g_blk 671 [(.aload_n 2, 0, 0, 0, 0), (.aload_n 0, 0, 0, 0, 0), (.iload_n 3, 0, 0, 0, 0), (.iconst 1, 0, 0, 1, 0), (.iadd, 0, 0, 0, 0)] [] [(0, .ref 1000), (1, .ref 0), (2, .ref 172), (3, .int (nI k))] [.int (nI k + 1), .ref 1000, .ref 172, .int r] (g_two hl2 hm) (by decide +kernel) rfl g_nil ?_
        refine g_sld hX (by decide +kernel) h1 ?_
        have hlen2 := (hok hl2 hm2 hrel2).1
        refine g_callB hlen2 hB1 104 1 lk_8_104 (by decide +kernel) rfl rfl ⟨rfl, rfl, by decide, by decide⟩ [.int r] rfl (Nat.le_of_ble_eq_true rfl) rfl (hok hl hm hrel).2.2.2 ?_
        refine g_br 726 (.if_icmp .eq 51) (r = r) [] (by decide +kernel) rfl (fun _ => ?_) (fun z => absurd rfl z)
        exact hend hl2 hm2 hrel2
      rw [g_sw, if_neg c21] at ht
      by_cases c22 : x = 22
      · simp only [g_sw, if_pos c22] at ht
        subst ht
        refine g_blk 685 [(.aload_n 1, 0, 0, 0, 0), (.aload_n 0, 0, 0, 0, 0), (.iload_n 3, 0, 0, 0, 0), (.iconst 1, 0, 0, 1, 0), (.iadd, 0, 0, 0, 0)] [] [(0, .ref 1000), (1, .ref 0), (2, .ref 172), (3, .int (nI k))] [.int (nI k + 1), .ref 1000, .ref 0] (g_two hl hm) (by decide +kernel) rfl g_nil ?_
        refine g_sld hX (by decide +kernel) h1 ?_
        obtain ⟨r, hl2, hm2, hA1, hB1, hrel2⟩ := op_back (xs (nI k + 1).toNatClampNeg) hl hm hrel
        refine g_callA hA1 105 1 lk_8_105 (by decide +kernel) rfl ⟨rfl, rfl, by decide, by decide⟩ [] rfl (by decide) rfl (hok hl hm hrel).2.2.1 ?_
        refine g_blk 694 [(.aload_n 2, 0, 0, 0, 0), (.aload_n 0, 0, 0, 0, 0), (.iload_n 3, 0, 0, 0, 0), (.iconst 1, 0, 0, 1, 0), (.iadd, 0, 0, 0, 0)] [] [(0, .ref 1000), (1, .ref 0), (2, .ref 172), (3, .int (nI k))] [.int (nI k + 1), .ref 1000, .ref 172, .int r] (g_two hl2 hm) (by decide +kernel) rfl g_nil ?_
        refine g_sld hX (by decide +kernel) h1 ?_
        have hlen2 := (hok hl2 hm2 hrel2).1
        refine g_callB hlen2 hB1 108 1 lk_8_108 (by decide +kernel) rfl rfl ⟨rfl, rfl, by decide, by decide⟩ [.int r] rfl (Nat.le_of_ble_eq_true rfl) rfl (hok hl hm hrel).2.2.2 ?_
        refine g_br 726 (.if_icmp .eq 28) (r = r) [] (by decide +kernel) rfl (fun _ => ?_) (fun z => absurd rfl z)
        exact hend hl2 hm2 hrel2
      rw [g_sw, if_neg c22] at ht
      by_cases c23 : x = 23
      · simp only [g_sw, if_pos c23] at ht
        subst ht
        refine g_blk 708 [(.aload_n 1, 0, 0, 0, 0), (.aload_n 0, 0, 0, 0, 0), (.iload_n 3, 0, 0, 0, 0), (.iconst 1, 0, 0, 1, 0), (.iadd, 0, 0, 0, 0)] [] [(0, .ref 1000), (1, .ref 0), (2, .ref 172), (3, .int (nI k))] [.int (nI k + 1), .ref 1000, .ref 0] (g_two hl hm) (by decide +kernel) rfl g_nil ?_
        refine g_sld hX (by decide +kernel) h1 ?_
        obtain ⟨r, hl2, hm2, hA1, hB1, hrel2⟩ := op_count (xs (nI k + 1).toNatClampNeg) hl hm hrel
        refine g_callA hA1 109 1 lk_8_109 (by decide +kernel) rfl ⟨rfl, rfl, by decide, by decide⟩ [] rfl (by decide) rfl (hok hl hm hrel).2.2.1 ?_
        refine g_blk 717 [(.aload_n 2, 0, 0, 0, 0), (.aload_n 0, 0, 0, 0, 0), (.iload_n 3, 0, 0, 0, 0), (.iconst 1, 0, 0, 1, 0), (.iadd, 0, 0, 0, 0)] [] [(0, .ref 1000), (1, .ref 0), (2, .ref 172), (3, .int (nI k))] [.int (nI k + 1), .ref 1000, .ref 172, .int r] (g_two hl2 hm) (by decide +kernel) rfl g_nil ?_
        refine g_sld hX (by decide +kernel) h1 ?_
        have hlen2 := (hok hl2 hm2 hrel2).1
        refine g_callB hlen2 hB1 112 1 lk_8_112 (by decide +kernel) rfl rfl ⟨rfl, rfl, by decide, by decide⟩ [.int r] rfl (Nat.le_of_ble_eq_true rfl) rfl (hok hl hm hrel).2.2.2 ?_
        refine g_br 726 (.if_icmp .eq 5) (r = r) [] (by decide +kernel) rfl (fun _ => ?_) (fun z => absurd rfl z)
        exact hend hl2 hm2 hrel2
      rw [g_sw, if_neg c23] at ht
      have ht : 726 = t := ht
      subst ht
      exact hend hl hm hrel
