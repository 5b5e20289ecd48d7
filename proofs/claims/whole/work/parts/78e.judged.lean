/-! both sides: a told row judged -/
theorem m_bits_ex {G : Nat} (hG : G ≤ 3) (f : Nat → Bool) : ∃ g, g < 2 ^ G ∧ ∀ j, j < G → g.testBit j = f j := by
  have h : ∀ b0 b1 b2 : Bool, ∃ g : Nat, g.testBit 0 = b0 ∧ g.testBit 1 = b1 ∧ g.testBit 2 = b2 := by
    intro b0 b1 b2
    exact ⟨b0.toNat + 2 * b1.toNat + 4 * b2.toNat, by cases b0 <;> cases b1 <;> cases b2 <;> decide⟩
  obtain ⟨g, g0, g1, g2⟩ := h (f 0) (f 1) (f 2)
  refine ⟨g % 2 ^ G, Nat.mod_lt _ (Nat.pow_pos (by omega)), fun j hj => ?_⟩
  rw [Nat.testBit_mod_two_pow, decide_eq_true hj, Bool.true_and]
  rcases (show j = 0 ∨ j = 1 ∨ j = 2 by omega) with rfl | rfl | rfl
  · exact g0
  · exact g1
  · exact g2
theorem m_takeRow {L k : Nat} (hk : k < L) (hL : L ≤ 8) (row lab : Nat → Int32) (tg : Nat → Nat → Int32) : ∃ lab' tg', F_G_takeRow m_N lab tg row (nI L) (nI k) = some (lab', tg', nI L) ∧ (∀ s, s < L → lab' s = row s) ∧ m_gt tg' (fun kk s t => kk = 2 ∧ s < L ∧ t = m_nx L k s) := by
  obtain ⟨tg0, a1, a2⟩ := m_gopen (P := L) (by omega) tg
  have himin : g_imin (nI L) (8 : Int32) = nI L := by
    simp (disch := omega) only [g_imin, m_e8, m_lt, if_neg]
  obtain ⟨s, b1, b2, b3⟩ := m_it (fun m i (s : (Nat → Int32) × (Nat → Nat → Int32)) => G_takeRow_l1 (tg0, nI L) (nI k) row m (nI i) s.1 s.2) id L (fun i0 s => (∀ i, i < i0 → s.1 i = row i) ∧ m_gt s.2 (fun kk s t => kk = 2 ∧ s < i0 ∧ t = m_nx L k s))
    (fun m s _ => by simp (disch := omega) only [G_takeRow_l1_s, m_le, if_pos, id])
    (fun m i s hi hI => by
      have hnl := m_nx_lt (i := i) hk
      have hnx : (if nI L ≤ nI (i + 1) then nI k else nI (i + 1)) = nI (m_nx L k i) := by
        unfold m_nx
        by_cases h : i + 1 < L
        · rw [if_neg (by rw [m_le (by omega) (by omega)]; omega), if_pos h]
        · rw [if_pos (by rw [m_le (by omega) (by omega)]; omega), if_neg h]
      obtain ⟨tg', d1, d2⟩ := m_join (P := L) (by omega) hI.2 (k := 2) (by omega) hi hnl
      refine ⟨(upd s.1 i (row i), tg'), ⟨fun j hj => ?_, m_gt_iff d2 (fun kk s t => ⟨fun z => ?_, fun ⟨z1, z2, z3⟩ => ?_⟩)⟩, ?_⟩
      · by_cases hji : j = i
        · subst hji
          exact pk_us
        · show upd s.1 i (row i) j = row j
          rw [pk_un hji]
          exact hI.1 j (by omega)
      · rcases z with ⟨z1, z2, z3⟩ | ⟨z1, z2, z3⟩
        · exact ⟨z1, by omega, z3⟩
        · exact ⟨z1, by omega, by rw [z2]; exact z3⟩
      · by_cases hs : s = i
        · exact Or.inr ⟨z1, hs, by rw [hs] at z3; exact z3⟩
        · exact Or.inl ⟨z1, by omega, z3⟩
      · rw [G_takeRow_l1_s]
        simp (disch := omega) only [m_le, if_neg, m_inb, m_chkT, nI_clamp, nI_1]
        have hnx' : (if L ≤ i + 1 then nI k else nI (i + 1)) = nI (m_nx L k i) := by
          unfold m_nx
          by_cases h : i + 1 < L
          · rw [if_neg (by omega), if_pos h]
          · rw [if_pos (by omega), if_neg h]
        rw [hnx', show F_G_join s.2 (nI L) 2 (nI i) (nI (m_nx L k i)) = _ from d1, Option.bind_some])
    L 0 m_N (lab, tg0) (by omega) (by show _ < 5000; omega) ⟨fun i hi => by omega, fun k hk s hs t ht => by
      show m_b (tg0 k s) t = true ↔ _
      rw [a2 k hk s hs, m_b_0]
      exact ⟨fun z => absurd z (by decide), fun z => by omega⟩⟩
  refine ⟨s.1, s.2, ?_, b2, b3⟩
  simp only [F_G_takeRow, himin, a1, Option.bind_some]
  rw [show G_takeRow_l1 (tg0, nI L) (nI k) row m_N 0 lab tg0 = _ from b1]
  rfl
section
variable {le : Nat → Nat → Int32} {n : Nat → Nat} {P : Nat} {lab : Nat → Int32} {cso wt mw gl : Nat → Int64} {an : Nat → Int32}
theorem m_told_calm (h : m_told le n P lab cso wt mw gl an) {w p a : Nat} (hw : w < 2) (hp : p < n w) (hl : m_lat (le w p)) (ha : a < P * 2 ^ m_G le n) : (m_cl le n (m_cv cso a) w p = true) ↔ (le w p = 120 ∨ m_B (wt (m_o le n w + (m_LT (le w) (n w) - 1 - m_LT (le w) p))) a = false ∨ m_B (gl (m_o le n w + (m_LT (le w) (n w) - 1 - m_LT (le w) p))) a = true) := by
  obtain ⟨d1, d2⟩ := (h w hw p (Nat.zero_le _) hp).2 hl
  obtain ⟨d3, _, d5⟩ := d2 a ha
  rw [d3, d5]
  show m_calm (le w p) (m_B (cso (16 * w + p)) a) (m_B (cso (16 * w + (p + 1))) a) (m_B (cso (16 * w + m_E (le w) (n w) (p + 1))) a) = true ↔ _
  generalize m_B (cso (16 * w + p)) a = x1
  generalize m_B (cso (16 * w + (p + 1))) a = x2
  generalize m_B (cso (16 * w + m_E (le w) (n w) (p + 1))) a = x3
  clear d1 d2 d3 d5
  generalize le w p = c at hl
  rcases hl with rfl | rfl | rfl | rfl
  · exact ⟨fun _ => Or.inl rfl, fun _ => rfl⟩
  · cases x1 <;> cases x2 <;> cases x3 <;> decide
  · cases x1 <;> cases x2 <;> cases x3 <;> decide
  · cases x1 <;> cases x2 <;> cases x3 <;> decide
theorem m_row {L k : Nat} (h1 : n 1 = 0) (hf : m_fs le n) (hw : m_WF (le 0) (n 0)) (hL : L ≤ 8) (hk : k < L) (ht : m_told le n L lab cso wt mw gl an) {shown : Nat → Int32} (hlab : ∀ s, s < L → lab s = shown s) {tg : Nat → Nat → Int32} {st : Nat → Nat → Int64} {D : Nat} {met mbs : Nat → Int32} {rg : Nat → Int64} {core lv : Int64} (htab : m_tab L (m_G le n) tg (m_CX L (m_G le n) (fun kk s t => kk = 2 ∧ s < L ∧ t = m_nx L k s) wt mw gl an) wt gl an False st D met mbs rg core lv) {V : Nat → Nat → Bool} (hV : ∀ i, m_val (le 0) (n 0) (shown i) (V i) (V i)) (hg : ∀ p, p < n 0 → m_lat (le 0 p) → m_good (le 0) (n 0) L k V p) : (∀ b, b < 64 → m_B lv b = true → b < L * 2 ^ m_G le n ∧ ∀ p, p < n 0 → m_cv cso b 0 p = V (b / 2 ^ m_G le n) p) ∧ ∀ i, i < L → ∃ t, t < L * 2 ^ m_G le n ∧ t / 2 ^ m_G le n = i ∧ (∀ p, p < n 0 → m_cv cso t 0 p = V i p) ∧ m_B lv t = true := by
  have h8 := m_p8 hf.2
  have h80 : 0 < 2 ^ m_G le n := h8.1
  have hG3 : m_G le n ≤ 3 := hf.2
  have h64 : L * 2 ^ m_G le n ≤ 64 := by
    have : L * 2 ^ m_G le n ≤ 8 * 8 := Nat.mul_le_mul hL h8.2
    omega
  have hdiv : ∀ a, a < L * 2 ^ m_G le n → a / 2 ^ m_G le n < L := fun a ha => (m_lt_node h80).mp ha
  have hXN := htab.1.1
  have ho0 : m_o le n 0 = 0 := rfl
  have hGe : m_G le n = m_LT (le 0) (n 0) := by
    show m_LT (le 0) (n 0) + m_LT (le 1) (n 1) = _
    rw [h1]
    rfl
  have hXs : ∀ kk a b, m_CX L (m_G le n) (fun kk s t => kk = 2 ∧ s < L ∧ t = m_nx L k s) wt mw gl an kk a b → b / 2 ^ m_G le n = m_nx L k (a / 2 ^ m_G le n) ∧ ∀ p, p < n 0 → m_gg (le 0) (n 0) (m_cv cso a 0) (m_cv cso b 0) p := fun kk a b z => by
    obtain ⟨z1, z2, z3, z4, z5⟩ := z
    exact ⟨z4.2.2, fun p hp => (m_ok_cj ht hf z2 z3).mp z5 0 (by omega) p hp⟩
  have hXe : ∀ a b, a < L * 2 ^ m_G le n → b < L * 2 ^ m_G le n → b / 2 ^ m_G le n = m_nx L k (a / 2 ^ m_G le n) → (∀ p, p < n 0 → m_gg (le 0) (n 0) (m_cv cso a 0) (m_cv cso b 0) p) → m_CX L (m_G le n) (fun kk s t => kk = 2 ∧ s < L ∧ t = m_nx L k s) wt mw gl an 2 a b := fun a b ha hb hab hgg => by
    refine ⟨by omega, ha, hb, ⟨rfl, hdiv a ha, hab⟩, (m_ok_cj ht hf ha hb).mpr fun w hw2 p hp => ?_⟩
    rcases (show w = 0 ∨ w = 1 by omega) with rfl | rfl
    · exact hgg p hp
    · omega
  have hcv : ∀ a, a < L * 2 ^ m_G le n → ∃ gg, m_val (le 0) (n 0) (shown (a / 2 ^ m_G le n)) gg (m_cv cso a 0) := fun a ha => ⟨fun p => a.testBit (m_o le n 0 + (m_LT (le 0) (n 0) - 1 - m_LT (le 0) p)), fun p hp => by
    have := (ht 0 (by omega) p (Nat.zero_le _) hp).1 a ha
    rw [hlab _ (hdiv a ha)] at this
    exact this⟩
  have hex : ∀ i, i < L → ∃ t, t < L * 2 ^ m_G le n ∧ t / 2 ^ m_G le n = i ∧ ∀ p, p < n 0 → m_cv cso t 0 p = V i p := fun i hi => by
    have hch : ∀ j, ∃ b : Bool, ∀ p, p < n 0 → m_lat (le 0 p) → m_LT (le 0) (n 0) - 1 - m_LT (le 0) p = j → V i p = b := fun j => by
      by_cases hx : ∃ p, p < n 0 ∧ m_lat (le 0 p) ∧ m_LT (le 0) (n 0) - 1 - m_LT (le 0) p = j
      · obtain ⟨p, p1, p2, p3⟩ := hx
        refine ⟨V i p, fun p' q1 q2 q3 => ?_⟩
        have a1 := m_LT_lt p1 p2
        have a2 := m_LT_lt q1 q2
        have : p' = p := by
          rcases Nat.lt_trichotomy p p' with h | h | h
          · have := m_LT_lt h p2
            omega
          · exact h.symm
          · have := m_LT_lt h q2
            omega
        rw [this]
      · exact ⟨false, fun p q1 q2 q3 => absurd ⟨p, q1, q2, q3⟩ hx⟩
    obtain ⟨f, hf'⟩ := Classical.axiomOfChoice hch
    obtain ⟨g, g1, g2⟩ := m_bits_ex hG3 f
    have hnd := m_nd (F := i) g1
    have htN : i * 2 ^ m_G le n + g < L * 2 ^ m_G le n := m_ndlt hi g1
    refine ⟨i * 2 ^ m_G le n + g, htN, hnd.1, fun p hp => ?_⟩
    have hval : m_val (le 0) (n 0) (shown i) (fun p => (i * 2 ^ m_G le n + g).testBit (m_o le n 0 + (m_LT (le 0) (n 0) - 1 - m_LT (le 0) p))) (m_cv cso (i * 2 ^ m_G le n + g) 0) := fun p hp => by
      have := (ht 0 (by omega) p (Nat.zero_le _) hp).1 _ htN
      rw [hnd.1, hlab i hi] at this
      exact this
    refine m_val_eq hw hval (hV i) (fun q hq hl => ?_) (n 0 - p) p (by omega) (by omega)
    have hlt := m_LT_lt hq hl
    have hj : m_LT (le 0) (n 0) - 1 - m_LT (le 0) q < m_G le n := by omega
    have hb : (i * 2 ^ m_G le n + g).testBit (m_LT (le 0) (n 0) - 1 - m_LT (le 0) q) = ((i * 2 ^ m_G le n + g) % 2 ^ m_G le n).testBit (m_LT (le 0) (n 0) - 1 - m_LT (le 0) q) := by
      rw [Nat.testBit_mod_two_pow, decide_eq_true hj, Bool.true_and]
    show (i * 2 ^ m_G le n + g).testBit (0 + (m_LT (le 0) (n 0) - 1 - m_LT (le 0) q)) = V i q
    rw [Nat.zero_add, hb, hnd.2, g2 _ hj]
    exact (hf' _ q hq hl rfl).symm
  obtain ⟨d1, d2, d3, d4, d5, d6⟩ := htab.2.1
  have hMC : ∀ c, m_meets (L * 2 ^ m_G le n) D (m_CX L (m_G le n) (fun kk s t => kk = 2 ∧ s < L ∧ t = m_nx L k s) wt mw gl an) met mbs (m_cls (m_R (m_CX L (m_G le n) (fun kk s t => kk = 2 ∧ s < L ∧ t = m_nx L k s) wt mw gl an) (L * 2 ^ m_G le n)) c) ↔ m_MC (le 0) (n 0) (L * 2 ^ m_G le n) (fun a => m_cv cso a 0) (m_CX L (m_G le n) (fun kk s t => kk = 2 ∧ s < L ∧ t = m_nx L k s) wt mw gl an) c := fun c => by
    refine ⟨fun z p hp hl hx => ?_, fun z b hb => ?_⟩
    · have hlt := m_LT_lt hp hl
      have han : an (m_o le n 0 + (m_LT (le 0) (n 0) - 1 - m_LT (le 0) p)) = 0 := by
        rw [((ht 0 (by omega) p (Nat.zero_le _) hp).2 hl).1, if_neg hx]
      obtain ⟨b, b1, b2, b3⟩ := d5 _ (by rw [ho0]; omega) han
      rcases z b b1 with ⟨v, w1, w2, w3⟩ | ⟨kk, x, y, w1, w2, w3, w4⟩
      · exact ⟨v, w1, w2, (m_told_calm ht (by omega) hp hl w1).mpr (Or.inr ((b2 v w1).mp w3))⟩
      · exact ((b3 kk (hXN _ _ _ w1).1).mp w4).elim
    · rcases d4 b hb with ⟨j, j1, j2, j3, j4⟩ | ⟨hfair, _⟩
      · obtain ⟨w, p, hw2, hp, hl, rfl⟩ := m_surC j1
        rcases (show w = 0 ∨ w = 1 by omega) with rfl | rfl
        · have hx : ¬ le 0 p = 120 := fun y => by
            rw [((ht 0 hw2 p (Nat.zero_le _) hp).2 hl).1, if_pos y] at j2
            exact absurd j2 (by decide)
          obtain ⟨v, v1, v2, v3⟩ := z p hp hl hx
          refine Or.inl ⟨v, v1, v2, (j3 v v1).mpr ?_⟩
          rcases (m_told_calm ht hw2 hp hl v1).mp v3 with y | y
          · exact absurd y hx
          · exact y
        · omega
      · exact hfair.elim
  have hLV : ∀ b, b < 64 → (m_B lv b = true ↔ m_LV (le 0) (n 0) (L * 2 ^ m_G le n) (fun a => m_cv cso a 0) (m_CX L (m_G le n) (fun kk s t => kk = 2 ∧ s < L ∧ t = m_nx L k s) wt mw gl an) b) := fun b hb => by
    rw [htab.2.2.2.2 b hb]
    exact ⟨fun ⟨c, z1, z2, z3⟩ => ⟨c, z1, z2, (hMC c).mp z3⟩, fun ⟨c, z1, z2, z3⟩ => ⟨c, z1, z2, (hMC c).mpr z3⟩⟩
  refine ⟨fun b hb z => ?_, fun i hi => ?_⟩
  · have hl := (hLV b hb).mp z
    obtain ⟨kk, x, x1, -⟩ := m_lv_next hXN hl
    exact ⟨(hXN _ _ _ x1).2.1, fun p hp => m_lv_true (q := 2 ^ m_G le n) (shown := shown) hw hk hXN hdiv hXs hcv (fun i _ => hV i) hg (n 0 - p) p (by omega) (by omega) b hl⟩
  · obtain ⟨t, t1, t2, t3⟩ := hex i hi
    exact ⟨t, t1, t2, t3, (hLV t (by omega)).mpr (m_lv_of (q := 2 ^ m_G le n) hw hk hXN hXe hex hg hi t1 t2 t3)⟩
end
theorem mc_judged {l_shown : Nat → Int32} {d_label : Nat → Int32} {d_tg : Nat → Nat → Int32} {d_places : Int32} {t_guesses : Int32} {t_nodes : Int32} {t_all : Int64} {t_np0 : Int64} {t_so : Nat → Int64} {t_laters : Int32} {t_waiting : Nat → Int64} {t_meanwhile : Nat → Int64} {t_goal : Nat → Int64} {t_atNext : Nat → Int32} {t_steps : Nat → Nat → Int64} {t_due : Int32} {t_met : Nat → Int32} {t_mbs : Nat → Int32} {t_reach : Nat → Int64} {t_ring : Nat → Int64} {t_core : Int64} {t_live : Int64} {n_states : Int32} {n_moveCount : Int32} {n_stateLabel : Nat → Int32} {n_moveActor : Nat → Int32} {n_moveFrom : Nat → Int32} {n_moveTo : Nat → Int32} {n_csz : Int32} {n_clt : Int32} {n_cle : Nat → Int32} {n_ssz : Nat → Int32} {n_slt : Nat → Int32} {n_sle : Nat → Nat → Int32} {l_shownCount : Int32} {f_showing : Int32} {f_laters : Int32} {f_now : Nat → Int32} {f_shown : Nat → Int32} {f_letter : Nat → Int32} {f_sizes : Nat → Int32} {f_laterNumber : Nat → Int32} {f_many : Nat → Int32} {f_guessAt : Nat → Int32} (hS : m_IS l_shown l_shownCount f_showing f_shown) (hW : m_W n_states n_moveCount n_stateLabel n_moveActor n_moveFrom n_moveTo n_csz n_clt n_cle n_ssz n_slt n_sle f_now) (a1 : Int32) : ∃ oL oM, F_L_judged m_N l_shown d_label d_tg d_places t_guesses t_nodes t_all t_np0 t_so t_laters t_waiting t_meanwhile t_goal t_atNext t_steps t_due t_met t_mbs t_reach t_ring t_core t_live n_csz n_clt n_cle l_shownCount a1 = some oL ∧ F_M_judged m_N f_showing f_laters f_now f_shown f_letter f_sizes f_laterNumber f_many f_guessAt a1 = some oM ∧ oL.1 = oM.1 := by
  obtain ⟨-, ⟨n0, hn1, hn, rfl, hr0, hr1, hw, rfl, h3⟩, -⟩ := hW
  obtain ⟨L, hL, rfl, rfl, hsh⟩ := hS
  rcases m_case a1 with ha | ⟨c, hc, rfl⟩
  · exact ⟨_, _, by simp only [F_L_judged, if_pos ha] <;> rfl, by simp only [F_M_judged, m_in_neg ha, if_true, Option.bind_some] <;> rfl, rfl⟩
  · have hc0 : ¬ nI c < 0 := nI_pos hc
    by_cases hcL : c < L
    · have i1 : F_M_in (nI c) 0 (nI L - 1) = 1 := by
        simp only [F_M_in, if_neg hc0]
        rw [if_neg (by rw [m_sub1 (by omega) hc]; omega)]
      have hr0' : f_now 37 = nI n0 := hr0
      obtain ⟨V, oM, a1', a2, a3, a4⟩ := m_judgedM hn hw h3 hr0' (fun q hq => ((hr1 q hq).trans (congrArg f_now (by omega))).symm) hL hcL f_shown f_letter f_sizes f_laterNumber f_many f_guessAt
      obtain ⟨lab', tg', b1, b2, b3⟩ := m_takeRow hcL hL l_shown d_label d_tg
      obtain ⟨le, hle⟩ : ∃ le : Nat → Nat → Int32, le = fun _ => n_cle := ⟨_, rfl⟩
      obtain ⟨n, hnn⟩ : ∃ n : Nat → Nat, n = m_n1 n0 := ⟨_, rfl⟩
      have hf : m_fs le n := by rw [hle, hnn]; exact m_fs1 hn hw h3
      obtain ⟨cso, wt, mw, gl, an, st, D, met, mbs, r, rg, core, lv, d1, d2, d3⟩ := m_judge (P := L) hL hn hw h3 lab' b3 t_so t_waiting t_meanwhile t_goal t_atNext t_steps t_met t_mbs t_reach t_ring False 0 (Or.inr ⟨rfl, fun z => z⟩) le n hle hnn
      have hl0 : le 0 = n_cle := by rw [hle]
      have hnn0 : n 0 = n0 := by rw [hnn]; rfl
      obtain ⟨e1, e2⟩ := m_row (le := le) (n := n) (k := c) (shown := f_shown) (V := V) (by rw [hnn]; rfl) hf (by rw [hl0, hnn0]; exact hw) hL hcL d2 (fun s hs => (b2 s hs).trans (hsh s hs).1) d3 (by rw [hl0, hnn0]; exact a3) (by rw [hl0, hnn0]; exact a4)
      have hclt : nI c < nI L := by
        rw [m_lt hc (by omega)]
        exact hcL
      refine ⟨_, _, by simp only [F_L_judged, if_neg hc0, if_pos hclt, b1, d1, Option.bind_some] <;> rfl, by simp only [F_M_judged, i1, m_n10, if_false, a1', Option.bind_some] <;> rfl, ?_⟩
      dsimp only
      rw [a2]
      have h8 := m_p8 hf.2
      have hA := m_place (s := 0) hf.2 hL (by omega) (lv &&& cso 0)
      have hD : (lg_cmp ((lv &&& cso 0) &&& F_T_nodesOf (nI L) (nI (m_G le n)) (F_T_firstNodes (nI (2 ^ m_G le n))) 0) 0 = 0) ↔ ¬ V 0 0 = true := by
        refine hA.trans (not_congr ⟨fun ⟨b, z1, z2, z3⟩ => ?_, fun z => ?_⟩)
        · rw [m_B_and, Bool.and_eq_true] at z3
          have hb64 : b < 64 := by
            have : L * 2 ^ m_G le n ≤ 8 * 8 := Nat.mul_le_mul hL h8.2
            have z1' : b < L * 2 ^ m_G le n := z1
            omega
          have h9 := (e1 b hb64 z3.1).2 0 (by omega)
          have z2' : b / 2 ^ m_G le n = 0 := z2
          rw [z2'] at h9
          rw [← h9]
          exact z3.2
        · obtain ⟨t, t1, t2, t3, t4⟩ := e2 0 (by omega)
          refine ⟨t, t1, t2, ?_⟩
          rw [m_B_and, t4, Bool.true_and]
          have h9 := t3 0 (by omega)
          exact h9.trans z
      by_cases hv : V 0 0 = true
      · rw [if_neg (fun z => hD.mp z hv), if_pos hv]
        rfl
      · rw [if_pos (hD.mpr hv), if_neg hv]
        rfl
    · have i1 : F_M_in (nI c) 0 (nI L - 1) = 0 := by
        simp only [F_M_in, if_neg hc0]
        rw [if_pos (by rw [m_sub1 (by omega) hc]; omega)]
      have hclt : ¬ nI c < nI L := by
        rw [m_lt hc (by omega)]
        exact hcL
      exact ⟨_, _, by simp only [F_L_judged, if_neg hc0, if_neg hclt] <;> rfl, by simp only [F_M_judged, i1, if_true, Option.bind_some] <;> rfl, rfl⟩
