/-! the class: two formulas over all rows -/
theorem m_allRows (lab : Nat → Int32) (tg : Nat → Nat → Int32) : ∃ lab' tg', F_G_takeAllRows m_N lab tg = some (lab', tg', nI 8) ∧ (∀ s, s < 8 → lab' s = nI s) ∧ m_gt tg' (fun k s t => k = 2 ∧ s < 8 ∧ t < 8) := by
  obtain ⟨tg0, a1, a2⟩ := m_gopen (P := 8) (by omega) tg
  obtain ⟨s, b1, b2, b3⟩ := m_it (fun m i (s : (Nat → Int32) × (Nat → Nat → Int32)) => G_takeAllRows_l1 m_N (tg0, nI 8) m (nI i) s.1 s.2) id 8 (fun i0 s => (∀ i, i < i0 → s.1 i = nI i) ∧ m_gt s.2 (fun k s t => k = 2 ∧ s < i0 ∧ t < 8))
    (fun m s _ => by simp (disch := omega) only [G_takeAllRows_l1_s, m_le, if_pos, id])
    (fun m i s hi hI => by
      obtain ⟨tg1, c1, c2⟩ := m_it (fun m j tg => G_takeAllRows_l2 (tg0, nI 8) (nI i) m (nI j) tg) id 8 (fun j0 tg => m_gt tg (fun k s t => k = 2 ∧ ((s < i ∧ t < 8) ∨ (s = i ∧ t < j0))))
        (fun m tg _ => by simp (disch := omega) only [G_takeAllRows_l2_s, m_le, if_pos, id])
        (fun m j tg hj hJ => by
          obtain ⟨tg', d1, d2⟩ := m_join (P := 8) (by omega) hJ (k := 2) (by omega) hi hj
          refine ⟨tg', m_gt_iff d2 (fun k s t => ⟨fun z => ?_, fun z => ?_⟩), ?_⟩
          · omega
          · omega
          · simp (disch := omega) only [G_takeAllRows_l2_s, m_le, if_neg, nI_1]
            rw [show F_G_join tg (nI 8) 2 (nI i) (nI j) = _ from d1, Option.bind_some])
        8 0 m_N s.2 (by omega) (by show _ < 5000; omega) (m_gt_iff hI.2 (fun k s t => by omega))
      refine ⟨(upd s.1 i (nI i), tg1), ⟨fun j hj => ?_, m_gt_iff c2 (fun k s t => by omega)⟩, ?_⟩
      · by_cases hji : j = i
        · subst hji
          exact pk_us
        · show upd s.1 i (nI i) j = nI j
          rw [pk_un hji]
          exact hI.1 j (by omega)
      · simp (disch := omega) only [G_takeAllRows_l1_s, m_le, if_neg, m_inb, m_chkT, nI_clamp, nI_1]
        rw [show G_takeAllRows_l2 (tg0, nI 8) (nI i) m_N 0 s.2 = _ from c1, Option.bind_some]
        rfl)
    8 0 m_N (lab, tg0) (by omega) (by show _ < 5000; omega) ⟨fun i hi => by omega, fun k hk s hs t ht => by
      show m_b (tg0 k s) t = true ↔ _
      rw [a2 k hk s hs, m_b_0]
      exact ⟨fun z => absurd z (by decide), fun z => by omega⟩⟩
  refine ⟨s.1, s.2, ?_, b2, b3⟩
  simp only [F_G_takeAllRows]
  rw [show F_G_open m_N tg 8 = _ from a1, Option.bind_some]
  rw [show G_takeAllRows_l1 m_N (tg0, nI 8) m_N 0 lab tg0 = _ from b1]
  rfl
theorem m_sem0 {c : Int32} (hc : c = 97 ∨ c = 98 ∨ c = 99 ∨ c = 48 ∨ c = 49 ∨ c = 110 ∨ c = 107 ∨ c = 111 ∨ c = 120 ∨ c = 102 ∨ c = 103 ∨ c = 117) (lab : Int32) (g f s f' s' : Bool) (h1 : 1 ≤ m_ar c → f = f') (h2 : m_ar c = 2 → s = s') : m_sem c lab g f s = m_sem c lab g f' s' := by
  rcases hc with rfl | rfl | rfl | rfl | rfl | rfl | rfl | rfl | rfl | rfl | rfl | rfl
  · rfl
  · rfl
  · rfl
  · rfl
  · rfl
  · rw [h1 (by decide)]
    rfl
  · rw [h1 (by decide), h2 (by decide)]
  · rw [h1 (by decide), h2 (by decide)]
  · rfl
  · rfl
  · rfl
  · rfl
theorem m_dat0 {c : Int32} (hc : m_lat c) {N : Nat} {x f s f' s' : Int64} {wt mw gl wt' mw' gl' : Nat → Int64} {an an' : Nat → Int32} {j : Nat} (h : m_dat c N x f s wt mw gl an j) (h1 : f = f') (h2 : m_ar c = 2 → s = s') (h3 : wt' j = wt j ∧ mw' j = mw j ∧ gl' j = gl j ∧ an' j = an j) : m_dat c N x f' s' wt' mw' gl' an' j := by
  subst h1
  obtain ⟨w1, w2, w3, w4⟩ := h3
  unfold m_dat at h ⊢
  rw [w1, w2, w3, w4]
  rcases hc with rfl | rfl | rfl | rfl
  · exact h
  · exact h
  · exact h
  · rw [← h2 (by decide)]
    exact h
/-- what is told of a formula stays when another row is told -/
theorem m_td_keep {le : Nat → Int32} {n o w P G : Nat} {lab : Nat → Int32} (hw : m_WF le n) {so wt mw gl so' wt' mw' gl' : Nat → Int64} {an an' : Nat → Int32} (h : m_td le n o w P G lab 0 so wt mw gl an) (h1 : ∀ j, 16 * w ≤ j → j < 16 * w + n → so' j = so j) (h2 : ∀ j, j < o + m_LT le n → wt' j = wt j ∧ mw' j = mw j ∧ gl' j = gl j ∧ an' j = an j) : m_td le n o w P G lab 0 so' wt' mw' gl' an' := by
  intro q _ hq
  obtain ⟨g1, g2⟩ := h q (Nat.zero_le _) hq
  have hE := (m_Es hw hq).2.2
  have hf : 1 ≤ m_ar (le q) → so' (16 * w + (q + 1)) = so (16 * w + (q + 1)) := fun z => by
    rcases hE with ⟨b1, b2⟩ | ⟨b1, b2, b3⟩ | ⟨b1, b2, b3, b4, b5⟩
    · omega
    · exact h1 _ (by omega) (by omega)
    · exact h1 _ (by omega) (by omega)
  have hs : m_ar (le q) = 2 → so' (16 * w + m_E le n (q + 1)) = so (16 * w + m_E le n (q + 1)) := fun z => by
    rcases hE with ⟨b1, b2⟩ | ⟨b1, b2, b3⟩ | ⟨b1, b2, b3, b4, b5⟩
    · omega
    · omega
    · exact h1 _ (by omega) (by omega)
  have hx : so' (16 * w + q) = so (16 * w + q) := h1 _ (by omega) (by omega)
  have hlt := m_letters (hw.1 q hq).1
  refine ⟨fun a ha => ?_, fun hl => ?_⟩
  · rw [hx, g1 a ha]
    exact m_sem0 hlt _ _ _ _ _ _ (fun z => by rw [hf z]) (fun z => by rw [hs z])
  · have hL := m_LT_lt hq hl
    rw [hx]
    have hl1 : 1 ≤ m_ar (le q) := by
      clear g2 hf hs hE hlt hL
      generalize le q = c at hl
      rcases hl with rfl | rfl | rfl | rfl <;> decide
    exact m_dat0 hl (g2 hl) (hf hl1).symm (fun z => (hs z).symm) (h2 _ (by omega))
def m_le2 (l0 l1 : Nat → Int32) (w : Nat) : Nat → Int32 := if w = 0 then l0 else l1
def m_n2 (n0 n1 w : Nat) : Nat := if w = 0 then n0 else n1
theorem m_fs2 {l0 l1 : Nat → Int32} {n0 n1 : Nat} (h0 : n0 ≤ 16) (h1 : n1 ≤ 16) (w0 : m_WF l0 n0) (w1 : m_WF l1 n1) (h3 : m_LT l0 n0 + m_LT l1 n1 ≤ 3) : m_fs (m_le2 l0 l1) (m_n2 n0 n1) := by
  refine ⟨fun w hw2 => ?_, h3⟩
  rcases (show w = 0 ∨ w = 1 by omega) with rfl | rfl
  · exact ⟨h0, Or.inr w0⟩
  · exact ⟨h1, Or.inr w1⟩
theorem m_judge2 {l0 l1 : Nat → Int32} {n0 n1 : Nat} (h0 : n0 ≤ 16) (h1 : n1 ≤ 16) (w0 : m_WF l0 n0) (w1 : m_WF l1 n1) (h3 : m_LT l0 n0 + m_LT l1 n1 ≤ 3) (lab : Nat → Int32) {tg : Nat → Nat → Int32} {T : Nat → Nat → Nat → Prop} (hT : m_gt tg T) (so0 wt0 mw0 gl0 : Nat → Int64) (an0 : Nat → Int32) (st0 : Nat → Nat → Int64) (met0 mbs0 : Nat → Int32) (r0 rg0 : Nat → Int64) (le : Nat → Nat → Int32) (n : Nat → Nat) (hle : le = m_le2 l0 l1) (hnn : n = m_n2 n0 n1) : ∃ so1 wt1 mw1 gl1 an1 so2 cso wt mw gl an st D met mbs r rg core lv, F_T_open (nI 8) (nI (m_G le n)) = some (nI (m_G le n), nI (8 * 2 ^ m_G le n), m_all (8 * 2 ^ m_G le n), F_T_firstNodes (nI (2 ^ m_G le n)), 0) ∧ F_T_tell m_N lab (nI 8) (nI (m_G le n)) (nI (8 * 2 ^ m_G le n)) (m_all (8 * 2 ^ m_G le n)) (F_T_firstNodes (nI (2 ^ m_G le n))) so0 0 wt0 mw0 gl0 an0 (nI n0) l0 = some (cso 0, so1, nI (m_LT l0 n0), wt1, mw1, gl1, an1) ∧ F_T_tell m_N lab (nI 8) (nI (m_G le n)) (nI (8 * 2 ^ m_G le n)) (m_all (8 * 2 ^ m_G le n)) (F_T_firstNodes (nI (2 ^ m_G le n))) so1 (nI (m_LT l0 n0)) wt1 mw1 gl1 an1 (nI n1) l1 = some (cso 16, so2, nI (m_G le n), wt, mw, gl, an) ∧ F_T_finish m_N tg (nI 8) (nI (m_G le n)) (nI (8 * 2 ^ m_G le n)) (m_all (8 * 2 ^ m_G le n)) (F_T_firstNodes (nI (2 ^ m_G le n))) (nI (m_G le n)) wt mw gl an st0 met0 mbs0 r0 rg0 0 = some (st, nI (2 ^ D - 1), met, mbs, r, rg, core, lv) ∧ m_told le n 8 lab cso wt mw gl an ∧ m_tab 8 (m_G le n) tg (m_CX 8 (m_G le n) T wt mw gl an) wt gl an False st D met mbs rg core lv := by
  have hGe : m_G le n = m_LT l0 n0 + m_LT l1 n1 := by rw [hle, hnn]; rfl
  obtain ⟨so1, wt1, mw1, gl1, an1, a1, a2, a3, a4⟩ := m_tell (o := 0) (P := 8) (G := m_G le n) h0 w0 (by omega) (by omega) (by omega) lab so0 wt0 mw0 gl0 an0
  obtain ⟨so2, wt, mw, gl, an, b1, b2, -, b4⟩ := m_tell (o := m_LT l0 n0) (P := 8) (G := m_G le n) h1 w1 (by omega) (by omega) (by omega) lab so1 wt1 mw1 gl1 an1
  obtain ⟨cso, x1, x2⟩ : ∃ cso : Nat → Int64, (∀ j, j < 16 → cso j = so1 j) ∧ ∀ q, cso (16 * 1 + q) = so2 q := ⟨fun j => if j < 16 then so1 j else so2 (j - 16), fun j hj => if_pos hj, fun q => by
    show (if 16 * 1 + q < 16 then so1 (16 * 1 + q) else so2 (16 * 1 + q - 16)) = so2 q
    rw [if_neg (by omega), show 16 * 1 + q - 16 = q by omega]⟩
  have ht : m_told le n 8 lab cso wt mw gl an := fun w hw2 => by
    rcases (show w = 0 ∨ w = 1 by omega) with rfl | rfl
    · have h9 := m_td_keep w0 (m_td_of (w := 0) a2 (cso := so1) (fun q => by rw [Nat.mul_zero, Nat.zero_add])) (so' := cso) (wt' := wt) (mw' := mw) (gl' := gl) (an' := an) (fun j _ hj => x1 j (by omega)) (fun j hj => b4 j (by omega))
      rw [hle, hnn] at h9 ⊢
      exact h9
    · have h9 := m_td_of (w := 1) b2 x2
      rw [hle, hnn] at h9 ⊢
      exact h9
  have han := m_told_an ht
  obtain ⟨st, D, met, mbs, r, rg, core, lv, c1, c2⟩ := m_finish (P := 8) (G := m_G le n) (by omega) (by omega) hT wt mw gl an han st0 met0 mbs0 r0 rg0 False 0 (Or.inr ⟨rfl, fun z => z⟩)
  refine ⟨so1, wt1, mw1, gl1, an1, so2, cso, wt, mw, gl, an, st, D, met, mbs, r, rg, core, lv, m_topen (by omega) (by omega), ?_, ?_, c1, ht, c2⟩
  · rw [Nat.zero_add] at a1
    rw [x1 0 (by omega)]
    exact a1
  · rw [← hGe] at b1
    have x3 : cso 16 = so2 0 := x2 0
    rw [x3]
    exact b1
