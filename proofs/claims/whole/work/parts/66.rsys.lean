/-! the reference's graph of a system -/
def m_mvs (now : Nat → Int32) (P mv : Nat) (act frm tto : Nat → Nat) : Prop := now 0 = nI P ∧ P ≤ 5 ∧ now 6 = nI mv ∧ mv ≤ 10 ∧ ∀ j, j < mv → now (7 + 3 * j) = nI (act j) ∧ act j < 2 ∧ now (7 + 3 * j + 1) = nI (frm j) ∧ frm j < P ∧ now (7 + 3 * j + 2) = nI (tto j) ∧ tto j < P
def m_HM (mv : Nat) (act frm : Nat → Nat) (a s : Nat) : Prop := ∃ m, m < mv ∧ act m = a ∧ frm m = s
def m_tg (P mv : Nat) (act frm tto : Nat → Nat) (k s t : Nat) : Prop := (k < 2 ∧ ∃ m, m < mv ∧ act m = k ∧ frm m = s ∧ tto m = t) ∨ (k = 2 ∧ s = t ∧ s < P ∧ ∀ m, m < mv → frm m ≠ s)
section
variable {now : Nat → Int32} {P mv : Nat} {act frm tto : Nat → Nat}
theorem m_hasMove (hm : m_mvs now P mv act frm tto) {a s : Nat} (ha : a < 2) (hs : s < P) : ∃ r, F_M_hasMove m_N now (nI a) (nI s) = some r ∧ (r = 1 ∨ r = 0) ∧ (r = 1 ↔ m_HM mv act frm a s) := by
  obtain ⟨g1, g2, g3, g4, g5⟩ := hm
  obtain ⟨r, h1, h2, h3⟩ := m_it (fun m j r => M_hasMove_l1 now (nI a) (nI s) m r (nI j)) id mv (fun j r => (r = 1 ∨ r = 0) ∧ (r = 1 ↔ ∃ m, m < j ∧ act m = a ∧ frm m = s))
    (fun m r _ => by simp (disch := omega) only [M_hasMove_l1_s, g3, m_le, if_pos, id])
    (fun m j r hj hI => by
      obtain ⟨k1, k2, k3, k4, k5, k6⟩ := g5 j hj
      have e0 : M_hasMove_l1 now (nI a) (nI s) (m + 1) r (nI j) = ((if r = 0 then (if act j = a then (if frm j = s then (some (1 : Int32)) else (some (0 : Int32))) else (some (0 : Int32))) else (some (1 : Int32))).bind fun o7 => (M_hasMove_l1 now (nI a) (nI s) m o7 (nI (j + 1)))) := by
        simp (disch := omega) only [M_hasMove_l1_s, g3, m_le, if_neg, m_e7, m_e3, pk_mul, nI_add, nI_1, m_inb, m_chkT, nI_clamp, k1, k3, m_eq]
      rcases hI with ⟨rfl | rfl, hI⟩
      · rw [if_neg m_n10, Option.bind_some] at e0
        refine ⟨1, ⟨Or.inl rfl, ⟨fun _ => ?_, fun _ => rfl⟩⟩, e0⟩
        obtain ⟨x, x1, x2⟩ := hI.mp rfl
        exact ⟨x, by omega, x2⟩
      · rw [if_pos rfl] at e0
        by_cases c1 : act j = a ∧ frm j = s
        · rw [if_pos c1.1, if_pos c1.2, Option.bind_some] at e0
          exact ⟨1, ⟨Or.inl rfl, ⟨fun _ => ⟨j, by omega, c1⟩, fun _ => rfl⟩⟩, e0⟩
        · refine ⟨0, ⟨Or.inr rfl, ⟨fun z => absurd z (by decide), fun ⟨x, x1, x2⟩ => ?_⟩⟩, e0.trans ?_⟩
          · by_cases hx : x = j
            · subst hx
              exact absurd x2 c1
            · exact hI.mpr ⟨x, by omega, x2⟩
          · by_cases c2 : act j = a
            · rw [if_pos c2, if_neg (fun z => c1 ⟨c2, z⟩), Option.bind_some]
            · rw [if_neg c2, Option.bind_some])
    mv 0 m_N 0 (by omega) (by show _ < 5000; omega) ⟨Or.inr rfl, ⟨fun z => absurd z (by decide), fun ⟨x, x1, _⟩ => by omega⟩⟩
  refine ⟨r, ?_, h2, h3⟩
  simp only [F_M_hasMove]
  rw [show M_hasMove_l1 now (nI a) (nI s) m_N 0 0 = _ from h1, Option.bind_some]
  rcases h2 with rfl | rfl <;> rfl
theorem m_sys4 {q ac s : Nat} (hq0 : 0 < q) (hPq : P * q ≤ 64) (hac : ac < 2) (hs : s < P) (hP : P ≤ 8) (hq8 : q ≤ 8) (x : Int32 × (Nat → Int32) × (Nat → Int32)) {r : Int32} (hr : r = 1 ∨ r = 0) (a1 : Int32) (mt : Nat → Int32) : ∃ mt', M_laysSystem_l4 (nI q, x) r a1 (nI s) (nI ac) m_N 0 mt = some mt' ∧ ∀ j i, m_b (mt' j) i = true ↔ m_b (mt j) i = true ∧ ¬ (r = 1 ∧ a1 = 1 ∧ j / q = s ∧ i = ac + 3) := by
  by_cases hc : r = 1 ∧ a1 = 1
  · obtain ⟨rfl, rfl⟩ := hc
    obtain ⟨mt', h1, h2⟩ := m_it (fun m a mt => M_laysSystem_l4 (nI q, x) 1 1 (nI s) (nI ac) m (nI a) mt) id q (fun a mt' => ∀ j i, m_b (mt' j) i = true ↔ m_b (mt j) i = true ∧ ¬ (j / q = s ∧ j % q < a ∧ i = ac + 3))
      (fun m mt _ => by simp (disch := omega) only [M_laysSystem_l4_s, m_le, if_pos, id])
      (fun m a mt2 ha hI => by
        have hN := m_ndlt hs ha
        refine ⟨upd mt2 (s * q + a) (mt2 (s * q + a) &&& (g_ishl 8 (nI ac) ^^^ -1)), fun j i => ?_, ?_⟩
        · by_cases hj : j = s * q + a
          · subst hj
            rw [pk_us, m_b_and, Bool.and_eq_true, hI, (m_nd ha).1, (m_nd ha).2]
            rcases Nat.lt_or_ge i 32 with hi | hi
            · rw [m_b_not _ hi, m_b_shl8 hac hi]
              by_cases hic : i = ac + 3
              · rw [decide_eq_true hic]
                exact ⟨fun z => absurd z.2 (by decide), fun z => absurd ⟨rfl, by omega, hic⟩ z.2⟩
              · rw [decide_eq_false hic]
                exact ⟨fun z => ⟨z.1.1, fun w => hic w.2.2⟩, fun z => ⟨⟨z.1, fun w => hic w.2.2⟩, rfl⟩⟩
            · rw [m_b_big hi, m_b_big hi]
              exact ⟨fun z => absurd z.2 (by decide), fun z => absurd z.1 (by decide)⟩
          · rw [pk_un hj, hI]
            refine ⟨fun z => ⟨z.1, fun w => z.2 ⟨w.1, ?_, w.2.2⟩⟩, fun z => ⟨z.1, fun w => z.2 ⟨w.1, by omega, w.2.2⟩⟩⟩
            have h9 := m_nd2 (q := q) j
            rw [w.1] at h9
            omega
        · simp (disch := omega) only [M_laysSystem_l4_s, m_le, if_neg, m_n10, if_false, if_true, pk_mul, nI_add, m_inb, m_chkT, nI_clamp, nI_1])
      q 0 m_N mt (by omega) (by show _ < 5000; omega) (fun j i => ⟨fun z => ⟨z, fun w => by omega⟩, fun z => z.1⟩)
    refine ⟨mt', h1, fun j i => (h2 j i).trans ⟨fun z => ⟨z.1, fun w => z.2 ⟨w.2.2.1, Nat.mod_lt _ hq0, w.2.2.2⟩⟩, fun z => ⟨z.1, fun w => z.2 ⟨rfl, rfl, w.1, w.2.2⟩⟩⟩⟩
  · refine ⟨mt, ?_, fun j i => ⟨fun z => ⟨z, fun w => hc ⟨w.1, w.2.1⟩⟩, fun z => z.1⟩⟩
    have z1 := M_laysSystem_l4_s (nI q, x) r a1 (nI s) (nI ac) 4999 0 mt
    rw [if_neg (show ¬ nI q ≤ 0 by rw [m_le0 (by omega)]; omega)] at z1
    rcases hr with rfl | rfl
    · rw [if_neg m_n10, if_neg (fun z => hc ⟨rfl, z⟩)] at z1
      exact z1
    · rw [if_pos rfl] at z1
      exact z1
theorem m_sys3 {q s : Nat} (hm : m_mvs now P mv act frm tto) (hq0 : 0 < q) (hPq : P * q ≤ 64) (hs : s < P) (hq8 : q ≤ 8) (x : Int32 × (Nat → Int32) × (Nat → Int32)) (a1 : Int32) (mt : Nat → Int32) : ∃ st mt', M_laysSystem_l3 m_N now (nI s) (nI q, x) a1 m_N 1 0 mt = some (st, mt') ∧ (st = 1 ∨ st = 0) ∧ (st = 1 ↔ ∀ m, m < mv → frm m ≠ s) ∧ ∀ j i, m_b (mt' j) i = true ↔ m_b (mt j) i = true ∧ ∀ ac, ac < 2 → ¬ (m_HM mv act frm ac s ∧ a1 = 1 ∧ j / q = s ∧ i = ac + 3) := by
  have hP := hm.2.1
  obtain ⟨r0, b1, b2, b3⟩ := m_hasMove hm (a := 0) (by omega) hs
  obtain ⟨r1, c1, c2, c3⟩ := m_hasMove hm (a := 1) (by omega) hs
  obtain ⟨m1, d1, d2⟩ := m_sys4 hq0 hPq (ac := 0) (by omega) hs (by omega) hq8 x b2 a1 mt
  obtain ⟨m2, e1, e2⟩ := m_sys4 hq0 hPq (ac := 1) (by omega) hs (by omega) hq8 x c2 a1 m1
  have z1 := M_laysSystem_l3_s m_N now (nI s) (nI q, x) a1 4999 1 0 mt
  have z2 := M_laysSystem_l3_s m_N now (nI s) (nI q, x) a1 4998 (if r0 = 0 then 1 else 0) 1 m1
  have z3 := M_laysSystem_l3_s m_N now (nI s) (nI q, x) a1 4997 (if (if r0 = 0 then (1 : Int32) else 0) = 0 then 0 else (if r1 = 0 then 1 else 0)) 2 m2
  rw [if_neg (by decide), show F_M_hasMove m_N now 0 (nI s) = _ from b1, Option.bind_some, show M_laysSystem_l4 (nI q, x) r0 a1 (nI s) 0 m_N 0 mt = _ from d1, Option.bind_some, if_neg m_n10] at z1
  rw [if_neg (show ¬ (2 : Int32) ≤ 1 by decide), show F_M_hasMove m_N now 1 (nI s) = _ from c1, Option.bind_some, show M_laysSystem_l4 (nI q, x) r1 a1 (nI s) 1 m_N 0 m1 = _ from e1, Option.bind_some] at z2
  rw [if_pos (show (2 : Int32) ≤ 2 by decide)] at z3
  refine ⟨_, m2, z1.trans (z2.trans z3), ?_, ?_, fun j i => ?_⟩
  · rcases b2 with rfl | rfl <;> rcases c2 with rfl | rfl <;> decide
  · have hno : (∀ m, m < mv → frm m ≠ s) ↔ ¬ m_HM mv act frm 0 s ∧ ¬ m_HM mv act frm 1 s := by
      refine ⟨fun z => ⟨fun ⟨m, w1, w2, w3⟩ => z m w1 w3, fun ⟨m, w1, w2, w3⟩ => z m w1 w3⟩, fun ⟨w1, w2⟩ m hmm hfr => ?_⟩
      have := (hm.2.2.2.2 m hmm).2.1
      rcases (show act m = 0 ∨ act m = 1 by omega) with h | h
      · exact w1 ⟨m, hmm, h, hfr⟩
      · exact w2 ⟨m, hmm, h, hfr⟩
    rw [hno]
    rcases b2 with rfl | rfl
    · rw [if_pos (show (if (1 : Int32) = 0 then (1 : Int32) else 0) = 0 by decide)]
      exact ⟨fun z => absurd z (by decide), fun z => absurd (b3.mp rfl) z.1⟩
    · have n0 : ¬ m_HM mv act frm 0 s := fun z => absurd (b3.mpr z) (by decide)
      rcases c2 with rfl | rfl
      · exact ⟨fun z => absurd z (by decide), fun z => absurd (c3.mp rfl) z.2⟩
      · have n1 : ¬ m_HM mv act frm 1 s := fun z => absurd (c3.mpr z) (by decide)
        exact ⟨fun _ => ⟨n0, n1⟩, fun _ => by decide⟩
  · rw [e2, d2]
    refine ⟨fun ⟨⟨z1, z2⟩, z3⟩ => ⟨z1, fun ac hac => ?_⟩, fun ⟨z1, z2⟩ => ⟨⟨z1, fun w => z2 0 (by omega) ⟨b3.mp w.1, w.2⟩⟩, fun w => z2 1 (by omega) ⟨c3.mp w.1, w.2⟩⟩⟩
    rcases (show ac = 0 ∨ ac = 1 by omega) with rfl | rfl
    · exact fun w => z2 ⟨b3.mpr w.1, w.2⟩
    · exact fun w => z3 ⟨c3.mpr w.1, w.2⟩
end
/-- one formula as two, the other none -/
def m_n1 (n w : Nat) : Nat := if w = 0 then n else 0
theorem m_fs1 {le : Nat → Int32} {n : Nat} (hn : n ≤ 16) (hw : m_WF le n) (h3 : m_LT le n ≤ 3) : m_fs (fun _ => le) (m_n1 n) := by
  refine ⟨fun w hw2 => ?_, ?_⟩
  · rcases (show w = 0 ∨ w = 1 by omega) with rfl | rfl
    · exact ⟨hn, Or.inr hw⟩
    · exact ⟨Nat.zero_le _, Or.inl rfl⟩
  · show m_LT le n + m_LT le 0 ≤ 3
    exact h3
theorem m_lays1 {le : Nat → Int32} {n : Nat} {letter sizes lnum many : Nat → Int32} (hl : m_lay le n 0 0 letter sizes lnum many) (h1 : many 1 = 0) : m_lays (fun _ => le) (m_n1 n) letter sizes lnum many := by
  intro w hw2
  rcases (show w = 0 ∨ w = 1 by omega) with rfl | rfl
  · exact hl
  · exact ⟨h1, fun p hp => by simp only [m_n1, show ¬ (1 : Nat) = 0 by omega, if_false] at hp; omega⟩
def m_edge (le : Nat → Nat → Int32) (n : Nat → Nat) (so : Nat → Int32) (tg : Nat → Nat → Nat → Prop) (k u v : Nat) : Prop := tg k (u / 2 ^ m_G le n) (v / 2 ^ m_G le n) ∧ m_ok le n (m_so so u) (m_so so v)
theorem m_rsys {now le0 : Nat → Int32} {P mv n0 : Nat} {act frm tto : Nat → Nat} (hm : m_mvs now P mv act frm tto) (hn : n0 ≤ 16) (hw : m_WF le0 n0) (h3 : m_LT le0 n0 ≤ 3) (h0 : now 37 = nI n0) (hr : ∀ p, p < n0 → now (37 + 1 + p) = le0 p) (letter sizes lnum many lab so meets f t b : Nat → Int32) (a1 : Int32) (le : Nat → Nat → Int32) (n : Nat → Nat) (hle : le = fun _ => le0) (hnn : n = m_n1 n0) : ∃ letter' sizes' lnum' many' lab' so' meets' W f' t' b', F_M_laysSystem m_N now letter sizes lnum many lab so meets f t b a1 = some (nI (m_G le n), nI P, nI (2 ^ m_G le n), nI W, letter', sizes', lnum', many', lab', so', meets', f', t', b') ∧ m_lays le n letter' sizes' lnum' many' ∧ (∀ s, s < P → lab' s = now (1 + s)) ∧ (∀ u, u < P * 2 ^ m_G le n → (∀ w, w < 2 → m_val (le w) (n w) (lab' (u / 2 ^ m_G le n)) (fun p => (u % 2 ^ m_G le n).testBit (m_o le n w + m_LT (le w) p)) (m_so so' u w)) ∧ ∀ i, m_b (meets' u) i = true ↔ m_mt le n (m_so so' u) i ∧ ∀ ac, ac < 2 → ¬ (m_HM mv act frm ac (u / 2 ^ m_G le n) ∧ a1 = 1 ∧ i = ac + 3)) ∧ W ≤ 640 ∧ m_ways (m_edge le n so' (m_tg P mv act frm tto)) W f' t' b' := by
  have hf : m_fs le n := by rw [hle, hnn]; exact m_fs1 hn hw h3
  obtain ⟨A, S, B, mn, e1, e2, e3⟩ := m_laysO hn hw h0 hr letter sizes lnum many
  have hl : m_lays le n A S B mn := by rw [hle, hnn]; exact m_lays1 e2 e3
  have hGe : m_G le n = m_LT le0 n0 := by rw [hle, hnn]; rfl
  have h8 := m_p8 hf.2
  have hP := hm.2.1
  have hPq : P * 2 ^ m_G le n ≤ 64 := by
    have h9 : P * 2 ^ m_G le n ≤ 5 * 8 := Nat.mul_le_mul hP h8.2
    omega
  obtain ⟨lab', l1, l2⟩ := m_it (fun m s lb => M_laysSystem_l1 now m (nI s) lb) id P (fun s lb => ∀ j, j < s → lb j = now (1 + j))
    (fun m lb _ => by simp (disch := omega) only [M_laysSystem_l1_s, hm.1, m_le, if_pos, id])
    (fun m s lb hs hI => by
      refine ⟨upd lb s (now (1 + s)), fun j hj => ?_, by simp (disch := omega) only [M_laysSystem_l1_s, hm.1, m_le, if_neg, m_1p, m_inb, m_chkT, nI_clamp, nI_1]⟩
      by_cases hjs : j = s
      · subst hjs
        exact pk_us
      · rw [pk_un hjs]
        exact hI j (by omega))
    P 0 m_N lab (by omega) (by show _ < 5000; omega) (fun j hj => by omega)
  obtain ⟨so', mt0, g1, g2⟩ := m_nodesL hf hl hPq (by omega) lab' so meets
  have hdet : ∀ {F T : Nat}, F < P → _ := fun {F T} hF => m_hdet (T := T) hf g2 hF
  generalize hq : 2 ^ m_G le n = q at *
  have hq0 : 0 < q := h8.1
  have hq8 : q ≤ 8 := h8.2
  obtain ⟨s2, a1', i1, i2, i3⟩ := m_it (fun m s (z : Nat × (Nat → Int32) × (Nat → Int32) × (Nat → Int32) × (Nat → Int32)) => M_laysSystem_l2 m_N now (nI q, 0, so', mt0) a1 (nI (m_LT le0 n0), A, S, B, mn) m (nI s) (nI z.1) z.2.1 z.2.2.1 z.2.2.2.1 z.2.2.2.2) (fun z => (nI z.1, z.2.1, z.2.2.1, z.2.2.2.1, z.2.2.2.2)) P (fun s z => z.1 ≤ 8 * s ∧ (∀ j i, m_b (z.2.1 j) i = true ↔ m_b (mt0 j) i = true ∧ ∀ ac, ac < 2 → ¬ (j / q < s ∧ m_HM mv act frm ac (j / q) ∧ a1 = 1 ∧ i = ac + 3)) ∧ m_ways (fun k u v => k = 2 ∧ u / q < s ∧ u / q = v / q ∧ (∀ m, m < mv → frm m ≠ u / q) ∧ m_ok le n (m_so so' u) (m_so so' v)) z.1 z.2.2.1 z.2.2.2.1 z.2.2.2.2)
    (fun m z _ => by simp (disch := omega) only [M_laysSystem_l2_s, hm.1, m_le, if_pos])
    (fun m s z hs hI => by
      obtain ⟨j1, j2, j3⟩ := hI
      obtain ⟨st, mt', k1, k2, k3, k4⟩ := m_sys3 hm hq0 hPq hs hq8 (0, so', mt0) a1 z.2.1
      have hmeet : ∀ j i, m_b (mt' j) i = true ↔ m_b (mt0 j) i = true ∧ ∀ ac, ac < 2 → ¬ (j / q < s + 1 ∧ m_HM mv act frm ac (j / q) ∧ a1 = 1 ∧ i = ac + 3) := fun j i => by
        rw [k4, j2]
        refine ⟨fun ⟨⟨w1, w2⟩, w3⟩ => ⟨w1, fun ac hac ⟨y1, y2, y3, y4⟩ => ?_⟩, fun ⟨w1, w2⟩ => ⟨⟨w1, fun ac hac ⟨y1, y2⟩ => w2 ac hac ⟨by omega, y2⟩⟩, fun ac hac ⟨y1, y2, y3, y4⟩ => w2 ac hac ⟨by omega, by rw [y3]; exact y1, y2, y4⟩⟩⟩
        by_cases hjs : j / q = s
        · exact w3 ac hac ⟨by rw [← hjs]; exact y2, y3, hjs, y4⟩
        · exact w2 ac hac ⟨by omega, y2, y3, y4⟩
      have e0 : M_laysSystem_l2 m_N now (nI q, 0, so', mt0) a1 (nI (m_LT le0 n0), A, S, B, mn) (m + 1) (nI s) (nI z.1) z.2.1 z.2.2.1 z.2.2.2.1 z.2.2.2.2 = ((if st = 0 then (some (nI z.1, z.2.2.1, z.2.2.2.1, z.2.2.2.2)) else ((F_M_laysWays m_N (nI q) (nI z.1) A S mn so' z.2.2.1 z.2.2.2.1 z.2.2.2.2 (nI s) (nI s) (2 : Int32)).bind fun o38 => (some (o38.1, o38.2.1, o38.2.2.1, o38.2.2.2)))).bind fun o37 => (M_laysSystem_l2 m_N now (nI q, 0, so', mt0) a1 (nI (m_LT le0 n0), A, S, B, mn) m (nI (s + 1)) o37.1 mt' o37.2.1 o37.2.2.1 o37.2.2.2)) := by
        rw [M_laysSystem_l2_s, hm.1, if_neg (by rw [m_le (by omega) (by omega)]; omega), k1, Option.bind_some, nI_1]
      rcases k2 with rfl | rfl
      · have hno := k3.mp rfl
        obtain ⟨W', f', t', b', w1, w2, w3⟩ := m_waysL (k := 2) hf hl hq0 hq8 hPq hs hs (W0 := z.1) (by omega) _ (hdet hs) _ _ _ j3
        rw [if_neg m_n10, show F_M_laysWays m_N (nI q) (nI z.1) A S mn so' z.2.2.1 z.2.2.2.1 z.2.2.2.2 (nI s) (nI s) 2 = _ from w1, Option.bind_some, Option.bind_some] at e0
        refine ⟨(W', mt', f', t', b'), ⟨by show W' ≤ _; omega, hmeet, m_ways_iff w3 (fun k u v => ⟨fun y => ?_, fun ⟨y1, y2, y3, y4, y5⟩ => ?_⟩)⟩, e0⟩
        · rcases y with ⟨y1, y2, y3, y4, y5⟩ | ⟨y1, y2, y3, y4⟩
          · exact ⟨y1, by omega, y3, y4, y5⟩
          · exact ⟨y1, by omega, by omega, by rw [y2]; exact hno, y4⟩
        · by_cases hus : u / q = s
          · exact Or.inr ⟨y1, hus, by omega, y5⟩
          · exact Or.inl ⟨y1, by omega, y3, y4, y5⟩
      · rw [if_pos rfl, Option.bind_some] at e0
        refine ⟨(z.1, mt', z.2.2.1, z.2.2.2.1, z.2.2.2.2), ⟨by show z.1 ≤ _; omega, hmeet, m_ways_iff j3 (fun k u v => ⟨fun ⟨y1, y2, y3, y4, y5⟩ => ⟨y1, by omega, y3, y4, y5⟩, fun ⟨y1, y2, y3, y4, y5⟩ => ⟨y1, ?_, y3, y4, y5⟩⟩)⟩, e0⟩
        have hus : u / q ≠ s := fun w => absurd (k3.mpr (by rw [← w]; exact y4)) (by decide)
        omega)
    P 0 m_N (0, mt0, f, t, b) (by omega) (by show _ < 5000; omega) ⟨Nat.le_refl _, fun j i => ⟨fun z => ⟨z, fun ac hac ⟨w, _⟩ => Nat.not_lt_zero _ w⟩, fun z => z.1⟩, ⟨fun i hi => absurd hi (Nat.not_lt_zero _), fun k u v ⟨_, z, _⟩ => absurd z (Nat.not_lt_zero _)⟩⟩
  have hmv := hm.2.2.2.1
  obtain ⟨s3, a2', x1, x2⟩ := m_it (fun m j (z : Nat × (Nat → Int32) × (Nat → Int32) × (Nat → Int32)) => M_laysSystem_l5 m_N now (nI q, 0, so', mt0) (nI (m_LT le0 n0), A, S, B, mn) m (nI j) (nI z.1) z.2.1 z.2.2.1 z.2.2.2) (fun z => (nI z.1, z.2.1, z.2.2.1, z.2.2.2)) mv (fun j z => z.1 ≤ 40 + 8 * j ∧ m_ways (fun k u v => (k = 2 ∧ u / q < P ∧ u / q = v / q ∧ (∀ m, m < mv → frm m ≠ u / q) ∧ m_ok le n (m_so so' u) (m_so so' v)) ∨ (∃ m, m < j ∧ act m = k ∧ frm m = u / q ∧ tto m = v / q ∧ m_ok le n (m_so so' u) (m_so so' v))) z.1 z.2.1 z.2.2.1 z.2.2.2)
    (fun m z _ => by simp (disch := omega) only [M_laysSystem_l5_s, hm.2.2.1, m_le, if_pos])
    (fun m j z hj hI => by
      obtain ⟨k1, k2, k3, k4, k5, k6⟩ := hm.2.2.2.2 j hj
      have hmv := hm.2.2.2.1
      obtain ⟨W', f', t', b', w1, w2, w3⟩ := m_waysL (k := act j) hf hl hq0 hq8 hPq k4 k6 (W0 := z.1) (by omega) _ (hdet k4) _ _ _ hI.2
      refine ⟨(W', f', t', b'), ⟨by show W' ≤ _; omega, m_ways_iff w3 (fun k u v => ⟨fun y => ?_, fun y => ?_⟩)⟩, ?_⟩
      · rcases y with (y | ⟨y, y1, y2⟩) | ⟨y1, y2, y3, y4⟩
        · exact Or.inl y
        · exact Or.inr ⟨y, by omega, y2⟩
        · exact Or.inr ⟨j, by omega, y1.symm, y2.symm, y3.symm, y4⟩
      · rcases y with y | ⟨y, y1, y2, y3, y4, y5⟩
        · exact Or.inl (Or.inl y)
        · by_cases hyj : y = j
          · subst hyj
            exact Or.inr ⟨y2.symm, y3.symm, y4.symm, y5⟩
          · exact Or.inl (Or.inr ⟨y, by omega, y2, y3, y4, y5⟩)
      · have hz := hI.1
        simp (disch := omega) only [M_laysSystem_l5_s, hm.2.2.1, m_le, if_neg, m_e7, m_e3, m_e2, pk_mul, nI_add, nI_1, m_inb, m_chkT, nI_clamp, k1, k3, k5]
        rw [w1, Option.bind_some])
    mv 0 m_N (s2.1, s2.2.2.1, s2.2.2.2.1, s2.2.2.2.2) (by omega) (by have := hm.2.2.2.1; show _ < 5000; omega) ⟨by show s2.1 ≤ _; omega, m_ways_iff i3 (fun k u v => ⟨fun z => Or.inl z, fun z => by
      rcases z with z | ⟨_, z, _⟩
      · exact z
      · omega⟩)⟩
  have hmv := hm.2.2.2.1
  refine ⟨A, S, B, mn, lab', so', s2.2.1, s3.1, s3.2.1, s3.2.2.1, s3.2.2.2, ?_, hl, l2, fun u hu => ⟨?_, fun i => ?_⟩, by omega, m_ways_iff x2 (fun k u v => ⟨fun z => ?_, fun z => ?_⟩)⟩
  · rw [hGe] at g1
    simp only [F_M_laysSystem, e1, Option.bind_some, hm.1]
    rw [show M_laysSystem_l1 now m_N 0 lab = _ from l1, Option.bind_some]
    rw [show F_M_laysNodes m_N (nI (m_LT le0 n0)) (nI P) A S B mn (id lab') so meets = _ from g1, Option.bind_some]
    rw [show M_laysSystem_l2 m_N now (nI q, 0, so', mt0) a1 (nI (m_LT le0 n0), A, S, B, mn) m_N 0 0 mt0 f t b = _ from a1', Option.bind_some]
    rw [show M_laysSystem_l5 m_N now (nI q, 0, so', mt0) (nI (m_LT le0 n0), A, S, B, mn) m_N 0 (nI s2.1) s2.2.2.1 s2.2.2.2.1 s2.2.2.2.2 = _ from a2', Option.bind_some, hGe]
    rfl
  · have h9 := (g2 u hu).1
    rw [hq] at h9
    exact h9
  · rw [i2, (g2 u hu).2]
    have hud : u / q < P := (m_lt_node hq0).mp hu
    exact ⟨fun ⟨z1, z2⟩ => ⟨z1, fun ac hac w => z2 ac hac ⟨hud, w⟩⟩, fun ⟨z1, z2⟩ => ⟨z1, fun ac hac w => z2 ac hac w.2⟩⟩
  · simp only [m_edge, hq, m_tg]
    rcases z with ⟨z1, z2, z3, z4, z5⟩ | ⟨m, z1, z2, z3, z4, z5⟩
    · exact ⟨Or.inr ⟨z1, z3, z2, z4⟩, z5⟩
    · exact ⟨Or.inl ⟨by rw [← z2]; exact (hm.2.2.2.2 m z1).2.1, m, z1, z2, z3, z4⟩, z5⟩
  · simp only [m_edge, hq, m_tg] at z
    rcases z with ⟨⟨z1, m, z2, z3, z4, z5⟩ | ⟨z1, z2, z3, z4⟩, z6⟩
    · exact Or.inr ⟨m, z2, z3, z4, z5, z6⟩
    · exact Or.inl ⟨z1, z3, z2, z4, z6⟩
