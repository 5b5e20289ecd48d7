/-! both sides: what lives -/
section
variable {le : Nat → Nat → Int32} {n : Nat → Nat} {P : Nat} {lab : Nat → Int32} {cso wt mw gl : Nat → Int64} {an rso : Nat → Int32} {T : Nat → Nat → Nat → Prop}
theorem m_lk_R (h : m_lk le n P lab cso wt mw gl an rso) (hT : ∀ k s t, T k s t → k < 3) (hXN : ∀ k u v, m_edge le n rso T k u v → k < 3 ∧ u < P * 2 ^ m_G le n ∧ v < P * 2 ^ m_G le n) {a b : Nat} (ha : a < P * 2 ^ m_G le n) (hb : b < P * 2 ^ m_G le n) : m_R (m_CX P (m_G le n) T wt mw gl an) (P * 2 ^ m_G le n) a b ↔ m_R (m_edge le n rso T) (P * 2 ^ m_G le n) (m_pf le n a) (m_pf le n b) := by
  refine m_Wk_map (f := m_pf le n) (fun u hu => ⟨(m_lk_pf h hu).1, (m_lk_pf h hu).2.1⟩) (fun u v ⟨k, z⟩ => (hXN k u v z).2) (fun u v => ⟨fun ⟨k, z⟩ => ?_, fun ⟨z1, z2, k, z3⟩ => ⟨k, (m_lk_X h hT k u v).mpr ⟨z1, z2, z3⟩⟩⟩) ha hb
  have := (m_lk_X h hT k u v).mp z
  exact ⟨this.1, this.2.1, k, this.2.2⟩
theorem m_lk_core (h : m_lk le n P lab cso wt mw gl an rso) (hT : ∀ k s t, T k s t → k < 3) (hXN : ∀ k u v, m_edge le n rso T k u v → k < 3 ∧ u < P * 2 ^ m_G le n ∧ v < P * 2 ^ m_G le n) {tg : Nat → Nat → Int32} {fair : Prop} {D : Nat} {met mbs : Nat → Int32} (hd : m_dues (P * 2 ^ m_G le n) (m_G le n) (2 ^ m_G le n) wt gl an tg fair D met mbs) {H : Nat → Nat → Prop} (hH : fair → ∀ ac, ac < 2 → ∀ s, s < P → (tg ac s = 0 ↔ ¬ H ac s)) {c : Nat} (hc : c < P * 2 ^ m_G le n) : (m_R (m_CX P (m_G le n) T wt mw gl an) (P * 2 ^ m_G le n) c c ∧ m_meets (P * 2 ^ m_G le n) D (m_CX P (m_G le n) T wt mw gl an) met mbs (m_cls (m_R (m_CX P (m_G le n) T wt mw gl an) (P * 2 ^ m_G le n)) c)) ↔ (m_R (m_edge le n rso T) (P * 2 ^ m_G le n) (m_pf le n c) (m_pf le n c) ∧ ∀ i, i < 5 → m_met (m_R (m_edge le n rso T) (P * 2 ^ m_G le n)) (P * 2 ^ m_G le n) (m_edge le n rso T) (m_MT le n rso H fair) (m_pf le n c) i) := by
  have hR := @m_lk_R le n P lab cso wt mw gl an rso T h hT hXN
  rw [hR hc hc]
  refine and_congr_right fun hcc => ?_
  have hS : ∃ v, v < P * 2 ^ m_G le n ∧ m_cls (m_R (m_CX P (m_G le n) T wt mw gl an) (P * 2 ^ m_G le n)) c v := ⟨c, hc, (hR hc hc).mpr hcc, (hR hc hc).mpr hcc⟩
  have hcond := m_cond h hd hH (m_cls (m_R (m_CX P (m_G le n) T wt mw gl an) (P * 2 ^ m_G le n)) c) (fun k => ∃ a b, m_CX P (m_G le n) T wt mw gl an k a b ∧ m_cls (m_R (m_CX P (m_G le n) T wt mw gl an) (P * 2 ^ m_G le n)) c a ∧ m_cls (m_R (m_CX P (m_G le n) T wt mw gl an) (P * 2 ^ m_G le n)) c b) hS
  refine Iff.trans ⟨fun z i hi => ?_, fun z i hi => ?_⟩ (hcond.trans ⟨fun z i hi => ?_, fun z i hi => ?_⟩)
  · rcases z i hi with w | ⟨k, a, b, w1, w2, w3, w4⟩
    · exact Or.inl w
    · exact Or.inr ⟨k, w1.1, ⟨a, b, w1, w2, w3⟩, w4⟩
  · rcases z i hi with w | ⟨k, w0, ⟨a, b, w1, w2, w3⟩, w4⟩
    · exact Or.inl w
    · exact Or.inr ⟨k, a, b, w1, w2, w3, w4⟩
  · rcases z i hi with ⟨v, w1, w2, w3⟩ | ⟨k, w0, ⟨a, b, w1, w2, w3⟩, w4⟩
    · exact Or.inl ⟨m_pf le n v, (m_lk_pf h w1).1, (hR hc w1).mp w2.1, (hR w1 hc).mp w2.2, w3⟩
    · have q := (m_lk_X h hT k a b).mp w1
      exact Or.inr ⟨k, m_pf le n a, m_pf le n b, q.2.2, w0, w4, (hR hc q.1).mp w2.1, (hR q.1 hc).mp w2.2, (hR hc q.2.1).mp w3.1, (hR q.2.1 hc).mp w3.2⟩
  · rcases z i hi with ⟨v, w1, w2, w3, w4⟩ | ⟨k, a, b, w1, w2, w3, w4, w5, w6, w7⟩
    · have q := m_lk_pf h w1
      refine Or.inl ⟨m_pf le n v, q.1, ⟨(hR hc q.1).mpr ?_, (hR q.1 hc).mpr ?_⟩, ?_⟩
      · rw [q.2.1]; exact w2
      · rw [q.2.1]; exact w3
      · rw [q.2.1]; exact w4
    · have q0 := hXN k a b w1
      have qa := m_lk_pf h q0.2.1
      have qb := m_lk_pf h q0.2.2
      refine Or.inr ⟨k, w2, ⟨m_pf le n a, m_pf le n b, (m_lk_X h hT k _ _).mpr ⟨qa.1, qb.1, ?_⟩, ⟨(hR hc qa.1).mpr ?_, (hR qa.1 hc).mpr ?_⟩, ⟨(hR hc qb.1).mpr ?_, (hR qb.1 hc).mpr ?_⟩⟩, w3⟩
      · rw [qa.2.1, qb.2.1]; exact w1
      · rw [qa.2.1]; exact w4
      · rw [qa.2.1]; exact w5
      · rw [qb.2.1]; exact w6
      · rw [qb.2.1]; exact w7
/-- goes on, as the reference tells it -/
def m_on (le : Nat → Nat → Int32) (n : Nat → Nat) (P : Nat) (rso : Nat → Int32) (T : Nat → Nat → Nat → Prop) (H : Nat → Nat → Prop) (fair : Prop) (v : Nat) : Prop := ∃ u, u < P * 2 ^ m_G le n ∧ m_R (m_edge le n rso T) (P * 2 ^ m_G le n) u u ∧ (∀ i, i < 5 → m_met (m_R (m_edge le n rso T) (P * 2 ^ m_G le n)) (P * 2 ^ m_G le n) (m_edge le n rso T) (m_MT le n rso H fair) u i) ∧ (v = u ∨ m_R (m_edge le n rso T) (P * 2 ^ m_G le n) v u)
theorem m_lk_live (h : m_lk le n P lab cso wt mw gl an rso) (hT : ∀ k s t, T k s t → k < 3) (hXN : ∀ k u v, m_edge le n rso T k u v → k < 3 ∧ u < P * 2 ^ m_G le n ∧ v < P * 2 ^ m_G le n) {tg : Nat → Nat → Int32} {fair : Prop} {D : Nat} {met mbs : Nat → Int32} {st : Nat → Nat → Int64} {rg : Nat → Int64} {core lv : Int64} (ht : m_tab P (m_G le n) tg (m_CX P (m_G le n) T wt mw gl an) wt gl an fair st D met mbs rg core lv) {H : Nat → Nat → Prop} (hH : fair → ∀ ac, ac < 2 → ∀ s, s < P → (tg ac s = 0 ↔ ¬ H ac s)) {b : Nat} (hb : b < P * 2 ^ m_G le n) : m_B lv b = true ↔ m_on le n P rso T H fair (m_pf le n b) := by
  have h64 := m_lk_64 h
  have hR := @m_lk_R le n P lab cso wt mw gl an rso T h hT hXN
  rw [ht.2.2.2.2 b (by omega)]
  refine ⟨fun ⟨c, z1, z2⟩ => ?_, fun ⟨u, z0, z1, z2, z3⟩ => ?_⟩
  · have hc := (m_R_lt ht.1.1 z2.1).1
    have q := (m_lk_core h hT hXN ht.2.1 hH hc).mp z2
    refine ⟨m_pf le n c, (m_lk_pf h hc).1, q.1, q.2, ?_⟩
    rcases z1 with rfl | z1
    · exact Or.inl rfl
    · exact Or.inr ((hR hb hc).mp z1)
  · have q := m_lk_pf h z0
    have q2 := m_lk_core h hT hXN ht.2.1 hH q.1
    rw [q.2.1] at q2
    refine ⟨m_pf le n u, ?_, q2.mpr ⟨z1, z2⟩⟩
    rcases z3 with z3 | z3
    · refine Or.inl ?_
      rw [← z3, (m_lk_pf h hb).2.1]
    · refine Or.inr ((hR hb q.1).mpr ?_)
      rw [q.2.1]
      exact z3
/-- nodes of a place that live and at which the formula is so, or is not -/
theorem m_lk_there (h : m_lk le n P lab cso wt mw gl an rso) (hn0 : 0 < n 0) {lv : Int64} {g : Nat → Prop} (hlv : ∀ b, b < P * 2 ^ m_G le n → (m_B lv b = true ↔ g (m_pf le n b))) (x : Bool) {s : Nat} : (∃ b, b < P * 2 ^ m_G le n ∧ b / 2 ^ m_G le n = s ∧ m_B lv b = true ∧ m_B (cso 0) b = x) ↔ (∃ u, u < P * 2 ^ m_G le n ∧ u / 2 ^ m_G le n = s ∧ g u ∧ m_b (rso u) 0 = x) := by
  have hv : ∀ b, b < P * 2 ^ m_G le n → m_B (cso 0) b = m_b (rso (m_pf le n b)) 0 := fun b hb => by
    have := m_lk_v h hb 0 (by omega) 0 hn0
    simp only [m_cv, m_so, Nat.mul_zero, Nat.zero_add] at this
    exact this
  refine ⟨fun ⟨b, b1, b2, b3, b4⟩ => ⟨m_pf le n b, (m_lk_pf h b1).1, by rw [(m_lk_pf h b1).2.2]; exact b2, (hlv b b1).mp b3, by rw [← hv b b1]; exact b4⟩, fun ⟨u, u1, u2, u3, u4⟩ => ?_⟩
  have q := m_lk_pf h u1
  refine ⟨m_pf le n u, q.1, by rw [q.2.2]; exact u2, (hlv _ q.1).mpr (by rw [q.2.1]; exact u3), ?_⟩
  rw [hv _ q.1, q.2.1]
  exact u4
end
/-- the class judges one formula over a ground -/
theorem m_judge {P : Nat} (hP : P ≤ 8) {le0 : Nat → Int32} {n0 : Nat} (hn : n0 ≤ 16) (hw : m_WF le0 n0) (h3 : m_LT le0 n0 ≤ 3) (lab : Nat → Int32) {tg : Nat → Nat → Int32} {T : Nat → Nat → Nat → Prop} (hT : m_gt tg T) (so0 wt0 mw0 gl0 : Nat → Int64) (an0 : Nat → Int32) (st0 : Nat → Nat → Int64) (met0 mbs0 : Nat → Int32) (r0 rg0 : Nat → Int64) (fair : Prop) (a1 : Int32) (ha1 : (a1 = 1 ∧ fair) ∨ (a1 = 0 ∧ ¬ fair)) (le : Nat → Nat → Int32) (n : Nat → Nat) (hle : le = fun _ => le0) (hnn : n = m_n1 n0) : ∃ cso wt mw gl an st D met mbs r rg core lv, F_L_judgeGround m_N lab tg (nI P) so0 wt0 mw0 gl0 an0 st0 met0 mbs0 r0 rg0 (nI n0) (nI (m_LT le0 n0)) le0 a1 = some (cso 0, nI (m_G le n), nI (P * 2 ^ m_G le n), m_all (P * 2 ^ m_G le n), F_T_firstNodes (nI (2 ^ m_G le n)), cso, nI (m_G le n), wt, mw, gl, an, st, nI (2 ^ D - 1), met, mbs, r, rg, core, lv) ∧ m_told le n P lab cso wt mw gl an ∧ m_tab P (m_G le n) tg (m_CX P (m_G le n) T wt mw gl an) wt gl an fair st D met mbs rg core lv := by
  have hGe : m_G le n = m_LT le0 n0 := by rw [hle, hnn]; rfl
  obtain ⟨cso, wt, mw, gl, an, a1', a2, a3, a4⟩ := m_tell (o := 0) hn hw (G := m_LT le0 n0) h3 hP (by omega) lab so0 wt0 mw0 gl0 an0
  have ht : m_told le n P lab cso wt mw gl an := fun w hw2 => by
    rw [hGe]
    rcases (show w = 0 ∨ w = 1 by omega) with rfl | rfl
    · have h9 := m_td_of (w := 0) a2 (cso := cso) (fun q => by rw [Nat.mul_zero, Nat.zero_add])
      rw [hle, hnn]
      exact h9
    · rw [hnn]
      exact fun q h1 h2 => absurd h2 (Nat.not_lt_zero _)
  have han := m_told_an ht
  obtain ⟨st, D, met, mbs, r, rg, core, lv, b1, b2⟩ := m_finish (G := m_G le n) (by rw [hGe]; exact h3) hP hT wt mw gl an han st0 met0 mbs0 r0 rg0 fair a1 ha1
  refine ⟨cso, wt, mw, gl, an, st, D, met, mbs, r, rg, core, lv, ?_, ht, b2⟩
  rw [Nat.zero_add] at a1'
  rw [hGe] at b1 ⊢
  simp only [F_L_judgeGround, m_topen h3 hP, Option.bind_some]
  rw [show F_T_tell m_N lab (nI P) (nI (m_LT le0 n0)) (nI (P * 2 ^ m_LT le0 n0)) (F_T_firstNodes (nI (P * 2 ^ m_LT le0 n0))) (F_T_firstNodes (nI (2 ^ m_LT le0 n0))) so0 0 wt0 mw0 gl0 an0 (nI n0) le0 = _ from a1', Option.bind_some]
  dsimp only
  rw [show F_T_finish m_N tg (nI P) (nI (m_LT le0 n0)) (nI (P * 2 ^ m_LT le0 n0)) (F_T_firstNodes (nI (P * 2 ^ m_LT le0 n0))) (F_T_firstNodes (nI (2 ^ m_LT le0 n0))) (nI (m_LT le0 n0)) wt mw gl an st0 met0 mbs0 r0 rg0 a1 = _ from b1, Option.bind_some]
