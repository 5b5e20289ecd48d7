/-! a system told -/
theorem m_isAt {L j c : Nat} (hL : L ≤ 120) (hj : j < L) {text : Nat → Int32} (hc : c ≤ 255) (ht : text j = nI c) (x : Nat) (hx : x ≤ 255) : F_M_isAt (nI L) (nI j) text (nI x) = some (if c = x then 1 else 0) := by
  by_cases h : c = x
  · subst h
    simp (disch := omega) only [F_M_isAt, m_le, if_neg, m_inb, m_chkT, nI_clamp, ht, if_true, Option.bind_some, m_isb1]
  · simp (disch := omega) only [F_M_isAt, m_le, if_neg, m_inb, m_chkT, nI_clamp, ht, m_eq, h, if_false, Option.bind_some, m_isb0]
theorem m_sub1 {ab v : Nat} (ha : ab < 2 ^ 31) (hv : v < 2 ^ 31) : (nI ab - 1 < nI v) = (ab ≤ v) := by
  by_cases h0 : ab = 0
  · subst h0
    apply propext
    refine ⟨fun _ => Nat.zero_le _, fun _ => ?_⟩
    rw [show nI 0 - 1 = (-1 : Int32) from rfl]
    exact Int32.lt_iff_toInt_lt.mpr (by rw [nI_toInt hv]; show (-1 : Int) < v; omega)
  · rw [m_pred (by omega), m_lt (by omega) hv]
    apply propext
    omega
theorem m_num {L : Nat} {typed text : Nat → Int32} (hx : m_tx L typed text) {i : Nat} (hi : i ≤ L) (v0 : Int32) (ab : Nat) (hab : ab ≤ 99) :
    (∃ f x y z w, f ≤ L ∧ F_R_advanceToNumber m_N typed (nI L) (nI i) v0 (nI ab) = some (0, x, nI f, y) ∧ F_M_takesNumber m_N (nI L) (nI i) text (nI ab - 1) = some (0, z, nI f, w)) ∨
    (∃ e j k v, i < e ∧ e ≤ L ∧ v < ab ∧ F_R_advanceToNumber m_N typed (nI L) (nI i) v0 (nI ab) = some (1, nI e, nI j, k, nI v) ∧ F_M_takesNumber m_N (nI L) (nI i) text (nI ab - 1) = some (1, nI e, nI j, nI v)) := by
  have hL := hx.1
  obtain ⟨j, h1, h2, hb, hcase⟩ := m_tok hx hi v0
  have hsc : ∀ d, j + d = L → (j = L ∨ ∃ c, c ≤ 255 ∧ text j = nI c ∧ (c < 48 ∨ 57 < c)) → M_takesNumber_l1 (nI L) text m_N (nI j) 0 = some (nI j, 0) := fun d hd hz => by
    have hf : F_M_isFigure (nI L) (nI j) text = some 0 := by
      rcases hz with hz | ⟨c, hc, ht, hz⟩
      · subst hz
        simp (disch := omega) only [F_M_isFigure, m_le, if_pos, Option.bind_some, m_isb0, m_chkT]
      · by_cases hjL : j = L
        · subst hjL
          simp (disch := omega) only [F_M_isFigure, m_le, if_pos, Option.bind_some, m_isb0, m_chkT]
        · rw [m_fig1 hL (by omega) hc ht, if_neg (by omega)]
    have h9 := M_takesNumber_l1_s (nI L) text 4999 (nI j) 0
    rw [hf] at h9
    exact h9
  have hbad : ∀ k x w, ¬ k = -2 → M_takesNumber_l1 (nI L) text m_N (nI j) 0 = some (nI j, 0) → F_R_advance m_N typed (nI L) (nI i) v0 = some (x, nI j, k, w) → (∃ f x y z w, f ≤ L ∧ F_R_advanceToNumber m_N typed (nI L) (nI i) v0 (nI ab) = some (0, x, nI f, y) ∧ F_M_takesNumber m_N (nI L) (nI i) text (nI ab - 1) = some (0, z, nI f, w)) := fun k x w hk hs ha => by
    refine ⟨j, x, (k, w), nI j, 0, h2, ?_, ?_⟩
    · simp only [F_R_advanceToNumber, ha, Option.bind_some, if_neg hk]
    · simp (disch := omega) only [F_M_takesNumber, hb, hs, Option.bind_some, nI_1, m_eq, if_neg, m_le, if_pos, if_true]
  rcases hcase with ⟨hj, ha⟩ | ⟨hj, c, e, vc, vr, k, hc, ht, h48, h57, hje, heL, hvr, hvc, hs, ha, hk⟩ | ⟨hj, c, hc, ht, hno, ha⟩
  · subst hj
    exact Or.inl (hbad (-1) _ _ (by decide) (hsc 0 (by omega) (Or.inl rfl)) ha)
  · rcases hk with ⟨rfl, hz, rfl⟩ | ⟨rfl, hz⟩
    · have h13 : (if nI e = nI j + 1 then (some (1 : Int32)) else (if nI e ≤ nI j then (some (0 : Int32)) else (g_chk (g_inb (nI j) 120) (if (text (nI j).toNatClampNeg) = (48 : Int32) then (some (0 : Int32)) else (some (1 : Int32)))))) = some 1 := by
        rcases hz with hz | hz
        · subst hz
          simp only [nI_1, if_true]
        · by_cases h9 : e = j + 1
          · subst h9
            simp only [nI_1, if_true]
          · simp (disch := omega) only [nI_1, m_eq, if_neg, m_le, m_inb, m_chkT, nI_clamp, ht, m_e48]
      by_cases hv : vc < ab
      · refine Or.inr ⟨e, j, -2, vc, by omega, heL, hv, ?_, ?_⟩
        · simp (disch := omega) only [F_R_advanceToNumber, ha, Option.bind_some, if_true, m_le, if_neg]
        · simp only [F_M_takesNumber, hb, hs, Option.bind_some, h13, m_n10, if_false]
          simp (disch := omega) only [m_sub1, if_neg]
      · refine Or.inl ⟨j, nI e, (-2, nI vc), nI e, nI vc, h2, ?_, ?_⟩
        · simp (disch := omega) only [F_R_advanceToNumber, ha, Option.bind_some, if_true, m_le, if_pos]
        · simp only [F_M_takesNumber, hb, hs, Option.bind_some, h13, m_n10, if_false]
          simp (disch := omega) only [m_sub1, if_pos]
    · refine Or.inl ⟨j, nI e, (-3, nI vc), nI e, nI vr, h2, ?_, ?_⟩
      · simp only [F_R_advanceToNumber, ha, Option.bind_some, if_neg (show ¬ (-3 : Int32) = -2 by decide)]
      · by_cases hz2 : e = j + 1 ∨ c ≠ 48
        · have h13 : (if nI e = nI j + 1 then (some (1 : Int32)) else (if nI e ≤ nI j then (some (0 : Int32)) else (g_chk (g_inb (nI j) 120) (if (text (nI j).toNatClampNeg) = (48 : Int32) then (some (0 : Int32)) else (some (1 : Int32)))))) = some 1 := by
            rcases hz2 with hz | hz
            · subst hz
              simp only [nI_1, if_true]
            · by_cases h9 : e = j + 1
              · subst h9
                simp only [nI_1, if_true]
              · simp (disch := omega) only [nI_1, m_eq, if_neg, m_le, m_inb, m_chkT, nI_clamp, ht, m_e48]
          have h99 : 99 < vr := by
            rcases hz with hz | hz
            · exact absurd hz2 hz
            · exact hz
          simp only [F_M_takesNumber, hb, hs, Option.bind_some, h13, m_n10, if_false]
          simp (disch := omega) only [m_sub1, if_pos]
        · have h9 : ¬ e = j + 1 := fun z => hz2 (Or.inl z)
          have h48' : c = 48 := Classical.byContradiction fun z => hz2 (Or.inr z)
          subst h48'
          simp (disch := omega) only [F_M_takesNumber, hb, hs, Option.bind_some, nI_1, m_eq, if_neg, m_le, m_inb, m_chkT, nI_clamp, ht, m_e48, if_true]
  · refine Or.inl (hbad _ _ _ ?_ (hsc (L - j) (by omega) (Or.inr ⟨c, hc, ht, hno⟩)) ha)
    by_cases h : c = 115 ∨ c = 109 ∨ c = 59
    · rw [if_pos h]
      intro z
      have := nI_pos (n := c) (by omega)
      rw [z] at this
      exact this (by decide)
    · rw [if_neg h]
      decide
theorem m_semi {L : Nat} {typed text : Nat → Int32} (hx : m_tx L typed text) {i : Nat} (hi : i ≤ L) (v0 : Int32) :
    (∃ f x z, f ≤ L ∧ F_R_readItemEnd m_N typed (nI L) (nI i) v0 = some (nI f, x) ∧ F_M_takesSign m_N (nI L) (nI i) text 59 = some (0, z, nI f)) ∨
    (∃ e j k v, i < e ∧ e ≤ L ∧ F_R_readItemEnd m_N typed (nI L) (nI i) v0 = some (-1, nI e, j, k, v) ∧ F_M_takesSign m_N (nI L) (nI i) text 59 = some (1, nI e, j)) := by
  have hL := hx.1
  obtain ⟨j, h1, h2, hb, hcase⟩ := m_tok hx hi v0
  have hbad : ∀ k x w, ¬ k = 59 → F_M_isAt (nI L) (nI j) text 59 = some 0 → F_R_advance m_N typed (nI L) (nI i) v0 = some (x, nI j, k, w) → (∃ f x z, f ≤ L ∧ F_R_readItemEnd m_N typed (nI L) (nI i) v0 = some (nI f, x) ∧ F_M_takesSign m_N (nI L) (nI i) text 59 = some (0, z, nI f)) := fun k x w hk hs ha => by
    refine ⟨j, (x, nI j, k, w), nI j + 0, h2, ?_, ?_⟩
    · simp only [F_R_readItemEnd, ha, Option.bind_some, if_neg hk]
    · simp only [F_M_takesSign, hb, Option.bind_some, hs, m_isb0, m_chkT, if_true]
  rcases hcase with ⟨hj, ha⟩ | ⟨hj, c, e, vc, vr, k, hc, ht, h48, h57, hje, heL, hvr, hvc, hs, ha, hk⟩ | ⟨hj, c, hc, ht, hno, ha⟩
  · subst hj
    refine Or.inl (hbad (-1) _ _ (by decide) ?_ ha)
    simp (disch := omega) only [F_M_isAt, m_le, if_pos, Option.bind_some, m_isb0, m_chkT]
  · refine Or.inl (hbad k _ _ ?_ ?_ ha)
    · rcases hk with ⟨rfl, _⟩ | ⟨rfl, _⟩ <;> decide
    · have h9 := m_isAt hL hj hc ht 59 (by omega)
      rw [if_neg (by omega)] at h9
      exact h9
  · have h9 := m_isAt hL hj hc ht 59 (by omega)
    by_cases h : c = 59
    · subst h
      rw [if_pos rfl] at h9
      rw [if_pos (by omega)] at ha
      refine Or.inr ⟨j + 1, nI j, 59, v0, by omega, by omega, ?_, ?_⟩
      · simp only [F_R_readItemEnd, ha, Option.bind_some]
        rw [if_pos (show nI 59 = 59 from rfl)]
        rfl
      · simp only [F_M_takesSign, hb, Option.bind_some]
        rw [show F_M_isAt (nI L) (nI j) text 59 = some 1 from h9]
        simp only [Option.bind_some, m_isb1, m_chkT, m_n10, if_false, nI_1]
    · rw [if_neg h] at h9
      refine Or.inl (hbad _ _ _ ?_ h9 ha)
      by_cases h3 : c = 115 ∨ c = 109 ∨ c = 59
      · rw [if_pos h3, m_e59, m_eq (by omega) (by omega)]
        exact h
      · rw [if_neg h3]
        decide
/-- a system as far as it is read -/
def m_sys (s mv : Nat) (sl ma mf mt rd : Nat → Int32) : Prop := s ≤ 5 ∧ rd 0 = nI s ∧ (∀ j, j < s → sl j = rd (1 + j) ∧ ∃ c : Nat, c ≤ 7 ∧ rd (1 + j) = nI c) ∧ mv ≤ 10 ∧ rd 6 = nI mv ∧ ∀ j, j < mv → ma j = rd (7 + 3 * j) ∧ mf j = rd (7 + 3 * j + 1) ∧ mt j = rd (7 + 3 * j + 2) ∧ (∃ c : Nat, c ≤ 1 ∧ rd (7 + 3 * j) = nI c) ∧ (∃ c : Nat, c < s ∧ rd (7 + 3 * j + 1) = nI c) ∧ ∃ c : Nat, c < s ∧ rd (7 + 3 * j + 2) = nI c
theorem m_rdState {L : Nat} {typed text : Nat → Int32} (hx : m_tx L typed text) {j : Nat} (hj : j < L) (v0 tk0 v1 : Int32) {s mv : Nat} {sl ma mf mt rd : Nat → Int32} (hs : m_sys s mv sl ma mf mt rd) (h5 : s < 5) :
    (∃ f x y z, f ≤ L ∧ F_R_readState m_N typed (nI L) (nI (j + 1)) v0 (nI s) sl = some (nI f, x) ∧ F_M_takesState m_N (nI L) (nI j) tk0 v1 text rd = some (0, y, nI f, z)) ∨
    (∃ e st kd vl tk v2 sl' rd', j < e ∧ e ≤ L ∧ F_R_readState m_N typed (nI L) (nI (j + 1)) v0 (nI s) sl = some (-1, nI e, st, kd, vl, nI (s + 1), sl') ∧ F_M_takesState m_N (nI L) (nI j) tk0 v1 text rd = some (1, nI e, tk, v2, rd') ∧ m_sys (s + 1) mv sl' ma mf mt rd') := by
  have hL := hx.1
  obtain ⟨g1, g2, g3, g4, g5, g6⟩ := hs
  have e0 : ¬ rd 0 = (5 : Int32) := by
    rw [g2, m_e5, m_eq (by omega) (by omega)]
    omega
  rcases m_num hx (i := j + 1) (by omega) v0 8 (by omega) with ⟨f, x, y, z, w, hf, a1, a2⟩ | ⟨e, q, k, v, h1, h2, hv, a1, a2⟩
  · refine Or.inl ⟨f, (x, nI f, y.1, y.2, nI s, sl), z, (w, rd), hf, ?_, ?_⟩
    · simp only [F_R_readState]
      rw [show F_R_advanceToNumber m_N typed (nI L) (nI (j + 1)) v0 8 = _ from a1]
      simp only [Option.bind_some, if_true]
    · simp only [F_M_takesState, e0, if_false, nI_1]
      rw [show F_M_takesNumber m_N (nI L) (nI (j + 1)) text 7 = _ from a2]
      simp only [Option.bind_some, if_true]
  · have b1 : F_R_readState m_N typed (nI L) (nI (j + 1)) v0 (nI s) sl = (F_R_readItemEnd m_N typed (nI L) (nI e) (nI v)).bind fun o4 => (some (o4.1, o4.2.1, o4.2.2.1, o4.2.2.2.1, o4.2.2.2.2, nI (s + 1), upd sl s (nI v))) := by
      simp only [F_R_readState]
      rw [show F_R_advanceToNumber m_N typed (nI L) (nI (j + 1)) v0 8 = _ from a1]
      simp (disch := omega) only [Option.bind_some, m_n10, if_false, F_W_addState, m_0lt, m_lt, m_e5, if_pos, m_inb, m_chkT, nI_1, nI_clamp]
    have b2 : F_M_takesState m_N (nI L) (nI j) tk0 v1 text rd = (F_M_takesSign m_N (nI L) (nI e) text (59 : Int32)).bind fun o5 => (g_chk (g_isb o5.1) (some (o5.1, o5.2.1, o5.2.2, nI v, (upd (upd rd (1 + s) (nI v)) 0 (nI (s + 1)))))) := by
      simp only [F_M_takesState, e0, if_false, nI_1]
      rw [show F_M_takesNumber m_N (nI L) (nI (j + 1)) text 7 = _ from a2]
      simp (disch := omega) only [Option.bind_some, m_n10, if_false, g2, m_1p, m_inb, m_chkT, nI_clamp]
      rw [pk_un (by omega), g2, nI_1]
    rcases m_semi hx (i := e) h2 (nI v) with ⟨f, x, z, hf, c1, c2⟩ | ⟨e2, q2, k2, w2, d1, d2, c1, c2⟩
    · refine Or.inl ⟨f, _, z, _, hf, b1.trans (by rw [c1]; rfl), b2.trans (by rw [c2]; rfl)⟩
    · refine Or.inr ⟨e2, q2, k2, w2, q2, nI v, _, _, by omega, d2, b1.trans (by rw [c1]; rfl), b2.trans (by rw [c2]; rfl), by omega, pk_us, fun q hq => ?_, g4, ?_, fun q hq => ?_⟩
      · rw [pk_un (show 1 + q ≠ 0 by omega)]
        by_cases hqs : q = s
        · subst hqs
          rw [pk_us, pk_us]
          exact ⟨rfl, v, by omega, rfl⟩
        · rw [pk_un hqs, pk_un (show 1 + q ≠ 1 + s by omega)]
          exact g3 q (by omega)
      · rw [pk_un (by omega), pk_un (by omega)]
        exact g5
      · obtain ⟨p1, p2, p3, p4, ⟨c5, p5, p6⟩, c7, p7, p8⟩ := g6 q hq
        rw [pk_un (show 7 + 3 * q ≠ 0 by omega), pk_un (show 7 + 3 * q ≠ 1 + s by omega), pk_un (show 7 + 3 * q + 1 ≠ 0 by omega), pk_un (show 7 + 3 * q + 1 ≠ 1 + s by omega), pk_un (show 7 + 3 * q + 2 ≠ 0 by omega), pk_un (show 7 + 3 * q + 2 ≠ 1 + s by omega)]
        exact ⟨p1, p2, p3, p4, ⟨c5, by omega, p6⟩, c7, by omega, p8⟩
theorem m_tm {L : Nat} {text : Nat → Int32} (n : Nat) {i : Nat} {tk v0 : Int32} {s mv : Nat} {rd : Nat → Int32} (h0 : rd 0 = nI s) (h6 : rd 6 = nI mv) (hm : mv < 10) {o1 : Int32 × Int32 × Int32 × Int32} (a1 : F_M_takesNumber m_N (nI L) (nI i) text (nI 2 - 1) = some o1) :
    M_takesMove_l1 m_N (nI L) text (n + 4) 0 (nI i) tk v0 rd = if o1.1 = 0 then some (.inl (0, o1.2.1, o1.2.2.1, o1.2.2.2, rd)) else (F_M_takesNumber m_N (nI L) o1.2.1 text (nI s - 1)).bind fun o2 => if o2.1 = 0 then some (.inl (0, o2.2.1, o2.2.2.1, o2.2.2.2, upd rd (7 + 3 * mv) o1.2.2.2)) else (F_M_takesNumber m_N (nI L) o2.2.1 text (nI s - 1)).bind fun o3 => if o3.1 = 0 then some (.inl (0, o3.2.1, o3.2.2.1, o3.2.2.2, upd (upd rd (7 + 3 * mv) o1.2.2.2) (7 + 3 * mv + 1) o2.2.2.2)) else some (.inr (o3.2.1, o3.2.2.1, o3.2.2.2, upd (upd (upd rd (7 + 3 * mv) o1.2.2.2) (7 + 3 * mv + 1) o2.2.2.2) (7 + 3 * mv + 2) o3.2.2.2)) := by
  have a1' : F_M_takesNumber m_N (nI L) (nI i) text 1 = some o1 := a1
  have u1 : ∀ x, upd rd (7 + 3 * mv) x 0 = nI s := fun x => by rw [pk_un (by omega), h0]
  have u2 : ∀ x, upd rd (7 + 3 * mv) x 6 = nI mv := fun x => by rw [pk_un (by omega), h6]
  have u3 : ∀ x y, upd (upd rd (7 + 3 * mv) x) (7 + 3 * mv + 1) y 0 = nI s := fun x y => by rw [pk_un (by omega), u1]
  have u4 : ∀ x y, upd (upd rd (7 + 3 * mv) x) (7 + 3 * mv + 1) y 6 = nI mv := fun x y => by rw [pk_un (by omega), u2]
  have z0 : (7 : Int32) + 3 * nI mv + 0 = nI (7 + 3 * mv) := by
    rw [Int32.add_zero, m_e3, m_e7, pk_mul, nI_add]
  have z1 : (7 : Int32) + 3 * nI mv + (0 + 1) = nI (7 + 3 * mv + 1) := by
    rw [m_e3, m_e7, pk_mul, nI_add, show (0 : Int32) + 1 = 1 from rfl, nI_1]
  have z2 : (7 : Int32) + 3 * nI mv + (0 + 1 + 1) = nI (7 + 3 * mv + 2) := by
    rw [m_e3, m_e7, pk_mul, nI_add, show (0 : Int32) + 1 + 1 = nI 2 from rfl, nI_add]
  rw [M_takesMove_l1_s, if_neg (by decide), if_pos rfl, a1', Option.bind_some]
  by_cases c1 : o1.1 = 0
  · rw [if_pos c1, if_pos c1]
  · rw [if_neg c1, if_neg c1, h6, z0, m_chk (m_inb (by omega) (by omega)), nI_clamp (by omega), M_takesMove_l1_s, if_neg (by decide), if_neg (by decide), u1]
    congr 1
    funext o2
    by_cases c2 : o2.1 = 0
    · rw [if_pos c2, if_pos c2]
    · rw [if_neg c2, if_neg c2, u2, z1, m_chk (m_inb (by omega) (by omega)), nI_clamp (by omega), M_takesMove_l1_s, if_neg (by decide), if_neg (by decide), u3]
      congr 1
      funext o3
      by_cases c3 : o3.1 = 0
      · rw [if_pos c3, if_pos c3]
      · rw [if_neg c3, if_neg c3, u4, z2, m_chk (m_inb (by omega) (by omega)), nI_clamp (by omega), M_takesMove_l1_s, if_pos (by decide)]
theorem m_rdMove {L : Nat} {typed text : Nat → Int32} (hx : m_tx L typed text) {j : Nat} (hj : j < L) (v0 tk0 v1 : Int32) {s mv : Nat} {sl ma mf mt rd : Nat → Int32} (hs : m_sys s mv sl ma mf mt rd) (hm : mv < 10) :
    (∃ f x y z, f ≤ L ∧ F_R_readMove m_N typed (nI L) (nI (j + 1)) v0 (nI s) (nI mv) ma mf mt = some (nI f, x) ∧ F_M_takesMove m_N (nI L) (nI j) tk0 v1 text rd = some (0, y, nI f, z)) ∨
    (∃ e st kd vl tk v2 ma' mf' mt' rd', j < e ∧ e ≤ L ∧ F_R_readMove m_N typed (nI L) (nI (j + 1)) v0 (nI s) (nI mv) ma mf mt = some (-1, nI e, st, kd, vl, nI (mv + 1), ma', mf', mt') ∧ F_M_takesMove m_N (nI L) (nI j) tk0 v1 text rd = some (1, nI e, tk, v2, rd') ∧ m_sys s (mv + 1) sl ma' mf' mt' rd') := by
  have hL := hx.1
  obtain ⟨g1, g2, g3, g4, g5, g6⟩ := hs
  have e0 : ¬ rd 6 = (10 : Int32) := by
    rw [g5, m_e10, m_eq (by omega) (by omega)]
    omega
  have hM : ∀ r, M_takesMove_l1 m_N (nI L) text (4996 + 4) 0 (nI (j + 1)) tk0 v1 rd = r → F_M_takesMove m_N (nI L) (nI j) tk0 v1 text rd = (g_el (fun a => a) r (fun o7 => ((F_M_takesSign m_N (nI L) o7.1 text (59 : Int32)).bind fun o16 => (g_chk (g_isb o16.1) (some (o16.1, o16.2.1, o16.2.2, o7.2.2.1, (upd o7.2.2.2 6 ((o7.2.2.2 6) + (1 : Int32))))))))) := fun r hr => by
    simp only [F_M_takesMove, e0, if_false, nI_1]
    rw [show M_takesMove_l1 m_N (nI L) text m_N 0 (nI (j + 1)) tk0 v1 rd = r from hr]
  rcases m_num hx (i := j + 1) (by omega) v0 2 (by omega) with ⟨f, x, y, z, w, hf, a1, a2⟩ | ⟨e, q, k, va, h1, h2, hva, a1, a2⟩
  · have t := m_tm (tk := tk0) (v0 := v1) 4996 g2 g5 hm a2
    rw [if_pos rfl] at t
    refine Or.inl ⟨f, (x, nI f, y.1, y.2, nI mv, ma, mf, mt), z, (w, rd), hf, ?_, (hM _ t).trans rfl⟩
    simp only [F_R_readMove]
    rw [show F_R_advanceToNumber m_N typed (nI L) (nI (j + 1)) v0 2 = _ from a1]
    simp only [Option.bind_some, if_true]
  · have t := m_tm (tk := tk0) (v0 := v1) 4996 g2 g5 hm a2
    rw [if_neg m_n10] at t
    rcases m_num hx (i := e) h2 (nI va) s (by omega) with ⟨f, x, y, z, w, hf, b1, b2⟩ | ⟨e2, q2, k2, vb, i1, i2, hvb, b1, b2⟩
    · dsimp only at t
      rw [b2, Option.bind_some, if_pos rfl] at t
      refine Or.inl ⟨f, (x, nI f, y.1, y.2, nI mv, ma, mf, mt), z, (w, _), hf, ?_, (hM _ t).trans rfl⟩
      simp only [F_R_readMove]
      rw [show F_R_advanceToNumber m_N typed (nI L) (nI (j + 1)) v0 2 = _ from a1]
      simp only [Option.bind_some, m_n10, if_false, b1, if_true]
    · dsimp only at t
      rw [b2, Option.bind_some, if_neg m_n10] at t
      rcases m_num hx (i := e2) i2 (nI vb) s (by omega) with ⟨f, x, y, z, w, hf, c1, c2⟩ | ⟨e3, q3, k3, vc, j1, j2, hvc, c1, c2⟩
      · dsimp only at t
        rw [c2, Option.bind_some, if_pos rfl] at t
        refine Or.inl ⟨f, (x, nI f, y.1, y.2, nI mv, ma, mf, mt), z, (w, _), hf, ?_, (hM _ t).trans rfl⟩
        simp only [F_R_readMove]
        rw [show F_R_advanceToNumber m_N typed (nI L) (nI (j + 1)) v0 2 = _ from a1]
        simp only [Option.bind_some, m_n10, if_false, b1, c1, if_true]
      · dsimp only at t
        rw [c2, Option.bind_some, if_neg m_n10] at t
        have bL : F_R_readMove m_N typed (nI L) (nI (j + 1)) v0 (nI s) (nI mv) ma mf mt = (F_R_readItemEnd m_N typed (nI L) (nI e3) (nI vc)).bind fun o8 => (some (o8.1, o8.2.1, o8.2.2.1, o8.2.2.2.1, o8.2.2.2.2, nI (mv + 1), upd ma mv (nI va), upd mf mv (nI vb), upd mt mv (nI vc))) := by
          simp only [F_R_readMove]
          rw [show F_R_advanceToNumber m_N typed (nI L) (nI (j + 1)) v0 2 = _ from a1]
          simp (disch := omega) only [Option.bind_some, m_n10, if_false, b1, c1, F_W_addMove, m_0lt, m_lt, m_e10, if_pos, m_inb, m_chkT, nI_1, nI_clamp]
        have bM := (hM _ t).trans (show _ = (F_M_takesSign m_N (nI L) (nI e3) text (59 : Int32)).bind fun o16 => (g_chk (g_isb o16.1) (some (o16.1, o16.2.1, o16.2.2, nI vc, (upd (upd (upd (upd rd (7 + 3 * mv) (nI va)) (7 + 3 * mv + 1) (nI vb)) (7 + 3 * mv + 2) (nI vc)) 6 ((upd (upd (upd rd (7 + 3 * mv) (nI va)) (7 + 3 * mv + 1) (nI vb)) (7 + 3 * mv + 2) (nI vc)) 6 + (1 : Int32)))))) from rfl)
        rcases m_semi hx (i := e3) j2 (nI vc) with ⟨f, x, z, hf, d1, d2⟩ | ⟨e4, q4, k4, w4, l1, l2, d1, d2⟩
        · exact Or.inl ⟨f, _, z, _, hf, bL.trans (by rw [d1]; rfl), bM.trans (by rw [d2]; rfl)⟩
        · refine Or.inr ⟨e4, q4, k4, w4, q4, nI vc, _, _, _, _, by omega, l2, bL.trans (by rw [d1]; rfl), bM.trans (by rw [d2]; rfl), g1, ?_, fun q hq => ?_, by omega, ?_, fun q hq => ?_⟩
          · rw [pk_un (by omega), pk_un (by omega), pk_un (by omega), pk_un (by omega)]
            exact g2
          · rw [pk_un (by omega), pk_un (by omega), pk_un (by omega), pk_un (by omega)]
            exact g3 q hq
          · rw [pk_us, pk_un (by omega), pk_un (by omega), pk_un (by omega), g5, nI_1]
          · rw [pk_un (show 7 + 3 * q ≠ 6 by omega), pk_un (show 7 + 3 * q + 1 ≠ 6 by omega), pk_un (show 7 + 3 * q + 2 ≠ 6 by omega), pk_un (show 7 + 3 * q ≠ 7 + 3 * mv + 2 by omega), pk_un (show 7 + 3 * q ≠ 7 + 3 * mv + 1 by omega), pk_un (show 7 + 3 * q + 1 ≠ 7 + 3 * mv + 2 by omega)]
            by_cases hqm : q = mv
            · subst hqm
              rw [pk_us, pk_us, pk_us, pk_us, pk_us, pk_us]
              exact ⟨rfl, rfl, rfl, ⟨va, by omega, rfl⟩, ⟨vb, hvb, rfl⟩, vc, hvc, rfl⟩
            · rw [pk_un hqm, pk_un hqm, pk_un hqm, pk_un (show 7 + 3 * q ≠ 7 + 3 * mv by omega), pk_un (show 7 + 3 * q + 1 ≠ 7 + 3 * mv + 1 by omega), pk_un (show 7 + 3 * q + 1 ≠ 7 + 3 * mv by omega), pk_un (show 7 + 3 * q + 2 ≠ 7 + 3 * mv + 2 by omega), pk_un (show 7 + 3 * q + 2 ≠ 7 + 3 * mv + 1 by omega), pk_un (show 7 + 3 * q + 2 ≠ 7 + 3 * mv by omega)]
              exact g6 q (by omega)
theorem m_clamp120 {L : Nat} (hL : L ≤ 120) : g_imax (0 : Int32) (g_imin (nI L) (g_imin (120 : Int32) (120 : Int32))) = nI L := by
  rw [show g_imin (120 : Int32) (120 : Int32) = 120 from rfl]
  simp (disch := omega) only [g_imin, m_e120, m_lt, if_neg]
  rw [g_imax]
  by_cases h : (0 : Int32) < nI L
  · rw [if_pos h]
  · rw [if_neg h]
    have : L = 0 := by
      refine Classical.byContradiction fun z => h ?_
      rw [show (0 : Int32) = nI 0 from rfl, m_lt (by omega) (by omega)]
      omega
    subst this
    rfl
def m_sq (L : Nat) (r1 : (Int32 × (Nat → Int32) × Int32 × Int32 × Int32 × Int32 × Int32 × Int32 × Int32 × (Nat → Int32) × (Nat → Int32) × (Nat → Int32) × (Nat → Int32)) ⊕ (Int32 × Int32 × Int32 × Int32 × Int32 × Int32 × Int32 × (Nat → Int32) × (Nat → Int32) × (Nat → Int32) × (Nat → Int32))) (r2 : (Int32 × Int32 × Int32 × Int32 × (Nat → Int32)) ⊕ (Int32 × Int32 × Int32 × Int32 × (Nat → Int32))) : Prop :=
  (∃ f x y, f ≤ L ∧ r1 = .inr (nI f, x) ∧ r2 = .inl (-10 - nI f, y)) ∨ (∃ w a b c d e s mv sl ma mf mt x y z rd, r1 = .inl (-1, w, a, b, c, d, e, nI s, nI mv, sl, ma, mf, mt) ∧ r2 = .inr (nI (s + mv), x, y, z, rd) ∧ m_sys s mv sl ma mf mt rd)
theorem m_rdSys {L : Nat} {typed text arow rtx : Nat → Int32} (hcp : va_cpy arow rtx 0 0 L = typed) (hx : m_tx L typed text) : ∀ (d i n m it : Nat) (st kd vl v1 : Int32) (s mv : Nat) (sl ma mf mt rd : Nat → Int32), i + d = L → d + 1 < n → d + 1 < m → it ≤ i → s + mv = it → m_sys s mv sl ma mf mt rd → ∃ r1 r2, R_read_l1 m_N arow rtx (nI L) n (-1) (nI it) (nI i) st kd vl (nI s) (nI mv) sl ma mf mt = some r1 ∧ M_readsSystem_l2 m_N (nI L) text m (nI it) (nI (m_sk text d i)) (nI (m_sk text d i)) v1 rd = some r2 ∧ m_sq L r1 r2 := by
  intro d
  induction d using Nat.strongRecOn with
  | ind d ih =>
    intro i n m it st kd vl v1 s mv sl ma mf mt rd h hn hm hit hsm hs
    obtain ⟨n, rfl⟩ : ∃ n', n = n' + 2 := ⟨n - 2, by omega⟩
    obtain ⟨m, rfl⟩ : ∃ m', m = m' + 2 := ⟨m - 2, by omega⟩
    have hL := hx.1
    have hcl := m_clamp120 hL
    have hcn : (nI L).toNatClampNeg = L := nI_clamp (by omega)
    obtain ⟨j, h1, h2, hb, hcase⟩ := m_tok hx (i := i) (by omega) vl
    have hsk : m_sk text d i = j := by
      have h9 := m_blk hL text (i := i) (by omega)
      rw [hb, show L - i = d by omega] at h9
      have h8 := (Prod.mk.inj (Option.some.inj h9)).1
      have h7 := m_sk_le text d i
      exact ((nI_eq (by omega) (by omega)).mp h8).symm
    rw [hsk]
    have hbeg : ∀ o17, F_R_advance m_N typed (nI L) (nI i) vl = some o17 → R_read_l1 m_N arow rtx (nI L) (n + 2) (-1) (nI it) (nI i) st kd vl (nI s) (nI mv) sl ma mf mt = if o17.2.2.1 = (-1 : Int32) then (some (.inl ((-1 : Int32), typed, nI L, o17.1, o17.2.1, o17.2.2.1, o17.2.2.2, nI s, nI mv, sl, ma, mf, mt))) else ((F_R_readItem m_N typed (nI L) o17.1 o17.2.1 o17.2.2.1 o17.2.2.2 (nI s) (nI mv) sl ma mf mt).bind fun o19 => (R_read_l1 m_N arow rtx (nI L) (n + 1) o19.1 (nI (it + 1)) o19.2.1 o19.2.2.1 o19.2.2.2.1 o19.2.2.2.2.1 o19.2.2.2.2.2.1 o19.2.2.2.2.2.2.1 o19.2.2.2.2.2.2.2.1 o19.2.2.2.2.2.2.2.2.1 o19.2.2.2.2.2.2.2.2.2.1 o19.2.2.2.2.2.2.2.2.2.2)) := fun o17 ho => by
      rw [R_read_l1_s, if_neg (by rw [m_e120, m_lt (by omega) (by omega)]; omega), if_pos rfl, hcl, hcn, hcp, ho, Option.bind_some, nI_1]
    have hfin : ∀ (f : Nat) (x : Int32 × Int32 × Int32 × Int32 × Int32 × Int32 × (Nat → Int32) × (Nat → Int32) × (Nat → Int32) × (Nat → Int32)), f ≤ L → R_read_l1 m_N arow rtx (nI L) (n + 1) (nI f) (nI (it + 1)) x.1 x.2.1 x.2.2.1 x.2.2.2.1 x.2.2.2.2.1 x.2.2.2.2.2.1 x.2.2.2.2.2.2.1 x.2.2.2.2.2.2.2.1 x.2.2.2.2.2.2.2.2.1 x.2.2.2.2.2.2.2.2.2 = some (.inr (nI f, x)) := fun f x hf => by
      rw [R_read_l1_s]
      by_cases hc : (120 : Int32) < nI (it + 1)
      · rw [if_pos hc]
      · rw [if_neg hc, if_neg (m_nm1 (by omega))]
    rcases hcase with ⟨hj, ha⟩ | ⟨hj, c, e, vc, vr, k, hc, ht, h48, h57, hje, heL, hvr, hvc, hsn, ha, hk⟩ | ⟨hj, c, hc, ht, hno, ha⟩
    · subst hj
      have h3 := hbeg _ ha
      rw [if_pos rfl] at h3
      refine ⟨_, _, h3, by rw [M_readsSystem_l2_s, if_pos (Int32.le_refl _)], Or.inr ⟨_, _, _, _, _, _, s, mv, sl, ma, mf, mt, nI j, nI j, v1, rd, rfl, by rw [hsm], hs⟩⟩
    · have q1 := m_isAt hL hj hc ht 115 (by omega)
      have q2 := m_isAt hL hj hc ht 109 (by omega)
      rw [if_neg (by omega)] at q1 q2
      have h3 := hbeg _ ha
      have k1 : ¬ k = -1 ∧ ¬ k = 115 ∧ ¬ k = 109 := by
        rcases hk with ⟨rfl, _⟩ | ⟨rfl, _⟩ <;> decide
      rw [if_neg k1.1] at h3
      simp only [F_R_readItem, k1.2.1, k1.2.2, if_false, Option.bind_some] at h3
      rw [hfin j (nI e, nI j, k, nI vc, nI s, nI mv, sl, ma, mf, mt) h2] at h3
      refine ⟨_, _, h3, ?_, Or.inl ⟨j, _, (nI j, nI j, v1, rd), h2, rfl, rfl⟩⟩
      rw [M_readsSystem_l2_s, if_neg (by rw [m_le (by omega) (by omega)]; omega)]
      rw [show F_M_isAt (nI L) (nI j) text 115 = _ from q1, show F_M_isAt (nI L) (nI j) text 109 = _ from q2]
      simp only [Option.bind_some, if_true]
    · have q1 := m_isAt hL hj hc ht 115 (by omega)
      have q2 := m_isAt hL hj hc ht 109 (by omega)
      have h3 := hbeg _ ha
      have hM : M_readsSystem_l2 m_N (nI L) text (m + 2) (nI it) (nI j) (nI j) v1 rd = _ := M_readsSystem_l2_s m_N (nI L) text (m + 1) (nI it) (nI j) (nI j) v1 rd
      rw [if_neg (by rw [m_le (by omega) (by omega)]; omega), show F_M_isAt (nI L) (nI j) text 115 = _ from q1, show F_M_isAt (nI L) (nI j) text 109 = _ from q2] at hM
      have hwrong : ∀ kk : Int32, ¬ kk = -1 → F_R_readItem m_N typed (nI L) (nI (j + 1)) (nI j) kk vl (nI s) (nI mv) sl ma mf mt = some (nI j, nI (j + 1), nI j, kk, vl, nI s, nI mv, sl, ma, mf, mt) → (if c = 115 ∨ c = 109 ∨ c = 59 then nI c else -3) = kk → M_readsSystem_l2 m_N (nI L) text (m + 2) (nI it) (nI j) (nI j) v1 rd = some (.inl (-10 - nI j, nI j, nI j, v1, rd)) → ∃ r1 r2, R_read_l1 m_N arow rtx (nI L) (n + 2) (-1) (nI it) (nI i) st kd vl (nI s) (nI mv) sl ma mf mt = some r1 ∧ M_readsSystem_l2 m_N (nI L) text (m + 2) (nI it) (nI j) (nI j) v1 rd = some r2 ∧ m_sq L r1 r2 := fun kk hkk hri hke hM2 => by
        rw [hke] at h3
        rw [if_neg hkk, hri, Option.bind_some] at h3
        exact ⟨_, _, h3.trans (hfin j (nI (j + 1), nI j, kk, vl, nI s, nI mv, sl, ma, mf, mt) h2), hM2, Or.inl ⟨j, _, _, h2, rfl, rfl⟩⟩
      by_cases c115 : c = 115
      · subst c115
        rw [if_pos rfl, Option.bind_some, if_neg m_n10] at hM
        by_cases h5 : s < 5
        · rw [if_pos (Or.inl rfl)] at h3
          dsimp only at h3
          rw [if_neg (show ¬ nI 115 = -1 by decide)] at h3
          have h3' : F_R_readItem m_N typed (nI L) (nI (j + 1)) (nI j) (nI 115) vl (nI s) (nI mv) sl ma mf mt = ((F_R_readState m_N typed (nI L) (nI (j + 1)) vl (nI s) sl).bind fun o9 => (some (o9.1, o9.2.1, o9.2.2.1, o9.2.2.2.1, o9.2.2.2.2.1, o9.2.2.2.2.2.1, nI mv, o9.2.2.2.2.2.2, ma, mf, mt))) := by
            rw [F_R_readItem, if_pos (show nI 115 = 115 from rfl), if_neg (by rw [m_e5, m_le (by omega) (by omega)]; omega)]
          rw [h3'] at h3
          rcases m_rdState hx hj vl (nI j) v1 hs h5 with ⟨f, x, y, z, hf, w1, w2⟩ | ⟨e, st', kd', vl', tk, v2, sl', rd', l1, l2, w1, w2, hs'⟩
          · rw [w1, Option.bind_some, Option.bind_some] at h3
            rw [w2, Option.bind_some, Option.bind_some, if_pos rfl] at hM
            exact ⟨_, _, h3.trans (hfin f (x.1, x.2.1, x.2.2.1, x.2.2.2.1, x.2.2.2.2.1, nI mv, x.2.2.2.2.2, ma, mf, mt) hf), hM, Or.inl ⟨f, _, _, hf, rfl, rfl⟩⟩
          · rw [w1, Option.bind_some, Option.bind_some] at h3
            rw [w2, Option.bind_some, Option.bind_some, if_neg m_n10, m_blk hL text l2, Option.bind_some] at hM
            obtain ⟨r1, r2, y1, y2, y3⟩ := ih (L - e) (by omega) e (n + 1) (m + 1) (it + 1) st' kd' vl' v2 (s + 1) mv sl' ma mf mt rd' (by omega) (by omega) (by omega) (by omega) (by omega) hs'
            refine ⟨r1, r2, h3.trans y1, hM.trans ?_, y3⟩
            rw [nI_1]
            exact y2
        · refine hwrong (nI 115) (by decide) ?_ rfl ?_
          · rw [F_R_readItem, if_pos (show nI 115 = 115 from rfl), if_pos (by rw [m_e5, m_le (by omega) (by omega)]; omega), if_neg (by decide)]
          · rw [F_M_takesState, if_pos (by rw [hs.2.1, m_e5, m_eq (by have := hs.1; omega) (by omega)]; have := hs.1; omega), Option.bind_some, Option.bind_some, if_pos rfl] at hM
            exact hM
      · rw [if_neg c115, Option.bind_some, if_pos rfl] at hM
        by_cases c109 : c = 109
        · subst c109
          rw [if_pos rfl, Option.bind_some, if_neg m_n10] at hM
          by_cases h10 : mv < 10
          · rw [if_pos (Or.inr (Or.inl rfl))] at h3
            dsimp only at h3
            rw [if_neg (show ¬ nI 109 = -1 by decide)] at h3
            have h3' : F_R_readItem m_N typed (nI L) (nI (j + 1)) (nI j) (nI 109) vl (nI s) (nI mv) sl ma mf mt = ((F_R_readMove m_N typed (nI L) (nI (j + 1)) vl (nI s) (nI mv) ma mf mt).bind fun o4 => (some (o4.1, o4.2.1, o4.2.2.1, o4.2.2.2.1, o4.2.2.2.2.1, nI s, o4.2.2.2.2.2.1, sl, o4.2.2.2.2.2.2.1, o4.2.2.2.2.2.2.2.1, o4.2.2.2.2.2.2.2.2))) := by
              rw [F_R_readItem, if_neg (show ¬ nI 109 = 115 by decide), if_pos (show nI 109 = 109 from rfl), if_neg (by rw [m_e10, m_le (by omega) (by omega)]; omega)]
            rw [h3'] at h3
            rcases m_rdMove hx hj vl (nI j) v1 hs h10 with ⟨f, x, y, z, hf, w1, w2⟩ | ⟨e, st', kd', vl', tk, v2, ma', mf', mt', rd', l1, l2, w1, w2, hs'⟩
            · rw [w1, Option.bind_some, Option.bind_some] at h3
              rw [w2, Option.bind_some, if_pos rfl, Option.bind_some, if_pos rfl] at hM
              exact ⟨_, _, h3.trans (hfin f (x.1, x.2.1, x.2.2.1, x.2.2.2.1, nI s, x.2.2.2.2.1, sl, x.2.2.2.2.2.1, x.2.2.2.2.2.2.1, x.2.2.2.2.2.2.2) hf), hM, Or.inl ⟨f, _, _, hf, rfl, rfl⟩⟩
            · rw [w1, Option.bind_some, Option.bind_some] at h3
              rw [w2, Option.bind_some, if_neg m_n10, Option.bind_some, if_neg m_n10, m_blk hL text l2, Option.bind_some] at hM
              obtain ⟨r1, r2, y1, y2, y3⟩ := ih (L - e) (by omega) e (n + 1) (m + 1) (it + 1) st' kd' vl' v2 s (mv + 1) sl ma' mf' mt' rd' (by omega) (by omega) (by omega) (by omega) (by omega) hs'
              refine ⟨r1, r2, h3.trans y1, hM.trans ?_, y3⟩
              rw [nI_1]
              exact y2
          · refine hwrong (nI 109) (by decide) ?_ rfl ?_
            · rw [F_R_readItem, if_neg (show ¬ nI 109 = 115 by decide), if_pos (show nI 109 = 109 from rfl), if_pos (by rw [m_e10, m_le (by omega) (by omega)]; omega)]
            · have h10' := hs.2.2.2.1
              rw [F_M_takesMove, if_pos (by rw [hs.2.2.2.2.1, m_e10, m_eq (by omega) (by omega)]; omega), Option.bind_some, if_pos rfl, Option.bind_some, if_pos rfl] at hM
              exact hM
        · rw [if_neg c109, Option.bind_some, if_pos rfl, Option.bind_some, if_pos rfl] at hM
          by_cases c59 : c = 59
          · subst c59
            refine hwrong (nI 59) (by decide) ?_ rfl hM
            rw [F_R_readItem, if_neg (by decide), if_neg (by decide)]
          · refine hwrong (-3) (by decide) ?_ (by rw [if_neg (by omega)]) hM
            rw [F_R_readItem, if_neg (by decide), if_neg (by decide)]
theorem m_rsys0 (A : Nat → Int32) : ∃ B, M_readsSystem_l1 m_N 0 A = some B ∧ ∀ j, B j = if 0 ≤ j ∧ j < 37 then 0 else A j := by
  have hs : ∀ n k A, k < 37 → M_readsSystem_l1 (n + 1) (nI k) A = M_readsSystem_l1 n (nI (k + 1)) (upd A (0 + k) ((fun _ => 0) k)) := fun n k A hk => by
    simp (disch := omega) only [M_readsSystem_l1_s, Nat.zero_add, if_true, if_false, m_lt, m_le, m_eq, m_0lt, m_0le, m_le0, m_0eq, if_pos, if_neg, pk_mul, nI_add, nI_1, m_1p, m_pred, m_inb, m_chkT, nI_clamp, Option.bind_some, decide_true, m_e2, m_e3, m_e4, m_e5, m_e6, m_e7, m_e8, m_e9, m_e10, m_e15, m_e16, m_e17, m_e31, m_e32, m_e37, m_e48, m_e54, m_e57, m_e64, m_e97, m_e105, m_e120, m_e525, m_e640, m_e2048]
  have he : ∀ n A, M_readsSystem_l1 (n + 1) (nI 37) A = some A := fun n A => by
    rw [M_readsSystem_l1_s, if_pos (by decide)]
  obtain ⟨B, h1, h2⟩ := m_loop M_readsSystem_l1 0 37 (fun _ => 0) hs he 37 0 m_N A rfl (by decide)
  refine ⟨B, h1, fun j => ?_⟩
  rw [h2 j]
theorem m_sysl1 (x : Int32 × Int32 × Int32 × Int32 × (Nat → Int32)) (A : Nat → Int32) : ∃ B, M_system_l1 x m_N 0 A = some B ∧ ∀ j, B j = if j < 37 then x.2.2.2.2 j else A j := by
  have hs : ∀ n k A, k < 37 → M_system_l1 x (n + 1) (nI k) A = M_system_l1 x n (nI (k + 1)) (upd A (0 + k) (x.2.2.2.2 k)) := fun n k A hk => by
    simp (disch := omega) only [M_system_l1_s, Nat.zero_add, if_true, if_false, m_lt, m_le, m_eq, m_0lt, m_0le, m_le0, m_0eq, if_pos, if_neg, pk_mul, nI_add, nI_1, m_1p, m_pred, m_inb, m_chkT, nI_clamp, Option.bind_some, decide_true, m_e2, m_e3, m_e4, m_e5, m_e6, m_e7, m_e8, m_e9, m_e10, m_e15, m_e16, m_e17, m_e31, m_e32, m_e37, m_e48, m_e54, m_e57, m_e64, m_e97, m_e105, m_e120, m_e525, m_e640, m_e2048]
  have he : ∀ n A, M_system_l1 x (n + 1) (nI 37) A = some A := fun n A => by
    rw [M_system_l1_s, if_pos (by decide)]
  obtain ⟨B, h1, h2⟩ := m_loop (M_system_l1 x) 0 37 x.2.2.2.2 hs he 37 0 m_N A rfl (by decide)
  refine ⟨B, h1, fun j => ?_⟩
  rw [h2 j]
  by_cases h : j < 37
  · rw [if_pos (by omega), if_pos h, Nat.sub_zero]
  · rw [if_neg (by omega), if_neg h]
theorem mc_system {l_typed : Nat → Int32} {r_text : Nat → Int32} {r_start : Int32} {r_kind : Int32} {r_value : Int32} {n_states : Int32} {n_moveCount : Int32} {n_stateLabel : Nat → Int32} {n_moveActor : Nat → Int32} {n_moveFrom : Nat → Int32} {n_moveTo : Nat → Int32} {n_csz : Int32} {n_clt : Int32} {n_cle : Nat → Int32} {n_ssz : Nat → Int32} {n_slt : Nat → Int32} {n_sle : Nat → Nat → Int32} {z_stateLabel : Nat → Int32} {z_moveActor : Nat → Int32} {z_moveFrom : Nat → Int32} {z_moveTo : Nat → Int32} {p_ix : Nat → Nat} {p_states : Nat → Int32} {p_moveCount : Nat → Int32} {p_stateLabel : Nat → Nat → Int32} {p_moveActor : Nat → Nat → Int32} {p_moveFrom : Nat → Nat → Int32} {p_moveTo : Nat → Nat → Int32} {p_csz : Nat → Int32} {p_clt : Nat → Int32} {p_cle : Nat → Nat → Int32} {p_ssz : Nat → Nat → Int32} {p_slt : Nat → Nat → Int32} {p_sle : Nat → Nat → Nat → Int32} {l_typedCount : Int32} {l_pastCount : Int32} {f_undone : Int32} {f_letters : Int32} {f_value : Int32} {f_now : Nat → Int32} {f_past : Nat → Int32} {f_text : Nat → Int32} {f_read : Nat → Int32} (hT : m_IT l_typed l_typedCount f_letters f_text) (hW : m_W n_states n_moveCount n_stateLabel n_moveActor n_moveFrom n_moveTo n_csz n_clt n_cle n_ssz n_slt n_sle f_now) (hP : m_IP p_ix p_states p_moveCount p_stateLabel p_moveActor p_moveFrom p_moveTo p_csz p_clt p_cle p_ssz p_slt p_sle l_pastCount f_undone f_past) : ∃ oL oM, F_L_system m_N l_typed r_text r_start r_kind r_value n_states n_moveCount n_stateLabel n_moveActor n_moveFrom n_moveTo n_csz n_clt n_cle n_ssz n_slt n_sle z_stateLabel z_moveActor z_moveFrom z_moveTo p_ix p_states p_moveCount p_stateLabel p_moveActor p_moveFrom p_moveTo p_csz p_clt p_cle p_ssz p_slt p_sle l_typedCount l_pastCount = some oL ∧ F_M_system m_N f_undone f_letters f_value f_now f_past f_text f_read = some oM ∧ oL.1 = oM.1 ∧ m_IT l_typed oL.2.2.2.2.2.2.2.2.2.2.2.2.2.2.2.2.2.2.2.2.2.2.2.2.2.2.2.2.2.2.2.2.1 oM.2.2.1 f_text ∧ m_W oL.2.2.2.2.2.2.2.1 oL.2.2.2.2.2.2.2.2.1 oL.2.2.2.2.2.2.2.2.2.1 oL.2.2.2.2.2.2.2.2.2.2.1 oL.2.2.2.2.2.2.2.2.2.2.2.1 oL.2.2.2.2.2.2.2.2.2.2.2.2.1 n_csz n_clt n_cle n_ssz n_slt n_sle oM.2.2.2.2.2.2.1 ∧ m_IP oL.2.2.2.2.2.2.2.2.2.2.2.2.2.2.2.2.2.2.2.1 oL.2.2.2.2.2.2.2.2.2.2.2.2.2.2.2.2.2.2.2.2.1 oL.2.2.2.2.2.2.2.2.2.2.2.2.2.2.2.2.2.2.2.2.2.1 oL.2.2.2.2.2.2.2.2.2.2.2.2.2.2.2.2.2.2.2.2.2.2.1 oL.2.2.2.2.2.2.2.2.2.2.2.2.2.2.2.2.2.2.2.2.2.2.2.1 oL.2.2.2.2.2.2.2.2.2.2.2.2.2.2.2.2.2.2.2.2.2.2.2.2.1 oL.2.2.2.2.2.2.2.2.2.2.2.2.2.2.2.2.2.2.2.2.2.2.2.2.2.1 oL.2.2.2.2.2.2.2.2.2.2.2.2.2.2.2.2.2.2.2.2.2.2.2.2.2.2.1 oL.2.2.2.2.2.2.2.2.2.2.2.2.2.2.2.2.2.2.2.2.2.2.2.2.2.2.2.1 oL.2.2.2.2.2.2.2.2.2.2.2.2.2.2.2.2.2.2.2.2.2.2.2.2.2.2.2.2.1 oL.2.2.2.2.2.2.2.2.2.2.2.2.2.2.2.2.2.2.2.2.2.2.2.2.2.2.2.2.2.1 oL.2.2.2.2.2.2.2.2.2.2.2.2.2.2.2.2.2.2.2.2.2.2.2.2.2.2.2.2.2.2.1 oL.2.2.2.2.2.2.2.2.2.2.2.2.2.2.2.2.2.2.2.2.2.2.2.2.2.2.2.2.2.2.2.1 oL.2.2.2.2.2.2.2.2.2.2.2.2.2.2.2.2.2.2.2.2.2.2.2.2.2.2.2.2.2.2.2.2.2 oM.2.1 oM.2.2.2.2.2.2.2.1 := by
  obtain ⟨L, hL, rfl, rfl, ht⟩ := id hT
  obtain ⟨tx, htx⟩ : ∃ tx, va_cpy l_typed r_text 0 0 L = tx := ⟨_, rfl⟩
  have hx : m_tx L tx f_text := ⟨hL, fun j hj => by
    rw [← htx, m_cpy hj]
    exact ht j hj⟩
  obtain ⟨rd0, z1, z2⟩ := m_rsys0 f_read
  have hs0 : m_sys 0 0 z_stateLabel z_moveActor z_moveFrom z_moveTo rd0 := ⟨by omega, by rw [z2, if_pos (by omega)]; rfl, fun j hj => by omega, by omega, by rw [z2, if_pos (by omega)]; rfl, fun j hj => by omega⟩
  obtain ⟨r1, r2, y1, y2, y3⟩ := m_rdSys htx hx L 0 m_N m_N 0 r_start r_kind r_value f_value 0 0 z_stateLabel z_moveActor z_moveFrom z_moveTo rd0 (by omega) (by show _ < 5000; omega) (by show _ < 5000; omega) (by omega) rfl hs0
  have hcl := m_clamp120 hL
  have hcn : (nI L).toNatClampNeg = L := nI_clamp (by omega)
  have hck : decide (¬ (0 : Int32) < 0 ∧ ¬ (0 : Int32) < 0 ∧ ¬ nI L < 0 ∧ (0 : Int32).toNatClampNeg + (nI L).toNatClampNeg ≤ 120 ∧ (0 : Int32).toNatClampNeg + (nI L).toNatClampNeg ≤ 120) = true := by
    have h0 : ¬ nI L < 0 := by
      rw [show (0 : Int32) = nI 0 from rfl, m_lt (by omega) (by omega)]
      omega
    have h1 : (0 : Int32).toNatClampNeg + (nI L).toNatClampNeg ≤ 120 := by
      rw [hcn, show (0 : Int32).toNatClampNeg = 0 from rfl]
      omega
    exact decide_eq_true ⟨by decide, by decide, h0, h1, h1⟩
  have hbl := m_blk hL f_text (i := 0) (by omega)
  rw [Nat.sub_zero] at hbl
  have w1 : F_R_read m_N r_text r_start r_kind r_value l_typed z_stateLabel z_moveActor z_moveFrom z_moveTo (nI L) = g_el (fun a => a) (some r1) (fun o14 => (some (o14.1, tx, nI L, o14.2.1, o14.2.2.1, o14.2.2.2.1, o14.2.2.2.2.1, o14.2.2.2.2.2.1, o14.2.2.2.2.2.2.1, o14.2.2.2.2.2.2.2.1, o14.2.2.2.2.2.2.2.2.1, o14.2.2.2.2.2.2.2.2.2.1, o14.2.2.2.2.2.2.2.2.2.2))) := by
    rw [← y1]
    rw [F_R_read, hcl, hck, m_chkT, hcn, htx]
    rfl
  have w2 : F_M_readsSystem m_N (nI L) f_value f_text f_read = g_el (fun a => a) (some r2) (fun o12 => (some (o12.1, o12.2.1, o12.2.2.1, o12.2.2.2.1, o12.2.2.2.2))) := by
    rw [← y2]
    simp only [F_M_readsSystem, z1, Option.bind_some]
    rw [show F_M_blanks m_N (nI L) 0 f_text = _ from hbl]
    rfl
  rcases y3 with ⟨f, x, y, hf, rfl, rfl⟩ | ⟨w, a, b, c, d, e, s, mv, sl, ma, mf, mt, x, y, z, rd, rfl, rfl, hs⟩
  · obtain ⟨fl, hfl⟩ : ∃ fl, (-10 : Int32) - nI f = fl := ⟨_, rfl⟩
    have hfn := m_flt f (by omega)
    rw [hfl] at w2 hfn
    simp only [g_el, Option.bind_some] at w1 w2
    refine ⟨_, _, by simp (disch := omega) only [F_L_system, w1, Option.bind_some, m_nm1, if_false, hfl] <;> rfl, by simp (disch := omega) only [F_M_system, w2, Option.bind_some, hfn, if_false] <;> rfl, ?_⟩
    exact ⟨rfl, hT, hW, hP⟩
  · simp only [g_el, Option.bind_some] at w1 w2
    obtain ⟨pL, pM, q1, q2, q3⟩ := m_remember hW hP
    obtain ⟨B, b1, b2⟩ := m_sysl1 (nI (s + mv), x, y, z, rd) f_now
    obtain ⟨g1, g2, g3, g4, g5, g6⟩ := hs
    refine ⟨_, _, by simp only [F_L_system, w1, Option.bind_some, if_true, q1, F_W_copySystem] <;> rfl, by simp (disch := omega) only [F_M_system, w2, Option.bind_some, m_0le, if_true, q2, b1] <;> rfl, ?_⟩
    dsimp only
    refine ⟨nI_add s mv, ⟨0, by omega, rfl, rfl, fun j hj => by omega⟩, ?_, ?_⟩
    · obtain ⟨-, hF, hS⟩ := hW
      refine ⟨⟨s, g1, rfl, ?_, fun j hj => ?_, mv, g4, rfl, ?_, fun j hj => ?_⟩, ?_, fun k hk => ?_⟩
      · rw [b2, if_pos (by omega)]
        exact g2
      · rw [b2, if_pos (by omega), m_cpy (by omega)]
        exact g3 j hj
      · rw [b2, if_pos (by omega)]
        exact g5
      · rw [b2, if_pos (by omega), b2, if_pos (by omega), b2, if_pos (by omega), m_cpy (by omega), m_cpy (by omega), m_cpy (by omega)]
        exact g6 j hj
      · exact hF.to (fun _ _ => rfl) (fun z hz => by rw [b2, if_neg (by omega)])
      · exact (hS k hk).to (fun _ _ => rfl) (fun z hz => by rw [b2, if_neg (by omega)])
    · exact q3
