/-! the class: the shortest loop through a node, by layers -/
def m_cs (X : Nat → Nat → Nat → Prop) (Wn : Nat → Prop) (mt kb : Nat → Nat) (x y : Nat) : Prop := ∃ k v, X k (x / 32) v ∧ Wn v ∧ y = 32 * v + ((x % 32 ||| mt (x / 32)) ||| kb k)
def m_Fl (Src : Nat → Prop) (Sc : Nat → Nat → Prop) (c x : Nat) : Prop := (c = 0 ∧ Src x) ∨ (1 ≤ c ∧ m_Rc Src Sc c x ∧ ∀ j, 1 ≤ j → j < c → ¬ m_Rc Src Sc j x)
section
variable {Src : Nat → Prop} {Sc : Nat → Nat → Prop}
theorem m_Fl_to {c y : Nat} (h : m_Fl Src Sc c y) : m_Rc Src Sc c y := by
  rcases h with ⟨rfl, h⟩ | ⟨_, h, _⟩
  · exact h
  · exact h
theorem m_Fl_next {c x : Nat} (h : m_Rc Src Sc (c + 1) x) (hno : ∀ j, 1 ≤ j → j ≤ c → ¬ m_Rc Src Sc j x) : ∃ y, m_Fl Src Sc c y ∧ Sc y x := by
  obtain ⟨y, h1, h2⟩ := h
  refine ⟨y, ?_, h2⟩
  by_cases hc : c = 0
  · subst hc
    exact Or.inl ⟨rfl, h1⟩
  · exact Or.inr ⟨by omega, h1, fun j j1 j2 z => hno (j + 1) (by omega) (by omega) ⟨y, z, h2⟩⟩
theorem m_Fl_end {c : Nat} (hz : ∀ x, ¬ m_Fl Src Sc (c + 1) x) : ∀ l x, 1 ≤ l → m_Rc Src Sc l x → ∃ j, 1 ≤ j ∧ j ≤ c ∧ m_Rc Src Sc j x := by
  intro l
  induction l using Nat.strongRecOn with
  | ind l ih =>
    intro x hl hx
    by_cases h1 : l ≤ c
    · exact ⟨l, hl, h1, hx⟩
    · by_cases h2 : l = c + 1
      · subst h2
        refine Classical.byContradiction fun hne => hz x (Or.inr ⟨by omega, hx, fun j j1 j2 z => hne ⟨j, j1, by omega, z⟩⟩)
      · obtain ⟨l', rfl⟩ : ∃ l', l = l' + 1 := ⟨l - 1, by omega⟩
        obtain ⟨y, y1, y2⟩ := hx
        obtain ⟨j, j1, j2, j3⟩ := ih l' (by omega) y (by omega) y1
        exact ih (j + 1) (by omega) x (by omega) ⟨y, j3, y2⟩
end
section
variable {N D : Nat} {st : Nat → Nat → Int64} {X : Nat → Nat → Nat → Prop} {met mbs : Nat → Int32} {mt kb : Nat → Nat}
theorem m_cs_bnd (hX : m_gr N st X) (hm : m_mk N D met mbs mt kb) (hD : D ≤ 5) {u : Nat} (hu : u < N) {Wn : Nat → Prop} : ∀ l x, m_Rc (fun x => x = 32 * u) (m_cs X Wn mt kb) l x → x / 32 < N ∧ x % 32 < 2 ^ D
  | 0, x, h => by
    have h' : x = 32 * u := h
    have := m_pD hD
    subst h'
    exact ⟨by omega, by omega⟩
  | l + 1, x, ⟨y, h1, k, v, h2, h3, h4⟩ => by
    have h32 := m_pD hD
    obtain ⟨b1, b2⟩ := m_cs_bnd hX hm hD hu l y h1
    obtain ⟨k1, k2, k3⟩ := hX.1 _ _ _ h2
    have hT := m_orD (m_orD b2 (hm.1 _ b1).2) (hm.2 k k1).2
    generalize (y % 32 ||| mt (y / 32)) ||| kb k = T at hT h4
    subst h4
    exact ⟨by omega, by omega⟩
theorem m_thru (hN : N ≤ 64) (hD : D ≤ 5) (hX : m_gr N st X) (hm : m_mk N D met mbs mt kb) (rg : Nat → Int64) {u : Nat} (hu : u < N) {most : Nat} (hmost : most ≤ 2048) (se fr nx : Nat → Int64) : ∃ o se' fr' nx', F_S_loopThrough m_N (nI N) st (nI (2 ^ D - 1)) met mbs rg se fr nx (nI u) (nI most) = some (o, se', fr', nx') ∧ ((o = 0 ∧ ∀ l, l + 1 ≤ most → ¬ m_Rc (fun x => x = 32 * u) (m_cs X (fun v => m_B (rg u) v = true) mt kb) (l + 1) (32 * u + (2 ^ D - 1))) ∨ ∃ l, o = nI (l + 1) ∧ l + 1 ≤ most ∧ m_Rc (fun x => x = 32 * u) (m_cs X (fun v => m_B (rg u) v = true) mt kb) (l + 1) (32 * u + (2 ^ D - 1)) ∧ ∀ l', m_Rc (fun x => x = 32 * u) (m_cs X (fun v => m_B (rg u) v = true) mt kb) (l' + 1) (32 * u + (2 ^ D - 1)) → l ≤ l') := by
  have h32 := m_pD hD
  have hbnd := m_cs_bnd hX hm hD hu (Wn := fun v => m_B (rg u) v = true)
  have himin : g_imin (nI (2 ^ D - 1)) (31 : Int32) = nI (2 ^ D - 1) := by
    simp (disch := omega) only [g_imin, m_e31, m_lt, if_neg]
  generalize hSrc : (fun x => x = 32 * u) = Src at *
  have hSi : ∀ x, Src x ↔ x = 32 * u := fun x => by rw [← hSrc]
  generalize hSc : m_cs X (fun v => m_B (rg u) v = true) mt kb = Sc at *
  obtain ⟨s0, a1, a2⟩ := m_it (fun m M (s : (Nat → Int64) × (Nat → Int64)) => S_loopThrough_l1 (nI (2 ^ D - 1)) m (nI M) s.1 s.2) id (2 ^ D) (fun M0 s => ∀ M, M < M0 → s.1 M = 0 ∧ s.2 M = 0)
    (fun m s _ => by simp (disch := omega) only [S_loopThrough_l1_s, himin, m_lt, if_pos, id])
    (fun m M s hM hI => by
      refine ⟨(vp_updL s.1 M 0, vp_updL s.2 M 0), fun j hj => ?_, by simp (disch := omega) only [S_loopThrough_l1_s, himin, m_lt, if_neg, m_inb, m_chkT, nI_clamp, nI_1]⟩
      by_cases hjM : j = M
      · subst hjM
        exact ⟨pk_uLs, pk_uLs⟩
      · exact ⟨(pk_uLn hjM).trans (hI j (by omega)).1, (pk_uLn hjM).trans (hI j (by omega)).2⟩)
    (2 ^ D) 0 m_N (se, fr) (by omega) (by show _ < 5000; omega) (fun M hM => by omega)
  have e0 : F_S_loopThrough m_N (nI N) st (nI (2 ^ D - 1)) met mbs rg se fr nx (nI u) (nI most) = g_el (fun a => a) (S_loopThrough_l2 m_N (nI most) (nI u) (nI N) st met mbs rg (nI (2 ^ D - 1)) m_N (nI (0 + 1)) s0.1 (vp_updL s0.2 0 (g_lshl 1 (nI u))) nx) (fun o12 => (some ((0 : Int32), o12.1, o12.2.1, o12.2.2))) := by
    simp only [F_S_loopThrough]
    rw [show S_loopThrough_l1 (nI (2 ^ D - 1)) m_N 0 se fr = _ from a1, Option.bind_some]
    rfl
  rcases m_itE (fun m c (s : (Nat → Int64) × (Nat → Int64) × (Nat → Int64)) => S_loopThrough_l2 m_N (nI most) (nI u) (nI N) st met mbs rg (nI (2 ^ D - 1)) m (nI (c + 1)) s.1 s.2.1 s.2.2) id most (fun c s => (∀ M, M < 2 ^ D → ∀ v, v < 64 → (m_B (s.2.1 M) v = true ↔ m_Fl Src Sc c (32 * v + M))) ∧ (∀ M, M < 2 ^ D → ∀ v, v < 64 → (m_B (s.1 M) v = true ↔ ∃ j, 1 ≤ j ∧ j ≤ c ∧ m_Rc Src Sc j (32 * v + M))) ∧ ∀ j, 1 ≤ j → j ≤ c → ¬ m_Rc Src Sc j (32 * u + (2 ^ D - 1))) (fun x => (x.1 = 0 ∧ ∀ l, ¬ m_Rc Src Sc (l + 1) (32 * u + (2 ^ D - 1))) ∨ ∃ l, x.1 = nI (l + 1) ∧ l + 1 ≤ most ∧ m_Rc Src Sc (l + 1) (32 * u + (2 ^ D - 1)) ∧ ∀ l', m_Rc Src Sc (l' + 1) (32 * u + (2 ^ D - 1)) → l ≤ l')
    (fun m s _ => by simp (disch := omega) only [S_loopThrough_l2_s, m_lt, if_pos, id])
    (fun m c s hc hI => by
      obtain ⟨i1, i2, i3⟩ := hI
      obtain ⟨nx', b1, b2⟩ := m_goStep hN hD hX hm (rg u) s.2.1 s.2.2
      have hnx : ∀ M, M < 2 ^ D → ∀ v, v < 64 → (m_B (nx' M) v = true ↔ ∃ y, m_Fl Src Sc c y ∧ Sc y (32 * v + M)) := fun M hM v hv => by
        rw [b2 M hM v hv]
        refine ⟨fun ⟨M', w, k, z1, z2, z3, z4, z5, z6, z7⟩ => ⟨32 * w + M', (i1 M' z1 w (by omega)).mp z3, ?_⟩, fun ⟨y, y1, y2⟩ => ?_⟩
        · rw [← hSc]
          have q1 : (32 * w + M') / 32 = w := by omega
          have q2 : (32 * w + M') % 32 = M' := by omega
          refine ⟨k, v, ?_, z7, ?_⟩
          · rw [q1]
            exact z6
          · rw [q1, q2, z5]
        · obtain ⟨c1, c2⟩ := hbnd c y (m_Fl_to y1)
          rw [← hSc] at y2
          obtain ⟨k, w, y3, y4, y5⟩ := y2
          have hk := (hX.1 _ _ _ y3).1
          have hT := m_orD (m_orD c2 (hm.1 _ c1).2) (hm.2 k hk).2
          have hvM : v = w ∧ M = (y % 32 ||| mt (y / 32)) ||| kb k := by
            generalize (y % 32 ||| mt (y / 32)) ||| kb k = T at hT y5 ⊢
            omega
          obtain ⟨rfl, hMe⟩ := hvM
          refine ⟨y % 32, y / 32, k, c2, c1, (i1 _ c2 _ (by omega)).mpr ?_, hk, hMe, y3, y4⟩
          rw [show 32 * (y / 32) + y % 32 = y by omega]
          exact y1
      have htg : m_B (nx' (2 ^ D - 1)) u = true ↔ m_Rc Src Sc (c + 1) (32 * u + (2 ^ D - 1)) := by
        rw [hnx _ (by omega) u (by omega)]
        refine ⟨fun ⟨y, y1, y2⟩ => ⟨y, m_Fl_to y1, y2⟩, fun z => m_Fl_next z i3⟩
      have e1 := S_loopThrough_l2_s m_N (nI most) (nI u) (nI N) st met mbs rg (nI (2 ^ D - 1)) m (nI (c + 1)) s.1 s.2.1 s.2.2
      simp (disch := omega) only [himin, m_lt, if_neg, m_inb, m_chkT, nI_clamp, nI_1, b1, Option.bind_some, m_Thas, m_i0] at e1
      cases hb : m_B (nx' (2 ^ D - 1)) u with
      | true =>
        rw [hb, if_neg (by decide)] at e1
        refine Or.inr ⟨_, Or.inr ⟨c, rfl, by omega, htg.mp hb, fun l' hl' => ?_⟩, e1⟩
        refine Nat.le_of_not_lt fun z => i3 (l' + 1) (by omega) (by omega) hl'
      | false =>
        rw [hb, if_pos rfl] at e1
        obtain ⟨o, se', fr', c1, c2, c3, c4⟩ := m_takeNext hD s.1 s.2.1 nx'
        rw [c1, Option.bind_some] at e1
        have hnt : ¬ m_Rc Src Sc (c + 1) (32 * u + (2 ^ D - 1)) := fun z => by
          have := htg.mpr z
          rw [hb] at this
          cases this
        have hfr : ∀ M, M < 2 ^ D → ∀ v, v < 64 → (m_B (fr' M) v = true ↔ m_Fl Src Sc (c + 1) (32 * v + M)) := fun M hM v hv => by
          rw [(c4 M hM).1, m_B_and, m_B_not _ hv, Bool.and_eq_true, hnx M hM v hv]
          refine ⟨fun ⟨⟨y, y1, y2⟩, z⟩ => Or.inr ⟨by omega, ⟨y, m_Fl_to y1, y2⟩, fun j j1 j2 w => ?_⟩, fun z => ?_⟩
          · have := (i2 M hM v hv).mpr ⟨j, j1, by omega, w⟩
            rw [this] at z
            exact absurd z (by decide)
          · rcases z with ⟨z, _⟩ | ⟨z1, z2, z3⟩
            · omega
            · refine ⟨m_Fl_next z2 (fun j j1 j2 => z3 j j1 (by omega)), ?_⟩
              cases hs : m_B (s.1 M) v with
              | false => rfl
              | true =>
                obtain ⟨j, j1, j2, j3⟩ := (i2 M hM v hv).mp hs
                exact absurd j3 (z3 j j1 (by omega))
        by_cases ho : o = 0
        · rw [if_pos ho] at e1
          refine Or.inr ⟨_, Or.inl ⟨rfl, fun l hl => ?_⟩, e1⟩
          have hz : ∀ x, ¬ m_Fl Src Sc (c + 1) x := fun x hx => by
            obtain ⟨d1, d2⟩ := hbnd (c + 1) x (m_Fl_to hx)
            have := (hfr (x % 32) d2 (x / 32) (by omega)).mpr (by rw [show 32 * (x / 32) + x % 32 = x by omega]; exact hx)
            rw [c3 ho _ d2, m_B_0] at this
            cases this
          obtain ⟨j, j1, j2, j3⟩ := m_Fl_end hz (l + 1) _ (by omega) hl
          exact i3 j j1 j2 j3
        · rw [if_neg ho] at e1
          refine Or.inl ⟨(se', fr', nx'), ⟨hfr, fun M hM v hv => ?_, fun j j1 j2 => ?_⟩, e1⟩
          · show m_B (se' M) v = true ↔ _
            rw [(c4 M hM).2, m_B_or, Bool.or_eq_true, i2 M hM v hv, hfr M hM v hv]
            refine ⟨fun z => ?_, fun ⟨j, j1, j2, j3⟩ => ?_⟩
            · rcases z with ⟨j, j1, j2, j3⟩ | z
              · exact ⟨j, j1, by omega, j3⟩
              · exact ⟨c + 1, by omega, by omega, m_Fl_to z⟩
            · by_cases hx : ∃ j, 1 ≤ j ∧ j ≤ c ∧ m_Rc Src Sc j (32 * v + M)
              · exact Or.inl hx
              · have hjc : j = c + 1 := by
                  refine Classical.byContradiction fun y => hx ⟨j, j1, by omega, j3⟩
                subst hjc
                exact Or.inr (Or.inr ⟨by omega, j3, fun j' y1 y2 y3 => hx ⟨j', y1, by omega, y3⟩⟩)
          · by_cases hjc : j = c + 1
            · subst hjc
              exact hnt
            · exact i3 j j1 (by omega))
    most 0 m_N (s0.1, vp_updL s0.2 0 (g_lshl 1 (nI u)), nx) (by omega) (by show _ < 5000; omega) ⟨fun M hM v hv => by
      show m_B (vp_updL s0.2 0 (g_lshl 1 (nI u)) M) v = true ↔ _
      by_cases hM0 : M = 0
      · subst hM0
        rw [pk_uLs, m_B_one (by omega) hv]
        refine ⟨fun z => Or.inl ⟨rfl, (hSi _).mpr (by rw [of_decide_eq_true z]; omega)⟩, fun z => ?_⟩
        rcases z with ⟨_, z⟩ | ⟨z, _⟩
        · have := (hSi _).mp z
          exact decide_eq_true (by omega)
        · omega
      · rw [pk_uLn hM0, (a2 M hM).2, m_B_0]
        refine ⟨fun z => absurd z (by decide), fun z => ?_⟩
        rcases z with ⟨_, z⟩ | ⟨z, _⟩
        · have := (hSi _).mp z
          omega
        · omega, fun M hM v hv => by
      show m_B (s0.1 M) v = true ↔ _
      rw [(a2 M hM).1, m_B_0]
      exact ⟨fun z => absurd z (by decide), fun ⟨j, j1, j2, _⟩ => by omega⟩, fun j j1 j2 => by omega⟩ with ⟨s', h1, h2, h3, h4⟩ | ⟨x, h1, h2⟩
  · rw [show S_loopThrough_l2 m_N (nI most) (nI u) (nI N) st met mbs rg (nI (2 ^ D - 1)) m_N (nI (0 + 1)) s0.1 (vp_updL s0.2 0 (g_lshl 1 (nI u))) nx = _ from h1, m_elR] at e0
    exact ⟨_, _, _, _, e0, Or.inl ⟨rfl, fun l hl => h4 (l + 1) (by omega) hl⟩⟩
  · rw [show S_loopThrough_l2 m_N (nI most) (nI u) (nI N) st met mbs rg (nI (2 ^ D - 1)) m_N (nI (0 + 1)) s0.1 (vp_updL s0.2 0 (g_lshl 1 (nI u))) nx = _ from h2, m_elL] at e0
    refine ⟨x.1, x.2.1, x.2.2.1, x.2.2.2, e0, ?_⟩
    rcases h1 with ⟨h3, h4⟩ | h3
    · exact Or.inl ⟨h3, fun l _ => h4 l⟩
    · exact Or.inr h3
end
