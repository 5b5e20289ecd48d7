/-! the class: the least lasso -/
def m_cc3 (DS LP : Nat → Nat → Prop) (q N : Nat) (core : Nat → Prop) (Pr : Nat → Nat → Prop) (n k s : Nat) : Prop := ∃ u d l, u < N ∧ core u ∧ Pr d u ∧ m_lst DS u d ∧ m_lst LP u l ∧ n = d + (l + 1) ∧ k = d ∧ s = u / q
def m_cb (C : Nat → Nat → Nat → Prop) (len ent pl : Int32) : Prop := (len = 0 ∧ ∀ a b c, ¬ C a b c) ∨ ∃ a b c, len = nI a ∧ ent = nI b ∧ pl = nI c ∧ C a b c ∧ ∀ a' b' c', C a' b' c' → m_lex a b c a' b' c'
theorem m_cb_iff {C C' : Nat → Nat → Nat → Prop} (h : ∀ a b c, C a b c ↔ C' a b c) {len ent pl : Int32} (hb : m_cb C len ent pl) : m_cb C' len ent pl := by
  rcases hb with ⟨a1, a2⟩ | ⟨a, b, c, a1, a2, a3, a4, a5⟩
  · exact Or.inl ⟨a1, fun a b c z => a2 a b c ((h a b c).mpr z)⟩
  · exact Or.inr ⟨a, b, c, a1, a2, a3, (h a b c).mp a4, fun a' b' c' z => a5 a' b' c' ((h a' b' c').mpr z)⟩
section
variable {N D G : Nat} {st : Nat → Nat → Int64} {X : Nat → Nat → Nat → Prop} {met mbs : Nat → Int32} {mt kb : Nat → Nat} {rg : Nat → Int64} {core : Int64} {DS : Nat → Nat → Prop}
/-- a loop of the class -/
def m_cLP (D : Nat) (X : Nat → Nat → Nat → Prop) (rg : Nat → Int64) (mt kb : Nat → Nat) (u l : Nat) : Prop := m_Rc (fun x => x = 32 * u) (m_cs X (fun v => m_B (rg u) v = true) mt kb) (l + 1) (32 * u + (2 ^ D - 1))
theorem m_tryE (hN : N ≤ 64) (hD : D ≤ 5) (hG : G ≤ 3) (hX : m_gr N st X) (hm : m_mk N D met mbs mt kb) (hLb : ∀ u, u < N → m_B core u = true → (∀ l, ¬ m_cLP D X rg mt kb u l) ∨ ∃ l, l < 2048 ∧ m_cLP D X rg mt kb u l) {d0 : Nat} (hd0 : d0 < 64) (en : Int64) (hen : ∀ u, u < N → (m_B en u = true ↔ m_lst DS u d0 ∧ m_B core u = true)) (len ent pl : Int32) (se fr nx : Nat → Int64) (hI : m_cb (m_cc3 DS (m_cLP D X rg mt kb) (2 ^ G) N (fun u => m_B core u = true) (fun d _ => d < d0)) len ent pl) (hlen : len = 0 ∨ ∃ a, len = nI a ∧ d0 + 1 ≤ a ∧ a < 5000) : ∃ len' ent' pl' se' fr' nx', F_S_tryEntries m_N (nI G) (nI N) st (nI (2 ^ D - 1)) met mbs rg len ent pl se fr nx (nI d0) en = some (len', ent', pl', se', fr', nx') ∧ m_cb (m_cc3 DS (m_cLP D X rg mt kb) (2 ^ G) N (fun u => m_B core u = true) (fun d _ => d < d0 + 1)) len' ent' pl' ∧ (len' = 0 ∨ ∃ a, len' = nI a ∧ d0 + 1 ≤ a ∧ a < 5000) := by
  obtain ⟨s, h1, h2, h3⟩ := m_it (fun m u (s : Int32 × Int32 × Int32 × (Nat → Int64) × (Nat → Int64) × (Nat → Int64)) => S_tryEntries_l1 m_N (nI N) en st (nI (2 ^ D - 1)) met mbs rg (nI d0) (nI G) m (nI u) s.1 s.2.1 s.2.2.1 s.2.2.2.1 s.2.2.2.2.1 s.2.2.2.2.2) id N (fun u0 s => m_cb (m_cc3 DS (m_cLP D X rg mt kb) (2 ^ G) N (fun u => m_B core u = true) (fun d u => d < d0 ∨ (d = d0 ∧ u < u0))) s.1 s.2.1 s.2.2.1 ∧ (s.1 = 0 ∨ ∃ a, s.1 = nI a ∧ d0 + 1 ≤ a ∧ a < 5000))
    (fun m s _ => by simp (disch := omega) only [S_tryEntries_l1_s, m_le, if_pos, id])
    (fun m u s hu hJ => by
      obtain ⟨j1, j2⟩ := hJ
      have e0 := S_tryEntries_l1_s m_N (nI N) en st (nI (2 ^ D - 1)) met mbs rg (nI d0) (nI G) m (nI u) s.1 s.2.1 s.2.2.1 s.2.2.2.1 s.2.2.2.2.1 s.2.2.2.2.2
      simp (disch := omega) only [m_e64, m_le, if_neg, nI_1, m_Thas, m_i0] at e0
      -- nothing new of this node
      have hkeep : (∀ l, ¬ (m_B core u = true ∧ m_lst DS u d0 ∧ m_lst (m_cLP D X rg mt kb) u l)) → m_cb (m_cc3 DS (m_cLP D X rg mt kb) (2 ^ G) N (fun u => m_B core u = true) (fun d v => d < d0 ∨ (d = d0 ∧ v < u + 1))) s.1 s.2.1 s.2.2.1 := fun hno => m_cb_iff (fun a b c => by
        refine ⟨fun ⟨x, d, l, z1, z2, z3, z4⟩ => ⟨x, d, l, z1, z2, by omega, z4⟩, fun ⟨x, d, l, z1, z2, z3, z4, z5, z6⟩ => ⟨x, d, l, z1, z2, ?_, z4, z5, z6⟩⟩
        rcases z3 with z3 | ⟨z3, z3'⟩
        · exact Or.inl z3
        · refine Or.inr ⟨z3, ?_⟩
          have : x ≠ u := fun y => by subst y; subst z3; exact hno l ⟨z2, z4, z5⟩
          omega) j1
      cases hb : m_B en u with
      | false =>
        rw [hb, if_pos rfl, Option.bind_some] at e0
        refine ⟨s, ⟨hkeep (fun l z => ?_), j2⟩, e0⟩
        have := (hen u hu).mpr ⟨z.2.1, z.1⟩
        rw [hb] at this
        cases this
      | true =>
        rw [hb, if_neg (by decide)] at e0
        obtain ⟨hds, hco⟩ := (hen u hu).mp hb
        have hpl : g_ishr (nI u) (nI G) = nI (u / 2 ^ G) := m_ishr (by omega) (by omega)
        have hdl : u / 2 ^ G ≤ u := Nat.div_le_self _ _
        rcases j2 with j2 | ⟨a, j2, j3, j4⟩
        · rw [if_pos j2] at e0
          obtain ⟨o, se', fr', nx', t1, t2⟩ := m_thru hN hD hX hm rg hu (most := 2048) (Nat.le_refl _) s.2.2.2.1 s.2.2.2.2.1 s.2.2.2.2.2
          rw [show F_S_loopThrough m_N (nI N) st (nI (2 ^ D - 1)) met mbs rg s.2.2.2.1 s.2.2.2.2.1 s.2.2.2.2.2 (nI u) 2048 = _ from t1, Option.bind_some] at e0
          rcases t2 with ⟨t3, t4⟩ | ⟨l, t3, t4, t5, t6⟩
          · rw [if_pos (by rw [t3]; exact Int32.le_refl _), Option.bind_some] at e0
            refine ⟨(s.1, s.2.1, s.2.2.1, se', fr', nx'), ⟨hkeep (fun l z => ?_), Or.inl j2⟩, e0⟩
            rcases hLb u hu hco with y | ⟨l', y1, y2⟩
            · exact y l z.2.2.1
            · exact t4 l' (by omega) y2
          · rw [if_neg (by rw [t3, m_le0 (by omega)]; omega), Option.bind_some] at e0
            dsimp only at e0
            rw [t3, nI_add, hpl] at e0
            refine ⟨(nI (d0 + (l + 1)), nI d0, nI (u / 2 ^ G), se', fr', nx'), ⟨Or.inr ⟨d0 + (l + 1), d0, u / 2 ^ G, rfl, rfl, rfl, ⟨u, d0, l, hu, hco, Or.inr ⟨rfl, by omega⟩, hds, ⟨t5, t6⟩, rfl, rfl, rfl⟩, fun a' b' c' z => ?_⟩, Or.inr ⟨d0 + (l + 1), rfl, by omega, by omega⟩⟩, e0⟩
            obtain ⟨x, d, l2, z1, z2, z3, z4, z5, z6, z7, z8⟩ := z
            rcases j1 with ⟨k1, k2⟩ | ⟨a, b, c, k1, k2, k3, k4, k5⟩
            · have hxu : x = u ∧ d = d0 := by
                refine Classical.byContradiction fun y => k2 a' b' c' ⟨x, d, l2, z1, z2, ?_, z4, z5, z6, z7, z8⟩
                rcases z3 with z3 | ⟨z3, z3'⟩
                · exact Or.inl z3
                · refine Or.inr ⟨z3, ?_⟩
                  have : x ≠ u := fun w => y ⟨w, z3⟩
                  omega
              obtain ⟨rfl, rfl⟩ := hxu
              have q1 := m_lst_u z5 ⟨t5, t6⟩
              unfold m_lex
              omega
            · exfalso
              obtain ⟨y, d', l', w1, w2, w3, w4, w5, w6, w7, w8⟩ := k4
              have hl' : l' < 2048 := by
                rcases hLb y w1 w2 with q | ⟨l3, q1, q2⟩
                · exact absurd w5.1 (q l')
                · have := w5.2 l3 q2
                  omega
              have : nI a = 0 := k1.symm.trans j2
              have hd' : d' ≤ d0 := by omega
              rw [m_0eq (by omega)] at this
              omega
        · have hne : ¬ s.1 = 0 := by
            rw [j2, m_0eq (by omega)]
            omega
          have hmo : s.1 - nI d0 - 1 = nI (a - d0 - 1) := by
            rw [j2, pk_sub (show d0 ≤ a by omega), m_pred (by omega)]
          rw [if_neg hne, hmo] at e0
          have hal : ∃ b c, s.2.1 = nI b ∧ s.2.2.1 = nI c ∧ m_cc3 DS (m_cLP D X rg mt kb) (2 ^ G) N (fun u => m_B core u = true) (fun d v => d < d0 ∨ (d = d0 ∧ v < u)) a b c ∧ ∀ a' b' c', m_cc3 DS (m_cLP D X rg mt kb) (2 ^ G) N (fun u => m_B core u = true) (fun d v => d < d0 ∨ (d = d0 ∧ v < u)) a' b' c' → m_lex a b c a' b' c' := by
            rcases j1 with ⟨k1, k2⟩ | ⟨a', b, c, k1, k2, k3, k4, k5⟩
            · exact absurd k1 hne
            · have ha' : a' < 5000 := by
                obtain ⟨y, d', l', w1, w2, w3, w4, w5, w6, w7, w8⟩ := k4
                have hl' : l' < 2048 := by
                  rcases hLb y w1 w2 with q | ⟨l3, q1, q2⟩
                  · exact absurd w5.1 (q l')
                  · have := w5.2 l3 q2
                    omega
                omega
              have haa : a' = a := (nI_eq (by omega) (by omega)).mp (k1.symm.trans j2)
              subst haa
              exact ⟨b, c, k2, k3, k4, k5⟩
          obtain ⟨b, c, k2, k3, k4, k5⟩ := hal
          have ha2 : a - d0 - 1 ≤ 2048 ∨ 2048 < a - d0 - 1 := by omega
          have ha3 : a ≤ d0 + 2049 := by
            obtain ⟨y, d', l', w1, w2, w3, w4, w5, w6, w7, w8⟩ := id k4
            have hl' : l' < 2048 := by
              rcases hLb y w1 w2 with q | ⟨l3, q1, q2⟩
              · exact absurd w5.1 (q l')
              · have := w5.2 l3 q2
                omega
            omega
          obtain ⟨o, se', fr', nx', t1, t2⟩ := m_thru hN hD hX hm rg hu (most := a - d0 - 1) (by omega) s.2.2.2.1 s.2.2.2.2.1 s.2.2.2.2.2
          rw [t1, Option.bind_some] at e0
          rcases t2 with ⟨t3, t4⟩ | ⟨l, t3, t4, t5, t6⟩
          · rw [if_pos (by rw [t3]; exact Int32.le_refl _), Option.bind_some] at e0
            refine ⟨(s.1, s.2.1, s.2.2.1, se', fr', nx'), ⟨Or.inr ⟨a, b, c, j2, k2, k3, ?_, fun a' b' c' z => ?_⟩, Or.inr ⟨a, j2, j3, j4⟩⟩, e0⟩
            · obtain ⟨y, d', l', w1, w2, w3, w4⟩ := id k4
              exact ⟨y, d', l', w1, w2, by omega, w4⟩
            · obtain ⟨x, d, l2, z1, z2, z3, z4, z5, z6, z7, z8⟩ := z
              by_cases hxu : x = u ∧ d = d0
              · obtain ⟨rfl, rfl⟩ := hxu
                have hl2 : ¬ l2 + 1 ≤ a - d - 1 := fun y => t4 l2 y z5.1
                obtain ⟨y, d', l', w1, w2, w3, w4, w5, w6, w7, w8⟩ := id k4
                have hmono : y ≤ x → y / 2 ^ G ≤ x / 2 ^ G := fun q => Nat.div_le_div_right q
                unfold m_lex
                rcases w3 with w3 | ⟨w3, w3'⟩
                · omega
                · have := hmono (by omega)
                  omega
              · refine k5 _ _ _ ⟨x, d, l2, z1, z2, ?_, z4, z5, z6, z7, z8⟩
                rcases z3 with z3 | ⟨z3, z3'⟩
                · exact Or.inl z3
                · refine Or.inr ⟨z3, ?_⟩
                  have : x ≠ u := fun w => hxu ⟨w, z3⟩
                  omega
          · rw [if_neg (by rw [t3, m_le0 (by omega)]; omega), Option.bind_some] at e0
            dsimp only at e0
            rw [t3, nI_add, hpl] at e0
            refine ⟨(nI (d0 + (l + 1)), nI d0, nI (u / 2 ^ G), se', fr', nx'), ⟨Or.inr ⟨d0 + (l + 1), d0, u / 2 ^ G, rfl, rfl, rfl, ⟨u, d0, l, hu, hco, Or.inr ⟨rfl, by omega⟩, hds, ⟨t5, t6⟩, rfl, rfl, rfl⟩, fun a' b' c' z => ?_⟩, Or.inr ⟨d0 + (l + 1), rfl, by omega, by omega⟩⟩, e0⟩
            obtain ⟨x, d, l2, z1, z2, z3, z4, z5, z6, z7, z8⟩ := z
            by_cases hxu : x = u ∧ d = d0
            · obtain ⟨rfl, rfl⟩ := hxu
              have q1 := m_lst_u z5 ⟨t5, t6⟩
              unfold m_lex
              omega
            · have h9 := k5 a' b' c' ⟨x, d, l2, z1, z2, by
                rcases z3 with z3 | ⟨z3, z3'⟩
                · exact Or.inl z3
                · refine Or.inr ⟨z3, ?_⟩
                  have : x ≠ u := fun w => hxu ⟨w, z3⟩
                  omega, z4, z5, z6, z7, z8⟩
              unfold m_lex at h9 ⊢
              omega)
    N 0 m_N (len, ent, pl, se, fr, nx) (by omega) (by show _ < 5000; omega) ⟨m_cb_iff (fun a b c => ⟨fun ⟨x, d, l, z1, z2, z3, z4⟩ => ⟨x, d, l, z1, z2, Or.inl z3, z4⟩, fun ⟨x, d, l, z1, z2, z3, z4⟩ => ⟨x, d, l, z1, z2, by omega, z4⟩⟩) hI, hlen⟩
  refine ⟨s.1, s.2.1, s.2.2.1, s.2.2.2.1, s.2.2.2.2.1, s.2.2.2.2.2, ?_, m_cb_iff (fun a b c => ⟨fun ⟨x, d, l, z1, z2, z3, z4⟩ => ⟨x, d, l, z1, z2, by omega, z4⟩, fun ⟨x, d, l, z1, z2, z3, z4⟩ => ⟨x, d, l, z1, z2, by omega, z4⟩⟩) h2, h3⟩
  simp only [F_S_tryEntries]
  rw [show S_tryEntries_l1 m_N (nI N) en st (nI (2 ^ D - 1)) met mbs rg (nI d0) (nI G) m_N 0 len ent pl se fr nx = _ from h1]
  rfl
theorem m_nextLayer (hN : N ≤ 64) (hX : m_gr N st X) (ly : Int64) : ∃ x, F_S_nextLayer m_N (nI N) st ly = some x ∧ ∀ b, b < 64 → (m_B x b = true ↔ ∃ v, v < N ∧ m_B ly v = true ∧ m_Eg X v b) := by
  obtain ⟨x, h1, h2⟩ := m_it (fun m v x => S_nextLayer_l1 (nI N) ly st m x (nI v)) id N (fun v0 x => ∀ b, b < 64 → (m_B x b = true ↔ ∃ v, v < v0 ∧ m_B ly v = true ∧ m_Eg X v b))
    (fun m x _ => by simp (disch := omega) only [S_nextLayer_l1_s, m_le, if_pos, id])
    (fun m v x hv hI => by
      obtain ⟨y, y1, y2⟩ := m_behind (st := st) (a := v) (by omega)
      have e0 := S_nextLayer_l1_s (nI N) ly st m x (nI v)
      simp (disch := omega) only [m_e64, m_le, if_neg, nI_1, m_Thas, m_i0, y1, Option.bind_some] at e0
      have hy : ∀ b, b < 64 → (m_B y b = true ↔ m_Eg X v b) := fun b hb => by
        rw [y2]
        exact ⟨fun ⟨k, k1, k2⟩ => ⟨k, (hX.2 k k1 v hv b hb).mp k2⟩, fun ⟨k, k2⟩ => ⟨k, (hX.1 _ _ _ k2).1, (hX.2 k (hX.1 _ _ _ k2).1 v hv b hb).mpr k2⟩⟩
      cases hb : m_B ly v with
      | true =>
        rw [hb, if_neg (by decide), Option.bind_some] at e0
        refine ⟨_, fun b hbb => ?_, e0⟩
        rw [m_B_or, Bool.or_eq_true, hI b hbb, hy b hbb]
        refine ⟨fun z => ?_, fun ⟨w, w1, w2, w3⟩ => ?_⟩
        · rcases z with ⟨w, w1, w2⟩ | z
          · exact ⟨w, by omega, w2⟩
          · exact ⟨v, by omega, hb, z⟩
        · by_cases he : w = v
          · subst he
            exact Or.inr w3
          · exact Or.inl ⟨w, by omega, w2, w3⟩
      | false =>
        rw [hb, if_pos rfl, Option.bind_some] at e0
        refine ⟨_, fun b hbb => ?_, e0⟩
        rw [hI b hbb]
        refine ⟨fun ⟨w, w1, w2⟩ => ⟨w, by omega, w2⟩, fun ⟨w, w1, w2, w3⟩ => ⟨w, ?_, w2, w3⟩⟩
        have : w ≠ v := fun y => by subst y; rw [hb] at w2; exact absurd w2 (by decide)
        omega)
    N 0 m_N 0 (by omega) (by show _ < 5000; omega) (fun b hb => by rw [m_B_0]; exact ⟨fun z => absurd z (by decide), fun ⟨_, z, _⟩ => by omega⟩)
  refine ⟨x, ?_, h2⟩
  simp only [F_S_nextLayer]
  rw [show S_nextLayer_l1 (nI N) ly st m_N 0 0 = _ from h1]
  rfl
theorem m_lst_pred {C0 : Nat → Prop} {E : Nat → Nat → Prop} {u d : Nat} (h : m_lst (fun u d => m_Rc C0 E d u) u (d + 1)) : ∃ v, E v u ∧ m_lst (fun u d => m_Rc C0 E d u) v d := by
  obtain ⟨⟨v, v1, v2⟩, h2⟩ := h
  refine ⟨v, v2, v1, fun d' hd' => ?_⟩
  have := h2 (d' + 1) ⟨v, hd', v2⟩
  omega
theorem m_lst_down {C0 : Nat → Prop} {E : Nat → Nat → Prop} {d : Nat} : ∀ j {u : Nat}, m_lst (fun u d => m_Rc C0 E d u) u (d + j) → ∃ v, m_lst (fun u d => m_Rc C0 E d u) v d
  | 0, u, h => ⟨u, h⟩
  | j + 1, u, h => by
    obtain ⟨v, -, hv⟩ := m_lst_pred (d := d + j) h
    exact m_lst_down j hv
theorem m_runL (hN : N ≤ 64) (hD : D ≤ 5) (hG : G ≤ 3) (hX : m_gr N st X) (hm : m_mk N D met mbs mt kb) (hLb : ∀ u, u < N → m_B core u = true → (∀ l, ¬ m_cLP D X rg mt kb u l) ∨ ∃ l, l < 2048 ∧ m_cLP D X rg mt kb u l) {C0 : Nat → Prop} (hC0 : ∀ u, C0 u → u < N) (hDb : ∀ u d, u < N → m_B core u = true → m_lst (fun u d => m_Rc C0 (m_Eg X) d u) u d → d < 64) : ∀ (e d m : Nat) (ly re : Int64) (len ent pl : Int32) (se fr nx : Nat → Int64), d + e = 64 → e < m → (∀ u, u < 64 → (m_B ly u = true ↔ m_lst (fun u d => m_Rc C0 (m_Eg X) d u) u d)) → (∀ u, u < 64 → (m_B re u = true ↔ ∃ d', d' ≤ d ∧ m_Rc C0 (m_Eg X) d' u)) → m_cb (m_cc3 (fun u d => m_Rc C0 (m_Eg X) d u) (m_cLP D X rg mt kb) (2 ^ G) N (fun u => m_B core u = true) (fun d' _ => d' < d)) len ent pl → (len = 0 ∨ ∃ a, len = nI a ∧ a < 5000) → ∃ len' ent' pl' se' fr' nx', S_run_l1 m_N (nI G) (nI N) st (nI (2 ^ D - 1)) met mbs rg core m ly re (nI d) len ent pl se fr nx = some (len', ent', pl', se', fr', nx') ∧ m_cb (m_cc3 (fun u d => m_Rc C0 (m_Eg X) d u) (m_cLP D X rg mt kb) (2 ^ G) N (fun u => m_B core u = true) (fun _ _ => True)) len' ent' pl' := by
  have hDSN : ∀ d u, m_Rc C0 (m_Eg X) d u → u < N := fun d u h => by
    cases d with
    | zero => exact hC0 u h
    | succ d =>
      obtain ⟨v, -, k, v2⟩ := h
      exact (hX.1 _ _ _ v2).2.2
  intro e
  induction e with
  | zero =>
    intro d m ly re len ent pl se fr nx h hm' hly hre hcb hlen
    obtain ⟨m', rfl⟩ : ∃ m', m = m' + 1 := ⟨m - 1, by omega⟩
    refine ⟨len, ent, pl, se, fr, nx, by simp (disch := omega) only [S_run_l1_s, m_e64, m_le, if_pos], m_cb_iff (fun a b c => ⟨fun ⟨x, d', l, z1, z2, z3, z4⟩ => ⟨x, d', l, z1, z2, trivial, z4⟩, fun ⟨x, d', l, z1, z2, z3, z4, z5⟩ => ⟨x, d', l, z1, z2, ?_, z4, z5⟩⟩) hcb⟩
    have := hDb x d' z1 z2 z4
    omega
  | succ e ih =>
    intro d m ly re len ent pl se fr nx h hm' hly hre hcb hlen
    obtain ⟨m', rfl⟩ : ∃ m', m = m' + 1 := ⟨m - 1, by omega⟩
    have e0 := S_run_l1_s m_N (nI G) (nI N) st (nI (2 ^ D - 1)) met mbs rg core m' ly re (nI d) len ent pl se fr nx
    simp (disch := omega) only [m_e64, m_le, if_neg, nI_1] at e0
    by_cases hz : lg_cmp ly 0 = 0
    · rw [if_pos hz] at e0
      refine ⟨len, ent, pl, se, fr, nx, e0, m_cb_iff (fun a b c => ⟨fun ⟨x, d', l, z1, z2, z3, z4⟩ => ⟨x, d', l, z1, z2, trivial, z4⟩, fun ⟨x, d', l, z1, z2, z3, z4, z5⟩ => ⟨x, d', l, z1, z2, ?_, z4, z5⟩⟩) hcb⟩
      refine Nat.lt_of_not_le fun hle => ?_
      obtain ⟨v, hv⟩ := m_lst_down (d := d) (d' - d) (u := x) (by rw [show d + (d' - d) = d' by omega]; exact z4)
      have hvN := hDSN d v hv.1
      have := (hly v (by omega)).mpr hv
      rw [(m_Lcmp _).mp hz, m_B_0] at this
      cases this
    · rw [if_neg hz] at e0
      by_cases hsh : F_S_isShorter len (nI (d + 1)) = 0
      · rw [if_pos hsh] at e0
        refine ⟨len, ent, pl, se, fr, nx, e0, ?_⟩
        have hl0 : ¬ len = 0 := fun y => by
          simp only [F_S_isShorter, if_pos y] at hsh
          exact absurd hsh (by decide)
        have hle : len ≤ nI (d + 1) := by
          refine Classical.byContradiction fun y => ?_
          simp only [F_S_isShorter, if_neg hl0, if_neg y] at hsh
          exact absurd hsh (by decide)
        rcases hcb with ⟨k1, k2⟩ | ⟨a, b, c, k1, k2, k3, k4, k5⟩
        · exact absurd k1 hl0
        · rcases hlen with y | ⟨a2, y1, y2⟩
          · exact absurd y hl0
          · have hLl : ∀ y l, y < N → m_B core y = true → m_lst (m_cLP D X rg mt kb) y l → l < 2048 := fun y l w1 w2 w5 => by
              rcases hLb y w1 w2 with q | ⟨l3, q1, q2⟩
              · exact absurd w5.1 (q l)
              · have := w5.2 l3 q2
                omega
            have ha5 : a < 5000 := by
              obtain ⟨y, d', l', w1, w2, w3, w4, w5, w6, w7, w8⟩ := id k4
              have := hLl y l' w1 w2 w5
              omega
            have had : a ≤ d + 1 := by
              rw [k1, m_le (by omega) (by omega)] at hle
              exact hle
            refine Or.inr ⟨a, b, c, k1, k2, k3, ?_, fun a' b' c' z => ?_⟩
            · obtain ⟨y, d', l', w1, w2, w3, w4⟩ := id k4
              exact ⟨y, d', l', w1, w2, trivial, w4⟩
            · obtain ⟨x, d', l2, z1, z2, z3, z4, z5, z6, z7, z8⟩ := z
              by_cases hd' : d' < d
              · exact k5 _ _ _ ⟨x, d', l2, z1, z2, hd', z4, z5, z6, z7, z8⟩
              · obtain ⟨y, d2, l', w1, w2, w3, w4, w5, w6, w7, w8⟩ := id k4
                have w3' : d2 < d := w3
                unfold m_lex
                omega
      · rw [if_neg hsh] at e0
        have hlen' : len = 0 ∨ ∃ a, len = nI a ∧ d + 1 ≤ a ∧ a < 5000 := by
          rcases hlen with y | ⟨a, y1, y2⟩
          · exact Or.inl y
          · by_cases hl0 : len = 0
            · exact Or.inl hl0
            · refine Or.inr ⟨a, y1, ?_, y2⟩
              have : ¬ len ≤ nI (d + 1) := fun w => hsh (by simp only [F_S_isShorter, if_neg hl0, if_pos w])
              rw [y1, m_le (by omega) (by omega)] at this
              omega
        obtain ⟨len1, ent1, pl1, se1, fr1, nx1, t1, t2, t3⟩ := m_tryE (DS := fun u d => m_Rc C0 (m_Eg X) d u) hN hD hG hX hm hLb (show d < 64 by omega) (ly &&& core) (fun u hu => by rw [m_B_and, Bool.and_eq_true, hly u (by omega)]) len ent pl se fr nx hcb hlen'
        obtain ⟨x, x1, x2⟩ := m_nextLayer hN hX ly
        rw [t1, Option.bind_some, x1, Option.bind_some] at e0
        have hly' : ∀ u, u < 64 → (m_B (x &&& (re ^^^ -1)) u = true ↔ m_lst (fun u d => m_Rc C0 (m_Eg X) d u) u (d + 1)) := fun u hu => by
          rw [m_B_and, m_B_not _ hu, Bool.and_eq_true, x2 u hu]
          refine ⟨fun ⟨⟨v, v1, v2, v3⟩, z⟩ => ?_, fun z => ?_⟩
          · have hv := (hly v (by omega)).mp v2
            refine ⟨⟨v, hv.1, v3⟩, fun d' hd' => Nat.le_of_not_lt fun y => ?_⟩
            have := (hre u hu).mpr ⟨d', by omega, hd'⟩
            rw [this] at z
            exact absurd z (by decide)
          · obtain ⟨v, v1, v2⟩ := m_lst_pred z
            have hvN := hDSN d v v2.1
            refine ⟨⟨v, hvN, (hly v (by omega)).mpr v2, v1⟩, ?_⟩
            cases hs : m_B re u with
            | false => rfl
            | true =>
              obtain ⟨d', y1, y2⟩ := (hre u hu).mp hs
              have := z.2 d' y2
              omega
        have hre' : ∀ u, u < 64 → (m_B (re ||| (x &&& (re ^^^ -1))) u = true ↔ ∃ d', d' ≤ d + 1 ∧ m_Rc C0 (m_Eg X) d' u) := fun u hu => by
          rw [m_B_or, Bool.or_eq_true, hre u hu, hly' u hu]
          refine ⟨fun z => ?_, fun ⟨d', y1, y2⟩ => ?_⟩
          · rcases z with ⟨d', y1, y2⟩ | z
            · exact ⟨d', by omega, y2⟩
            · exact ⟨d + 1, Nat.le_refl _, z.1⟩
          · by_cases hx : ∃ d', d' ≤ d ∧ m_Rc C0 (m_Eg X) d' u
            · exact Or.inl hx
            · have hd' : d' = d + 1 := by
                refine Classical.byContradiction fun w => hx ⟨d', by omega, y2⟩
              subst hd'
              exact Or.inr ⟨y2, fun d2 hd2 => Nat.le_of_not_lt fun w => hx ⟨d2, by omega, hd2⟩⟩
        obtain ⟨len2, ent2, pl2, se2, fr2, nx2, r1, r2⟩ := ih (d + 1) m' (x &&& (re ^^^ -1)) (re ||| (x &&& (re ^^^ -1))) len1 ent1 pl1 se1 fr1 nx1 (by omega) (by omega) hly' hre' t2 (by
          rcases t3 with t3 | ⟨a, t3, t4, t5⟩
          · exact Or.inl t3
          · exact Or.inr ⟨a, t3, t5⟩)
        exact ⟨len2, ent2, pl2, se2, fr2, nx2, e0.trans r1, r2⟩
theorem m_run (hN : N ≤ 64) (hD : D ≤ 5) (hG : G ≤ 3) (hX : m_gr N st X) (hm : m_mk N D met mbs mt kb) (hLb : ∀ u, u < N → m_B core u = true → (∀ l, ¬ m_cLP D X rg mt kb u l) ∨ ∃ l, l < 2048 ∧ m_cLP D X rg mt kb u l) {C0 : Nat → Prop} (hC0 : ∀ u, C0 u → u < N) (hDb : ∀ u d, u < N → m_B core u = true → m_lst (fun u d => m_Rc C0 (m_Eg X) d u) u d → d < 64) (sa : Int64) (hsa : ∀ u, u < 64 → (m_B sa u = true ↔ C0 u)) (ent pl : Int32) (se fr nx : Nat → Int64) : ∃ len' ent' pl' se' fr' nx', F_S_run m_N (nI G) (nI N) st (nI (2 ^ D - 1)) met mbs rg core ent pl se fr nx sa = some (len', ent', pl', se', fr', nx') ∧ m_cb (m_cc3 (fun u d => m_Rc C0 (m_Eg X) d u) (m_cLP D X rg mt kb) (2 ^ G) N (fun u => m_B core u = true) (fun _ _ => True)) len' ent' pl' := by
  obtain ⟨len2, ent2, pl2, se2, fr2, nx2, r1, r2⟩ := m_runL hN hD hG hX hm hLb hC0 hDb 64 0 m_N sa sa 0 ent pl se fr nx (by omega) (by show _ < 5000; omega) (fun u hu => (hsa u hu).trans ⟨fun z => ⟨z, fun d' _ => Nat.zero_le _⟩, fun z => z.1⟩) (fun u hu => (hsa u hu).trans ⟨fun z => ⟨0, Nat.le_refl _, z⟩, fun ⟨d', z1, z2⟩ => by
    have : d' = 0 := by omega
    subst this
    exact z2⟩) (Or.inl ⟨rfl, fun a b c ⟨_, _, _, _, _, z, _⟩ => absurd z (Nat.not_lt_zero _)⟩) (Or.inl rfl)
  refine ⟨len2, ent2, pl2, se2, fr2, nx2, ?_, r2⟩
  simp only [F_S_run]
  rw [show S_run_l1 m_N (nI G) (nI N) st (nI (2 ^ D - 1)) met mbs rg core m_N sa sa 0 0 ent pl se fr nx = _ from r1]
  rfl
end
