/-! both sides: the least lasso -/
section
variable {le : Nat → Nat → Int32} {n : Nat → Nat} {P : Nat} {lab : Nat → Int32} {cso wt mw gl : Nat → Int64} {an rso rmt : Nat → Int32} {T : Nat → Nat → Nat → Prop} {tg : Nat → Nat → Int32} {fair : Prop} {D : Nat} {met mbs : Nat → Int32} {st : Nat → Nat → Int64} {rg : Nat → Int64} {core lv : Int64} {H : Nat → Nat → Prop}
theorem m_lk_mk (ht : m_tab P (m_G le n) tg (m_CX P (m_G le n) T wt mw gl an) wt gl an fair st D met mbs rg core lv) : m_mk (P * 2 ^ m_G le n) D met mbs (fun v => (met v).toNatClampNeg) (fun k => (mbs k).toNatClampNeg) := by
  obtain ⟨d1, d2, d3, -⟩ := ht.2.1
  exact ⟨fun v hv => ⟨(m_small d1 (d2 v hv)).1, (m_small d1 (d2 v hv)).2.1⟩, fun k hk => ⟨(m_small d1 (d3 k hk)).1, (m_small d1 (d3 k hk)).2.1⟩⟩
theorem m_lk_ms (hrm : ∀ u, u < P * 2 ^ m_G le n → ∀ i, (m_b (rmt u) i = true ↔ m_MT le n rso H fair u i)) : ∀ v, v < P * 2 ^ m_G le n → rmt v = nI (rmt v).toNatClampNeg ∧ (rmt v).toNatClampNeg < 32 ∧ ∀ i, ((rmt v).toNatClampNeg).testBit i = m_b (rmt v) i := fun v hv => m_small (D := 5) (Nat.le_refl _) (fun i hi => ((hrm v hv i).mp hi).1.1)
theorem m_lk_LP (h : m_lk le n P lab cso wt mw gl an rso) (hT : ∀ k s t, T k s t → k < 3) (hXN : ∀ k u v, m_edge le n rso T k u v → k < 3 ∧ u < P * 2 ^ m_G le n ∧ v < P * 2 ^ m_G le n) (ht : m_tab P (m_G le n) tg (m_CX P (m_G le n) T wt mw gl an) wt gl an fair st D met mbs rg core lv) (hH : fair → ∀ ac, ac < 2 → ∀ s, s < P → (tg ac s = 0 ↔ ¬ H ac s)) (hrm : ∀ u, u < P * 2 ^ m_G le n → ∀ i, (m_b (rmt u) i = true ↔ m_MT le n rso H fair u i)) {u : Nat} (hu : u < P * 2 ^ m_G le n) (hco : m_B core u = true) (l : Nat) : m_cLP D (m_CX P (m_G le n) T wt mw gl an) rg (fun v => (met v).toNatClampNeg) (fun k => (mbs k).toNatClampNeg) u l ↔ m_Rc (fun x => x = 32 * m_pf le n u + (rmt (m_pf le n u)).toNatClampNeg) (m_rs (m_edge le n rso T) (fun v => (rmt v).toNatClampNeg)) (l + 1) (32 * m_pf le n u + 31) := by
  have h64 := m_lk_64 h
  have hmk := m_lk_mk ht
  have hms := m_lk_ms hrm
  obtain ⟨d1, d2, d3, -⟩ := id ht.2.1
  have hruu : m_R (m_CX P (m_G le n) T wt mw gl an) (P * 2 ^ m_G le n) u u := ((ht.2.2.1 u (by omega)).mp hco).1
  have hpf := m_lk_pf h hu
  have hmtb : ∀ w, w < P * 2 ^ m_G le n → ∀ i, ((met w).toNatClampNeg).testBit i = m_b (met w) i := fun w hw => (m_small d1 (d2 w hw)).2.2
  have hkbb : ∀ k, k < 3 → ∀ i, ((mbs k).toNatClampNeg).testBit i = m_b (mbs k) i := fun k hk => (m_small d1 (d3 k hk)).2.2
  unfold m_cLP
  rw [m_cLP_iff ht.1 hmk d1 hu (fun v z1 z2 => (ht.2.2.2.1 u hu hruu v (by have := (m_R_lt ht.1.1 z1).2; omega)).mpr ⟨z1, z2⟩) hruu l]
  refine Iff.trans ?_ (m_rLP_iff (ms := fun v => (rmt v).toNatClampNeg) hXN (fun v hv => (hms v hv).2.1) hpf.1 l).symm
  refine ⟨fun ⟨S, K, h1, h2⟩ => ?_, fun ⟨S, K, h1, h2⟩ => ?_⟩
  · have hSN : ∀ w, S w → w < P * 2 ^ m_G le n := fun w hw => (m_R_lt ht.1.1 (m_pw_S ht.1.1 (l + 1) h1 hw).2).1
    have hK3 : ∀ k, K k → k < 3 := fun k hk => by
      obtain ⟨a, b, z, _⟩ := m_pw_K ht.1.1 (l + 1) h1 hk
      exact z.1
    have hc := (m_cond h ht.2.1 hH S K ⟨u, hu, m_pw_start l h1⟩).mp (fun i hi => by
      rcases h2 i hi with ⟨w, z1, z2⟩ | ⟨k, z1, z2⟩
      · exact Or.inl ⟨w, hSN w z1, z1, by rw [← hmtb w (hSN w z1)]; exact z2⟩
      · exact Or.inr ⟨k, hK3 k z1, z1, by rw [← hkbb k (hK3 k z1)]; exact z2⟩)
    refine ⟨_, K, m_pw_map (f := m_pf le n) (N := P * 2 ^ m_G le n) (fun x hx => ⟨(m_lk_pf h hx).1, (m_lk_pf h hx).2.1⟩) (fun k w v z => (m_lk_X h hT k w v).mp z) (l + 1) h1, fun i hi => ?_⟩
    rcases hc i hi with ⟨v, z1, z2, z3⟩ | ⟨k, z1, z2, z3⟩
    · have q := m_lk_pf h z1
      refine Or.inl ⟨m_pf le n v, ⟨q.1, by rw [q.2.1]; exact z2⟩, ?_⟩
      show ((rmt (m_pf le n v)).toNatClampNeg).testBit i = true
      rw [(hms _ q.1).2.2, hrm _ q.1]
      exact z3
    · exact Or.inr ⟨k, z1, z2, z3⟩
  · have hSN : ∀ w, S w → w < P * 2 ^ m_G le n := fun w hw => (m_R_lt hXN (m_pw_S hXN (l + 1) h1 hw).2).1
    have hK3 : ∀ k, K k → k < 3 := fun k hk => by
      obtain ⟨a, b, z, _⟩ := m_pw_K hXN (l + 1) h1 hk
      exact (hXN _ _ _ z).1
    have h1' := m_pw_map (f := m_pf le n) (N := P * 2 ^ m_G le n) (X := m_edge le n rso T) (Y := m_CX P (m_G le n) T wt mw gl an) (fun x hx => ⟨(m_lk_pf h hx).1, (m_lk_pf h hx).2.1⟩) (fun k w v z => by
      obtain ⟨y1, y2, y3⟩ := hXN k w v z
      refine ⟨y2, y3, (m_lk_X h hT k _ _).mpr ⟨(m_lk_pf h y2).1, (m_lk_pf h y3).1, ?_⟩⟩
      rw [(m_lk_pf h y2).2.1, (m_lk_pf h y3).2.1]
      exact z) (l + 1) h1
    rw [hpf.2.1] at h1'
    have hc := (m_cond h ht.2.1 hH (fun x => x < P * 2 ^ m_G le n ∧ S (m_pf le n x)) K ⟨u, hu, m_pw_start l h1'⟩).mpr (fun i hi => by
      rcases h2 i hi with ⟨w, z1, z2⟩ | z
      · have hw := hSN w z1
        have q := m_lk_pf h hw
        refine Or.inl ⟨m_pf le n w, q.1, ⟨q.1, by rw [q.2.1]; exact z1⟩, ?_⟩
        rw [q.2.1, ← hrm w hw, ← (hms w hw).2.2]
        exact z2
      · exact Or.inr z)
    refine ⟨_, K, h1', fun i hi => ?_⟩
    rcases hc i hi with ⟨v, z1, z2, z3⟩ | ⟨k, z1, z2, z3⟩
    · refine Or.inl ⟨v, z2, ?_⟩
      show ((met v).toNatClampNeg).testBit i = true
      rw [hmtb v z1]
      exact z3
    · refine Or.inr ⟨k, z2, ?_⟩
      show ((mbs k).toNatClampNeg).testBit i = true
      rw [hkbb k z1]
      exact z3
theorem m_lk_coreOf (h : m_lk le n P lab cso wt mw gl an rso) (hT : ∀ k s t, T k s t → k < 3) (hXN : ∀ k u v, m_edge le n rso T k u v → k < 3 ∧ u < P * 2 ^ m_G le n ∧ v < P * 2 ^ m_G le n) (ht : m_tab P (m_G le n) tg (m_CX P (m_G le n) T wt mw gl an) wt gl an fair st D met mbs rg core lv) (hH : fair → ∀ ac, ac < 2 → ∀ s, s < P → (tg ac s = 0 ↔ ¬ H ac s)) (hrm : ∀ u, u < P * 2 ^ m_G le n → ∀ i, (m_b (rmt u) i = true ↔ m_MT le n rso H fair u i)) {u l : Nat} (hu : u < P * 2 ^ m_G le n) (hl : m_Rc (fun x => x = 32 * u + (rmt u).toNatClampNeg) (m_rs (m_edge le n rso T) (fun v => (rmt v).toNatClampNeg)) (l + 1) (32 * u + 31)) : m_B core (m_pf le n u) = true := by
  have h64 := m_lk_64 h
  have hms := m_lk_ms hrm
  have hpf := m_lk_pf h hu
  obtain ⟨S, K, h1, h2⟩ := (m_rLP_iff (ms := fun v => (rmt v).toNatClampNeg) hXN (fun v hv => (hms v hv).2.1) hu l).mp hl
  have hruu := m_pw_R hXN l h1
  have hq := m_lk_core h hT hXN ht.2.1 hH hpf.1
  rw [hpf.2.1] at hq
  refine (ht.2.2.1 _ (by omega)).mpr (hq.mpr ⟨hruu, fun i hi => ?_⟩)
  rcases h2 i hi with ⟨w, z1, z2⟩ | ⟨k, z0, z1, z2⟩
  · obtain ⟨y1, y2⟩ := m_pw_S hXN (l + 1) h1 z1
    have hw := (m_R_lt hXN y2).1
    refine Or.inl ⟨w, hw, ?_, y2, ?_⟩
    · rcases y1 with rfl | y1
      · exact hruu
      · exact y1
    · rw [← hrm w hw, ← (hms w hw).2.2]
      exact z2
  · obtain ⟨a, b, y1, y2, y3⟩ := m_pw_K hXN (l + 1) h1 z1
    have r1 : m_R (m_edge le n rso T) (P * 2 ^ m_G le n) u a := by
      rcases y2 with rfl | y2
      · exact hruu
      · exact y2
    have r4 : m_R (m_edge le n rso T) (P * 2 ^ m_G le n) b u := by
      rcases y3 with rfl | y3
      · exact hruu
      · exact y3
    have rab : m_R (m_edge le n rso T) (P * 2 ^ m_G le n) a b := m_E_R y1
    exact Or.inr ⟨k, a, b, y1, z0, z2, r1, m_R_tr hXN _ _ _ rab r4, m_R_tr hXN _ _ _ r1 rab, r4⟩
/-- the class's starts -/
def m_C0 (P q : Nat) (lv x : Int64) (u : Nat) : Prop := u < P * q ∧ u / q = 0 ∧ m_B lv u = true ∧ m_B x u = false
theorem m_lk_DS (h : m_lk le n P lab cso wt mw gl an rso) (hn0 : 0 < n 0) (hT : ∀ k s t, T k s t → k < 3) (hXN : ∀ k u v, m_edge le n rso T k u v → k < 3 ∧ u < P * 2 ^ m_G le n ∧ v < P * 2 ^ m_G le n) (ht : m_tab P (m_G le n) tg (m_CX P (m_G le n) T wt mw gl an) wt gl an fair st D met mbs rg core lv) : ∀ d u, u < P * 2 ^ m_G le n → m_B lv u = true → (m_Rc (m_C0 P (2 ^ m_G le n) lv (cso 0)) (m_Eg (m_CX P (m_G le n) T wt mw gl an)) d u ↔ m_Rc (m_src rso (2 ^ m_G le n)) (m_Eg (m_edge le n rso T)) d (m_pf le n u)) := by
  have h64 := m_lk_64 h
  have h80 : 0 < 2 ^ m_G le n := (m_p8 h.1.2).1
  have hv : ∀ b, b < P * 2 ^ m_G le n → m_B (cso 0) b = m_b (rso (m_pf le n b)) 0 := fun b hb => by
    have := m_lk_v h hb 0 (by omega) 0 hn0
    simp only [m_cv, m_so, Nat.mul_zero, Nat.zero_add] at this
    exact this
  have hback : ∀ w u, m_Eg (m_CX P (m_G le n) T wt mw gl an) w u → m_B lv u = true → m_B lv w = true := fun w u ⟨k, hk⟩ hu => by
    have hkk := ht.1.1 _ _ _ hk
    obtain ⟨c, c1, c2⟩ := (ht.2.2.2.2 u (by omega)).mp hu
    refine (ht.2.2.2.2 w (by omega)).mpr ⟨c, Or.inr ?_, c2⟩
    have hwu : m_R (m_CX P (m_G le n) T wt mw gl an) (P * 2 ^ m_G le n) w u := m_E_R hk
    rcases c1 with rfl | c1
    · exact hwu
    · exact m_R_tr ht.1.1 _ _ _ hwu c1
  intro d
  induction d with
  | zero =>
    intro u hu hlv
    have q := m_lk_pf h hu
    show m_C0 P (2 ^ m_G le n) lv (cso 0) u ↔ m_src rso (2 ^ m_G le n) (m_pf le n u)
    have hlt : m_pf le n u < 2 ^ m_G le n ↔ u / 2 ^ m_G le n = 0 := by
      rw [← q.2.2]
      refine ⟨fun z => Nat.div_eq_of_lt z, fun z => ?_⟩
      have := Nat.div_add_mod (m_pf le n u) (2 ^ m_G le n)
      rw [z, Nat.mul_zero, Nat.zero_add] at this
      have h9 := Nat.mod_lt (m_pf le n u) h80
      omega
    unfold m_C0 m_src
    rw [hlt, hv u hu]
    exact ⟨fun z => ⟨z.2.1, z.2.2.2⟩, fun z => ⟨hu, z.1, hlv, z.2⟩⟩
  | succ d ih =>
    intro u hu hlv
    have qu := m_lk_pf h hu
    refine ⟨fun ⟨w, w1, w2⟩ => ?_, fun ⟨x, x1, k, x2⟩ => ?_⟩
    · have hlw := hback w u w2 hlv
      obtain ⟨k, w2⟩ := w2
      have hx := (m_lk_X h hT k w u).mp w2
      exact ⟨m_pf le n w, (ih w hx.1 hlw).mp w1, k, hx.2.2⟩
    · have hx := hXN _ _ _ x2
      have q := m_lk_pf h hx.2.1
      have hE : m_Eg (m_CX P (m_G le n) T wt mw gl an) (m_pf le n x) u := ⟨k, (m_lk_X h hT k _ _).mpr ⟨q.1, hu, by rw [q.2.1]; exact x2⟩⟩
      refine ⟨m_pf le n x, (ih _ q.1 (hback _ _ hE hlv)).mpr ?_, hE⟩
      rw [q.2.1]
      exact x1
end
theorem m_lst_iff {A B : Nat → Nat → Prop} {u v : Nat} (h : ∀ d, A u d ↔ B v d) (d : Nat) : m_lst A u d ↔ m_lst B v d := and_congr (h d) (forall_congr' fun d' => by rw [h d'])
theorem m_cb_best {C C' : Nat → Nat → Nat → Prop} (h : ∀ a b c, C a b c ↔ C' a b c) (hb : ∀ a b c, C a b c → 1 ≤ a ∧ a < 2 ^ 31) {len ent pl n k s : Int32} (h1 : m_cb C len ent pl) (h2 : m_best C' n k s) : (len = 0 ∧ n = -9 ∧ k = -9 ∧ s = -9) ∨ (¬ len = 0 ∧ len = n ∧ ent = k ∧ pl = s) := by
  rcases h1 with ⟨a1, a2⟩ | ⟨a, b, c, a1, a2, a3, a4, a5⟩
  · rcases h2 with ⟨b1, b2, b3, b4⟩ | ⟨a, b, c, b1, b2, b3, b4, b5⟩
    · exact Or.inl ⟨a1, b1, b2, b3⟩
    · exact absurd ((h a b c).mpr b4) (a2 a b c)
  · have hb' := hb a b c a4
    obtain ⟨z1, z2, z3⟩ := m_best_eq h (Or.inr ⟨a, b, c, a1, a2, a3, a4, a5⟩) h2
    refine Or.inr ⟨?_, z1, z2, z3⟩
    rw [a1, m_0eq (by omega)]
    omega
theorem mc_breaks {d_label : Nat → Int32} {d_tg : Nat → Nat → Int32} {d_places : Int32} {t_guesses : Int32} {t_nodes : Int32} {t_all : Int64} {t_np0 : Int64} {t_so : Nat → Int64} {t_laters : Int32} {t_waiting : Nat → Int64} {t_meanwhile : Nat → Int64} {t_goal : Nat → Int64} {t_atNext : Nat → Int32} {t_steps : Nat → Nat → Int64} {t_due : Int32} {t_met : Nat → Int32} {t_mbs : Nat → Int32} {t_reach : Nat → Int64} {t_ring : Nat → Int64} {t_core : Int64} {t_live : Int64} {s_length : Int32} {s_entry : Int32} {s_entryPlace : Int32} {s_seen : Nat → Int64} {s_front : Nat → Int64} {s_next : Nat → Int64} {n_states : Int32} {n_moveCount : Int32} {n_stateLabel : Nat → Int32} {n_moveActor : Nat → Int32} {n_moveFrom : Nat → Int32} {n_moveTo : Nat → Int32} {n_csz : Int32} {n_clt : Int32} {n_cle : Nat → Int32} {n_ssz : Nat → Int32} {n_slt : Nat → Int32} {n_sle : Nat → Nat → Int32} {f_laters : Int32} {f_places : Int32} {f_guesses : Int32} {f_ways : Int32} {f_now : Nat → Int32} {f_letter : Nat → Int32} {f_sizes : Nat → Int32} {f_laterNumber : Nat → Int32} {f_many : Nat → Int32} {f_labelAt : Nat → Int32} {f_soAt : Nat → Int32} {f_meets : Nat → Int32} {f_wayFrom : Nat → Int32} {f_wayTo : Nat → Int32} {f_wayBy : Nat → Int32} {f_far : Nat → Int32} {f_round : Nat → Int32} {f_line : Nat → Int32} (hW : m_W n_states n_moveCount n_stateLabel n_moveActor n_moveFrom n_moveTo n_csz n_clt n_cle n_ssz n_slt n_sle f_now) (a1 : Int32) (a2 : Int32) : ∃ oL oM, F_L_breaks m_N d_label d_tg d_places t_guesses t_nodes t_all t_np0 t_so t_laters t_waiting t_meanwhile t_goal t_atNext t_steps t_due t_met t_mbs t_reach t_ring t_core t_live s_length s_entry s_entryPlace s_seen s_front s_next n_states n_moveCount n_stateLabel n_moveActor n_moveFrom n_moveTo n_csz n_clt n_cle a1 a2 = some oL ∧ F_M_breaks m_N f_laters f_places f_guesses f_ways f_now f_letter f_sizes f_laterNumber f_many f_labelAt f_soAt f_meets f_wayFrom f_wayTo f_wayBy f_far f_round f_line a1 a2 = some oM ∧ oL.1 = oM.1 := by
  rcases m_flag a1 with ⟨-, e1, e2⟩ | ⟨e1, e2⟩
  · rcases m_case a2 with ha | ⟨c, hc, rfl⟩
    · have i1 : F_M_in a2 0 2 = 0 := m_in_neg ha
      exact ⟨_, _, by simp only [F_L_breaks, e1, m_n10, if_false, if_pos ha] <;> rfl, by simp only [F_M_breaks, e2, m_n10, if_false, i1, if_true] <;> rfl, rfl⟩
    · have hc0 : ¬ nI c < 0 := nI_pos hc
      by_cases hc2 : c ≤ 2
      · have i1 : F_M_in (nI c) 0 2 = 1 := m_in1 (hi := 2) hc2 (by omega)
        have hc4 : nI c ≤ (2 : Int32) := by
          rw [m_e2, m_le hc (by omega)]
          exact hc2
        obtain ⟨le, n, P, T, H, lab', tg', cso, wt, mw, gl, an, st, D, met, mbs, r, rg, core, lv, letter', sizes', lnum', many', rlab, rso, rmt, W, f', t', b', p1, p2, p3, ⟨p4, p5, p6, p7⟩, hlk, htab, ⟨q1, q2, q3⟩, hT, hXN, hH⟩ := m_both hW a1 d_label d_tg t_so t_waiting t_meanwhile t_goal t_atNext t_steps t_met t_mbs t_reach t_ring f_letter f_sizes f_laterNumber f_many f_labelAt f_soAt f_meets f_wayFrom f_wayTo f_wayBy
        have h64 := m_lk_64 hlk
        subst p4
        by_cases hP0 : P = 0
        · subst hP0
          exact ⟨_, _, by simp only [F_L_breaks, e1, m_n10, if_false, hc0, hc4, if_true, show nI 0 = 0 from rfl] <;> rfl, by simp only [F_M_breaks, e2, m_n10, if_false, i1, p5, show nI 0 = 0 from rfl, if_true, Option.bind_some] <;> rfl, rfl⟩
        · have hz : ¬ nI P = 0 := by
            rw [m_0eq (by omega)]
            exact hP0
          have h8 := m_p8 hlk.1.2
          have h80 : 0 < 2 ^ m_G le n := h8.1
          have hms := m_lk_ms q3
          have hmk := m_lk_mk htab
          have hD5 := htab.2.1.1
          obtain ⟨far, line, u1, u2⟩ := m_findsFar (q := 2 ^ m_G le n) (show 1 ≤ P by omega) rfl h64 q1 hXN q2 rso f_far f_line
          obtain ⟨rn, rk, rs, rd', line', v1, v2, v3⟩ := m_breaksR (G := m_G le n) (P := P) h80 rfl h64 q1 hXN q2 (ms := fun v => (rmt v).toNatClampNeg) (fun v hv => ⟨(hms v hv).1, (hms v hv).2.1⟩) (DS := fun u d => m_Rc (m_src rso (2 ^ m_G le n)) (m_Eg (m_edge le n rso T)) d u) u2 letter' sizes' lnum' many' rlab rso line f_round line
          have hcl : ∀ u, u < P * 2 ^ m_G le n → m_B core u = true → m_B lv u = true := fun u hu hco => (htab.2.2.2.2 u (by omega)).mpr ⟨u, Or.inl rfl, (htab.2.2.1 u (by omega)).mp hco⟩
          have hLP := fun u (hu : u < P * 2 ^ m_G le n) hco l => m_lk_LP (rmt := rmt) hlk hT hXN htab hH q3 hu hco l
          have hDS := fun u (hu : u < P * 2 ^ m_G le n) hco d => m_lk_DS hlk p7 hT hXN htab d u hu (hcl u hu hco)
          have hsa : ∀ u, u < 64 → (m_B ((lv &&& (cso 0 ^^^ -1)) &&& F_T_nodesOf (nI P) (nI (m_G le n)) (F_T_firstNodes (nI (2 ^ m_G le n))) 0) u = true ↔ m_C0 P (2 ^ m_G le n) lv (cso 0) u) := fun u hu => by
            have hnod : m_B (F_T_nodesOf (nI P) (nI (m_G le n)) (F_T_firstNodes (nI (2 ^ m_G le n))) 0) u = decide (u / 2 ^ m_G le n = 0) := m_nodesOf hlk.1.2 hlk.2.1 (q := 0) (by omega) hu
            rw [m_B_and, Bool.and_eq_true, m_wrongB hu, hnod, decide_eq_true_iff]
            unfold m_C0
            refine ⟨fun z => ⟨(m_lt_node h80).mpr (by rw [z.2]; omega), z.2, z.1⟩, fun z => ⟨z.2.2, z.2.1⟩⟩
          obtain ⟨len, ent, pl, se, fr, nx, w1, w2⟩ := m_run (core := core) (rg := rg) h64 hD5 hlk.1.2 htab.1 hmk (fun u hu hco => by
            rcases v3 (m_pf le n u) (m_lk_pf hlk hu).1 with z | ⟨l, z1, z2⟩
            · exact Or.inl fun l y => z l ((hLP u hu hco l).mp y)
            · exact Or.inr ⟨l, z1, (hLP u hu hco l).mpr z2⟩) (C0 := m_C0 P (2 ^ m_G le n) lv (cso 0)) (fun u z => z.1) (fun u d hu hco z => by
            have z' := (m_lst_iff (B := fun u d => m_Rc (m_src rso (2 ^ m_G le n)) (m_Eg (m_edge le n rso T)) d u) (hDS u hu hco) d).mp z
            rcases u2 (m_pf le n u) (m_lk_pf hlk hu).1 with ⟨-, y⟩ | ⟨d', y1, y2, y3, y4⟩
            · exact absurd z'.1 (y d)
            · have := z'.2 d' y3
              omega) _ hsa s_entry s_entryPlace s_seen s_front s_next
          have hC : ∀ a b c, m_cc3 (fun u d => m_Rc (m_C0 P (2 ^ m_G le n) lv (cso 0)) (m_Eg (m_CX P (m_G le n) T wt mw gl an)) d u) (m_cLP D (m_CX P (m_G le n) T wt mw gl an) rg (fun v => (met v).toNatClampNeg) (fun k => (mbs k).toNatClampNeg)) (2 ^ m_G le n) (P * 2 ^ m_G le n) (fun u => m_B core u = true) (fun _ _ => True) a b c ↔ m_cd (fun u d => m_Rc (m_src rso (2 ^ m_G le n)) (m_Eg (m_edge le n rso T)) d u) (fun u l => m_Rc (fun x => x = 32 * u + (rmt u).toNatClampNeg) (m_rs (m_edge le n rso T) (fun v => (rmt v).toNatClampNeg)) (l + 1) (32 * u + 31)) (2 ^ m_G le n) (P * 2 ^ m_G le n) a b c := fun a b c => by
            refine ⟨fun ⟨u, d, l, z1, z2, z3, z4, z5, z6, z7, z8⟩ => ?_, fun ⟨u, d, l, z1, z4, z5, z6, z7, z8⟩ => ?_⟩
            · have q := m_lk_pf hlk z1
              exact ⟨m_pf le n u, d, l, q.1, (m_lst_iff (hDS u z1 z2) d).mp z4, (m_lst_iff (hLP u z1 z2) l).mp z5, z6, z7, by rw [q.2.2]; exact z8⟩
            · have q := m_lk_pf hlk z1
              have hco := m_lk_coreOf hlk hT hXN htab hH q3 z1 z5.1
              have y1 := hDS _ q.1 hco
              have y2 := hLP _ q.1 hco
              rw [q.2.1] at y1 y2
              exact ⟨m_pf le n u, d, l, q.1, hco, trivial, (m_lst_iff y1 d).mpr z4, (m_lst_iff (B := fun u l => m_Rc (fun x => x = 32 * u + (rmt u).toNatClampNeg) (m_rs (m_edge le n rso T) (fun v => (rmt v).toNatClampNeg)) (l + 1) (32 * u + 31)) y2 l).mpr z5, z6, z7, by rw [q.2.2]; exact z8⟩
          have hfin := m_cb_best hC (fun a b c z => by
            obtain ⟨u, d, l, z1, z4, z5, z6, z7, z8⟩ := (hC a b c).mp z
            have hd : d < 64 := by
              rcases u2 u z1 with ⟨-, y⟩ | ⟨d', y1, y2, y3, y4⟩
              · exact absurd z4.1 (y d)
              · have := z4.2 d' y3
                omega
            have hl : l < 2048 := by
              rcases v3 u z1 with y | ⟨l', y1, y2⟩
              · exact absurd z5.1 (y l)
              · have := z5.2 l' y2
                omega
            omega) w2 v2
          have hLb : ∀ x, F_S_run m_N (nI (m_G le n)) (nI (P * 2 ^ m_G le n)) st (nI (2 ^ D - 1)) met mbs rg core s_entry s_entryPlace s_seen s_front s_next x = F_S_run m_N (nI (m_G le n)) (nI (P * 2 ^ m_G le n)) st (nI (2 ^ D - 1)) met mbs rg core s_entry s_entryPlace s_seen s_front s_next x := fun _ => rfl
          clear hLb
          have v1' : M_breaksOf_l1 m_N (nI (m_G le n), nI P, nI (2 ^ m_G le n), nI W, letter', sizes', lnum', many', rlab, rso, rmt, f', t', b') (far, line) m_N (-9) (-9) (-9) 0 f_round line = some (rn, rk, rs, rd', line') := v1
          rcases hfin with ⟨k1, k2, k3, k4⟩ | ⟨k1, k2, k3, k4⟩
          · refine ⟨_, _, by simp only [F_L_breaks, e1, m_n10, if_false, hc0, hc4, if_true, hz, F_L_wrongStarts, p1, p2, Option.bind_some, w1, k1] <;> rfl, by simp only [F_M_breaks, e2, m_n10, if_false, i1, p5, hz, F_M_breaksOf, p3, u1, v1', Option.bind_some] <;> rfl, ?_⟩
            dsimp only
            rw [k2, k3, k4]
            by_cases h0 : nI c = 0
            · rw [if_pos h0]
            · rw [if_neg h0]
              by_cases h1 : nI c = 1
              · rw [if_pos h1]
              · rw [if_neg h1]
          · by_cases h0 : nI c = 0
            · refine ⟨_, _, by simp only [F_L_breaks, e1, m_n10, if_false, hc0, hc4, if_true, hz, F_L_wrongStarts, p1, p2, Option.bind_some, w1, k1, h0] <;> rfl, by simp only [F_M_breaks, e2, m_n10, if_false, i1, p5, hz, F_M_breaksOf, p3, u1, v1', Option.bind_some] <;> rfl, ?_⟩
              dsimp only
              rw [if_pos h0]
              exact k2
            · refine ⟨_, _, by simp only [F_L_breaks, e1, m_n10, if_false, hc0, hc4, if_true, hz, F_L_wrongStarts, p1, p2, Option.bind_some, w1, k1, h0] <;> rfl, by simp only [F_M_breaks, e2, m_n10, if_false, i1, p5, hz, F_M_breaksOf, p3, u1, v1', Option.bind_some] <;> rfl, ?_⟩
              dsimp only
              rw [if_neg h0, k3, k4]
      · have i1 : F_M_in (nI c) 0 2 = 0 := m_in0 (hi := 2) (by omega) hc
        have hc4 : ¬ nI c ≤ (2 : Int32) := by
          rw [m_e2, m_le hc (by omega)]
          exact hc2
        exact ⟨_, _, by simp only [F_L_breaks, e1, m_n10, if_false, hc0, hc4] <;> rfl, by simp only [F_M_breaks, e2, m_n10, if_false, i1, if_true] <;> rfl, rfl⟩
  · exact ⟨_, _, by simp only [F_L_breaks, e1, if_true] <;> rfl, by simp only [F_M_breaks, e2, if_true] <;> rfl, rfl⟩
