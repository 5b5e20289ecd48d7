/-! the reference: how far nodes are -/
section
variable {P q N W : Nat} {X : Nat → Nat → Nat → Prop} {f t b : Nat → Int32} {Src : Nat → Prop}
theorem m_far3 (hN : N ≤ 64) (hW : W ≤ 640) (hXN : ∀ k u v, X k u v → k < 3 ∧ u < N ∧ v < N) (hw : m_ways X W f t b) {i a : Nat} (hi : i < 64) (e : Nat) (far line : Nat → Int32) (hI : ∃ ln S r, m_bf Src (m_Eg X) N i e (fun _ => False) ln S r ∧ m_bfI N e ln S r line far ∧ i < e ∧ ln i = a) : ∃ e' far' line', M_findsFar_l3 (nI W) (nI i) f t m_N (nI e) 0 far line = some (nI e', far', line') ∧ ∃ ln S r, m_bf Src (m_Eg X) N (i + 1) e' (fun _ => False) ln S r ∧ m_bfI N e' ln S r line' far' := by
  obtain ⟨s', h1, ln, S, r, h2, h3, h4, h5⟩ := m_it (fun m w (s : Nat × (Nat → Int32) × (Nat → Int32)) => M_findsFar_l3 (nI W) (nI i) f t m (nI s.1) (nI w) s.2.1 s.2.2) (fun s => (nI s.1, s.2.1, s.2.2)) W (fun w0 s => ∃ ln S r, m_bf Src (m_Eg X) N i s.1 (fun y => ∃ w, w < w0 ∧ f w = nI a ∧ t w = nI y ∧ y < N) ln S r ∧ m_bfI N s.1 ln S r s.2.2 s.2.1 ∧ i < s.1 ∧ ln i = a)
    (fun m s _ => by simp (disch := omega) only [M_findsFar_l3_s, m_le, if_pos])
    (fun m w s hw0 hJ => by
      obtain ⟨ln, S, r, j1, j2, j3, j4⟩ := hJ
      obtain ⟨k, x, y, f1, f2, f3, f4⟩ := hw.1 w hw0
      obtain ⟨n1, n2, n3⟩ := hXN k x y f4
      have ha : a < N := by
        have := (j1.2.1 (ln i) (j1.1 i j3)).1
        rw [j4] at this
        exact this
      have hSa : S a = true := by
        have := j1.1 i j3
        rw [j4] at this
        exact this
      have hfa : s.2.1 a = nI (r a) := by
        rw [j2.2 a ha, if_pos hSa]
      have hra : r a < 64 := by
        have := j1.2.2.2.2.2.2.2.2.1 i j3
        rw [j4] at this
        omega
      have he := m_bf_e j1
      have hli : s.2.2 i = nI a := by
        rw [j2.1 i j3, j4]
      have e0 := M_findsFar_l3_s (nI W) (nI i) f t m (nI s.1) (nI w) s.2.1 s.2.2
      simp (disch := omega) only [m_le, if_neg, m_inb, m_chkT, nI_clamp, nI_1, f1, f2, hli, hfa, m_eq] at e0
      by_cases hxa : x = a
      · rw [if_pos hxa] at e0
        subst hxa
        cases hSy : S y with
        | false =>
          have hroom := m_bf_room j1 n3 hSy
          have hfy : s.2.1 y = -9 := by
            rw [j2.2 y n3, if_neg (by rw [hSy]; decide)]
          rw [if_pos hfy, Option.bind_some] at e0
          have hp := m_bf_push j1 j3 n3 hSy (by rw [j4]; exact ⟨k, f4⟩)
          rw [j4] at hp
          refine ⟨(s.1 + 1, upd s.2.1 y (nI (r x + 1)), upd s.2.2 s.1 (nI y)), ⟨_, _, _, m_bf_dn hp _ (fun z hz => ?_), m_bfI_push j2 y (r x + 1), by show i < s.1 + 1; omega, ?_⟩, e0⟩
          · obtain ⟨w', z1, z2, z3, z4⟩ := hz
            by_cases hww : w' = w
            · subst hww
              refine Or.inl (Or.inr ?_)
              exact (nI_eq (by omega) (by omega)).mp (z3.symm.trans f2)
            · exact Or.inl (Or.inl ⟨w', by omega, z2, z3, z4⟩)
          · show (if i = s.1 then y else ln i) = x
            rw [if_neg (by omega)]
            exact j4
        | true =>
          have hry := m_bf_seen j1 j3 hSy
          have hfy : ¬ s.2.1 y = -9 := by
            rw [j2.2 y n3, if_pos hSy]
            refine m_n9 ?_
            rw [j4] at hry
            omega
          rw [if_neg hfy, Option.bind_some] at e0
          refine ⟨s, ⟨ln, S, r, m_bf_dn j1 _ (fun z hz => ?_), j2, j3, j4⟩, e0⟩
          obtain ⟨w', z1, z2, z3, z4⟩ := hz
          by_cases hww : w' = w
          · subst hww
            have : z = y := (nI_eq (by omega) (by omega)).mp (z3.symm.trans f2)
            subst this
            exact Or.inr ⟨hSy, hry⟩
          · exact Or.inl ⟨w', by omega, z2, z3, z4⟩
      · rw [if_neg hxa, Option.bind_some] at e0
        refine ⟨s, ⟨ln, S, r, m_bf_dn j1 _ (fun z hz => ?_), j2, j3, j4⟩, e0⟩
        obtain ⟨w', z1, z2, z3, z4⟩ := hz
        refine Or.inl ⟨w', ?_, z2, z3, z4⟩
        have : w' ≠ w := fun y' => by
          subst y'
          exact hxa ((nI_eq (by omega) (by omega)).mp (f1.symm.trans z2))
        omega)
    W 0 m_N (e, far, line) (by omega) (by show _ < 5000; omega) (by
      obtain ⟨ln, S, r, j1, j2, j3, j4⟩ := hI
      exact ⟨ln, S, r, m_bf_dn j1 _ (fun z ⟨_, hz, _⟩ => by omega), j2, j3, j4⟩)
  refine ⟨s'.1, s'.2.1, s'.2.2, h1, ln, S, r, m_bf_next h2 h4 (fun y ⟨k, hy⟩ => ?_), h3⟩
  rw [h5] at hy
  obtain ⟨w, w1, w2, w3, w4⟩ := hw.2 k a y hy
  exact ⟨w, w1, w2, w3, (hXN k a y hy).2.2⟩
theorem m_far2 (hN : N ≤ 64) (hW : W ≤ 640) (hXN : ∀ k u v, X k u v → k < 3 ∧ u < N ∧ v < N) (hw : m_ways X W f t b) : ∀ (d i m e : Nat) (far line : Nat → Int32), i + d = N → d < m → (∃ ln S r, m_bf Src (m_Eg X) N i e (fun _ => False) ln S r ∧ m_bfI N e ln S r line far) → ∃ far' line', M_findsFar_l2 m_N (nI W) f t m (nI e) (nI i) far line = some (far', line') ∧ ∃ i' e' ln S r, e' ≤ i' ∧ m_bf Src (m_Eg X) N i' e' (fun _ => False) ln S r ∧ m_bfI N e' ln S r line' far'
  | 0, i, m + 1, e, far, line, h, _, hI => by
    obtain ⟨ln, S, r, j1, j2⟩ := hI
    have he := m_bf_e j1
    exact ⟨far, line, by simp (disch := omega) only [M_findsFar_l2_s, m_le, if_pos], i, e, ln, S, r, by omega, j1, j2⟩
  | d + 1, i, m + 1, e, far, line, h, hm, hI => by
    obtain ⟨ln, S, r, j1, j2⟩ := hI
    have he := m_bf_e j1
    by_cases hie : i < e
    · obtain ⟨e', far', line', a1, a2⟩ := m_far3 (Src := Src) (a := ln i) hN hW hXN hw (show i < 64 by omega) e far line ⟨ln, S, r, j1, j2, hie, rfl⟩
      obtain ⟨far2, line2, b1, b2⟩ := m_far2 hN hW hXN hw d (i + 1) m e' far' line' (by omega) (by omega) a2
      refine ⟨far2, line2, ?_, b2⟩
      simp (disch := omega) only [M_findsFar_l2_s, m_le, if_neg, nI_1]
      rw [a1, Option.bind_some]
      exact b1
    · exact ⟨far, line, by simp (disch := omega) only [M_findsFar_l2_s, m_le, if_pos], i, e, ln, S, r, by omega, j1, j2⟩
def m_src (so : Nat → Int32) (q : Nat) (u : Nat) : Prop := u < q ∧ m_b (so u) 0 = false
theorem m_findsFar (hP : 1 ≤ P) (hNe : P * q = N) (hN : N ≤ 64) (hW : W ≤ 640) (hXN : ∀ k u v, X k u v → k < 3 ∧ u < N ∧ v < N) (hw : m_ways X W f t b) (so far0 line0 : Nat → Int32) : ∃ far line, F_M_findsFar m_N (nI P) (nI q) (nI W) so f t far0 line0 = some (far, line) ∧ ∀ x, x < N → (far x = -9 ∧ ∀ d, ¬ m_Rc (m_src so q) (m_Eg X) d x) ∨ ∃ d, d < N ∧ far x = nI d ∧ m_Rc (m_src so q) (m_Eg X) d x ∧ ∀ d', m_Rc (m_src so q) (m_Eg X) d' x → d ≤ d' := by
  have hqN : q ≤ N := by
    have : 1 * q ≤ P * q := Nat.mul_le_mul_right _ hP
    omega
  obtain ⟨S, hS⟩ : ∃ S : Nat → Bool, S = fun x => decide (x < q) && !m_b (so x) 0 := ⟨_, rfl⟩
  have hSi : ∀ x, S x = true ↔ m_src so q x := fun x => by
    rw [hS]
    show (decide (x < q) && !m_b (so x) 0) = true ↔ _
    rw [Bool.and_eq_true, decide_eq_true_iff]
    unfold m_src
    cases m_b (so x) 0 <;> simp
  obtain ⟨s, a1, a2, a3, a4, a5⟩ := m_it (fun m u (s : Nat × (Nat → Int32) × (Nat → Int32)) => M_findsFar_l1 (nI P) (nI q) so m (nI s.1) (nI u) s.2.1 s.2.2) (fun s => (nI s.1, s.2.1, s.2.2)) N (fun u0 s => s.1 = m_cnt S u0 ∧ (∀ j, j < s.1 → ∃ x, x < u0 ∧ s.2.2 j = nI x ∧ S x = true) ∧ (∀ x, x < u0 → S x = true → ∃ j, j < s.1 ∧ s.2.2 j = nI x) ∧ ∀ x, x < u0 → s.2.1 x = if S x = true then nI 0 else -9)
    (fun m s _ => by simp (disch := omega) only [M_findsFar_l1_s, pk_mul, hNe, m_le, if_pos])
    (fun m u s hu hI => by
      obtain ⟨i1, i2, i3, i4⟩ := hI
      have hcl := m_cnt_le S u
      have hcs : m_cnt S (u + 1) = m_cnt S u + (if S u = true then 1 else 0) := rfl
      have ho : (if q ≤ u then (some (0 : Int32)) else (if F_M_has (so u) 0 = 0 then (some (1 : Int32)) else (some (0 : Int32)))) = some (if S u = true then 1 else 0) := by
        rw [show F_M_has (so u) 0 = _ from m_has (so u) (k := 0) (by omega)]
        by_cases h1 : q ≤ u
        · rw [if_pos h1, if_neg]
          rw [hSi]
          unfold m_src
          omega
        · rw [if_neg h1]
          cases hb : m_b (so u) 0 with
          | true =>
            rw [if_neg (by decide), if_neg]
            rw [hSi]
            unfold m_src
            rw [hb]
            exact fun z => absurd z.2 (by decide)
          | false =>
            rw [if_pos (by decide), if_pos]
            rw [hSi]
            exact ⟨by omega, hb⟩
      have e0 := M_findsFar_l1_s (nI P) (nI q) so m (nI s.1) (nI u) s.2.1 s.2.2
      simp (disch := omega) only [pk_mul, hNe, m_le, if_neg, m_inb, m_chkT, nI_clamp, nI_1] at e0
      rw [ho, Option.bind_some] at e0
      cases hSu : S u with
      | true =>
        rw [hSu, if_pos rfl, if_neg m_n10, Option.bind_some, if_neg m_n10] at e0
        rw [hSu, if_pos rfl] at hcs
        refine ⟨(s.1 + 1, upd s.2.1 u 0, upd s.2.2 s.1 (nI u)), ⟨by show s.1 + 1 = _; omega, fun j hj => ?_, fun x hx hx2 => ?_, fun x hx => ?_⟩, e0⟩
        · by_cases hje : j = s.1
          · subst hje
            exact ⟨u, by omega, pk_us, hSu⟩
          · have hj' : j < s.1 := by
              have : j < s.1 + 1 := hj
              omega
            obtain ⟨x, x1, x2, x3⟩ := i2 j hj'
            exact ⟨x, by omega, by show upd s.2.2 s.1 (nI u) j = _; rw [pk_un hje]; exact x2, x3⟩
        · by_cases hxu : x = u
          · subst hxu
            exact ⟨s.1, by show s.1 < s.1 + 1; omega, pk_us⟩
          · obtain ⟨j, j1, j2⟩ := i3 x (by omega) hx2
            exact ⟨j, by show j < s.1 + 1; omega, by show upd s.2.2 s.1 (nI u) j = _; rw [pk_un (by omega)]; exact j2⟩
        · show upd s.2.1 u 0 x = _
          by_cases hxu : x = u
          · subst hxu
            rw [pk_us, if_pos hSu]
            rfl
          · rw [pk_un hxu]
            exact i4 x (by omega)
      | false =>
        rw [hSu, if_neg (show ¬ (false = true) by decide), if_pos rfl, Option.bind_some, if_pos rfl] at e0
        rw [hSu, if_neg (by decide)] at hcs
        refine ⟨(s.1, upd s.2.1 u (-9), s.2.2), ⟨by show s.1 = _; omega, fun j hj => ?_, fun x hx hx2 => ?_, fun x hx => ?_⟩, e0⟩
        · obtain ⟨x, x1, x2, x3⟩ := i2 j hj
          exact ⟨x, by omega, x2, x3⟩
        · have : x ≠ u := fun y => by subst y; rw [hSu] at hx2; exact absurd hx2 (by decide)
          exact i3 x (by omega) hx2
        · show upd s.2.1 u (-9) x = _
          by_cases hxu : x = u
          · subst hxu
            rw [pk_us, if_neg (by rw [hSu]; decide)]
          · rw [pk_un hxu]
            exact i4 x (by omega))
    N 0 m_N (0, far0, line0) (by omega) (by show _ < 5000; omega) ⟨rfl, fun j hj => absurd hj (Nat.not_lt_zero _), fun x hx => by omega, fun x hx => by omega⟩
  have hlc : ∀ j, j < s.1 → ∃ x, x < N ∧ s.2.2 j = nI x ∧ (s.2.2 j).toNatClampNeg = x ∧ S x = true := fun j hj => by
    obtain ⟨x, x1, x2, x3⟩ := a3 j hj
    exact ⟨x, x1, x2, by rw [x2, nI_clamp (by omega)], x3⟩
  have hbf : m_bf (m_src so q) (m_Eg X) N 0 s.1 (fun _ => False) (fun j => (s.2.2 j).toNatClampNeg) S (fun _ => 0) := by
    refine ⟨fun j hj => ?_, fun x hx => ?_, fun x hx => (hSi x).mp hx, fun _ _ _ _ => Nat.le_refl _, fun _ _ _ => Nat.zero_le _, fun j hj => absurd hj (Nat.not_lt_zero _), fun x hx => ⟨(hSi x).mpr hx, rfl⟩, a2, fun _ _ => Nat.zero_le _, fun _ z => z.elim, Nat.zero_le _⟩
    · obtain ⟨x, x1, x2, x3, x4⟩ := hlc j hj
      show S (s.2.2 j).toNatClampNeg = true
      rw [x3]
      exact x4
    · have hxN : x < N := by
        have := ((hSi x).mp hx).1
        omega
      obtain ⟨j, j1, j2⟩ := a4 x hxN hx
      exact ⟨hxN, j, j1, by show (s.2.2 j).toNatClampNeg = x; rw [j2, nI_clamp (by omega)]⟩
  obtain ⟨far, line, b1, i', e', ln, S', r, b2, b3, b4⟩ := m_far2 hN hW hXN hw N 0 m_N s.1 s.2.1 s.2.2 (by omega) (by show _ < 5000; omega) ⟨_, S, fun _ => 0, hbf, fun j hj => by
    obtain ⟨x, x1, x2, x3, x4⟩ := hlc j hj
    show _ = nI (s.2.2 j).toNatClampNeg
    rw [x3]
    exact x2, fun x hx => a5 x hx⟩
  refine ⟨far, line, ?_, fun x hx => ?_⟩
  · simp only [F_M_findsFar]
    rw [show M_findsFar_l1 (nI P) (nI q) so m_N 0 0 far0 line0 = _ from a1, Option.bind_some, show M_findsFar_l2 m_N (nI W) f t m_N (nI s.1) 0 s.2.1 s.2.2 = _ from b1]
    rfl
  · have hend := m_bf_end b3 b2
    cases hSx : S' x with
    | false =>
      refine Or.inl ⟨by rw [b4.2 x hx, if_neg (by rw [hSx]; decide)], fun d hd => ?_⟩
      have := (hend d x hd).1
      rw [hSx] at this
      cases this
    | true =>
      obtain ⟨-, j, j1, j2⟩ := b3.2.1 x hSx
      have h1 := b3.2.2.2.2.2.2.2.2.1 j j1
      rw [j2] at h1
      have h2 := m_bf_e b3
      exact Or.inr ⟨r x, by omega, by rw [b4.2 x hx, if_pos hSx], b3.2.2.1 x hSx, fun d' hd' => (hend d' x hd').2⟩
end
