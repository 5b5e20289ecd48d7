/-! the reference: the fewest steps round -/
theorem m_elR {ρ α σ : Type} (inj : ρ → σ) (z : α) (k : α → Option σ) : g_el inj (some (.inr z)) k = k z := rfl
theorem m_elL {ρ α σ : Type} (inj : ρ → σ) (z : ρ) (k : α → Option σ) : g_el inj (some (.inl z)) k = some (inj z) := rfl
def m_kr (k : Nat) : Nat := if k < 2 then 8 * 2 ^ k else 0
theorem m_kr_lt (k : Nat) : m_kr k < 32 := by
  unfold m_kr
  by_cases h : k < 2
  · rw [if_pos h]
    rcases (show k = 0 ∨ k = 1 by omega) with rfl | rfl <;> decide
  · rw [if_neg h]
    decide
theorem m_or32 {a b : Nat} (ha : a < 32) (hb : b < 32) : a ||| b < 32 := Nat.or_lt_two_pow (n := 5) ha hb
theorem m_nI_or {a b : Nat} (ha : a < 32) (hb : b < 32) : nI a ||| nI b = nI (a ||| b) := by
  have := m_or32 ha hb
  refine m_b_ext fun i _ => ?_
  rw [m_b_or, m_b_nI i (by omega), m_b_nI i (by omega), m_b_nI i (by omega), Nat.testBit_or]
/-- a step of one that goes round: the node, what is met -/
def m_rs (X : Nat → Nat → Nat → Prop) (ms : Nat → Nat) (x y : Nat) : Prop := ∃ k v, X k (x / 32) v ∧ y = 32 * v + ((x % 32 ||| ms v) ||| m_kr k)
section
variable {N W : Nat} {X : Nat → Nat → Nat → Prop} {f t b mt : Nat → Int32} {ms : Nat → Nat} {Src : Nat → Prop}
def m_rdn (X : Nat → Nat → Nat → Prop) (ms : Nat → Nat) (f t b : Nat → Int32) (a w0 y : Nat) : Prop := ∃ w k v, w < w0 ∧ f w = nI (a / 32) ∧ t w = nI v ∧ b w = nI k ∧ X k (a / 32) v ∧ y = 32 * v + ((a % 32 ||| ms v) ||| m_kr k)
theorem m_round3 (hN : N ≤ 64) (hW : W ≤ 640) (hXN : ∀ k u v, X k u v → k < 3 ∧ u < N ∧ v < N) (hw : m_ways X W f t b) (hms : ∀ v, v < N → mt v = nI (ms v) ∧ ms v < 32) {u i a ρ : Nat} (hu : u < N) (hi : i < 2048) (e : Nat) (rd line : Nat → Int32) (hI : ∃ ln S r, m_bf Src (m_rs X ms) 2048 i e (fun _ => False) ln S r ∧ m_bfI 2048 e ln S r line rd ∧ i < e ∧ ln i = a ∧ r a = ρ) : (∃ e' rd' line', M_roundOf_l3 (nI W) (nI i) f t b (nI u) mt m_N (nI e) 0 rd line = some (.inr (nI e', rd', line')) ∧ (¬ m_rs X ms a (32 * u + 31)) ∧ ∃ ln S r, m_bf Src (m_rs X ms) 2048 (i + 1) e' (fun _ => False) ln S r ∧ m_bfI 2048 e' ln S r line' rd' ∧ i < e' ∧ (∀ ln0 S0 r0, m_bf Src (m_rs X ms) 2048 i e (fun _ => False) ln0 S0 r0 → m_bfI 2048 e ln0 S0 r0 line rd → ∀ j, j ≤ i → ln j = ln0 j)) ∨ ∃ rd' line', M_roundOf_l3 (nI W) (nI i) f t b (nI u) mt m_N (nI e) 0 rd line = some (.inl (nI (ρ + 1), rd', line')) ∧ m_rs X ms a (32 * u + 31) := by
  obtain ⟨lnA, SA, rA, hA1, hA2, hA3, hA4, hA5⟩ := hI
  have heA := m_bf_e hA1
  have hlater : ∀ ln0 S0 r0, m_bf Src (m_rs X ms) 2048 i e (fun _ => False) ln0 S0 r0 → m_bfI 2048 e ln0 S0 r0 line rd → ∀ j, j ≤ i → lnA j = ln0 j := fun ln0 S0 r0 q1 q2 j hj => by
    have z1 := (hA1.2.1 _ (hA1.1 j (by omega))).1
    have z2 := (q1.2.1 _ (q1.1 j (by omega))).1
    exact (nI_eq (by omega) (by omega)).mp ((hA2.1 j (by omega)).symm.trans (q2.1 j (by omega)))
  rcases m_itE (fun m w (s : Nat × (Nat → Int32) × (Nat → Int32)) => M_roundOf_l3 (nI W) (nI i) f t b (nI u) mt m (nI s.1) (nI w) s.2.1 s.2.2) (fun s => (nI s.1, s.2.1, s.2.2)) W (fun w0 s => ∃ ln S r, m_bf Src (m_rs X ms) 2048 i s.1 (m_rdn X ms f t b a w0) ln S r ∧ m_bfI 2048 s.1 ln S r s.2.2 s.2.1 ∧ i < s.1 ∧ ln i = a ∧ r a = ρ ∧ ¬ m_rdn X ms f t b a w0 (32 * u + 31) ∧ ∀ j, j ≤ i → ln j = lnA j) (fun x => x.1 = nI (ρ + 1) ∧ m_rs X ms a (32 * u + 31))
    (fun m s _ => by simp (disch := omega) only [M_roundOf_l3_s, m_le, if_pos])
    (fun m w s hw0 hJ => by
      obtain ⟨ln, S, r, j1, j2, j3, j4, j5, j6, j7⟩ := hJ
      obtain ⟨k, x, v, f1, f2, f3, f4⟩ := hw.1 w hw0
      obtain ⟨n1, n2, n3⟩ := hXN k x v f4
      obtain ⟨m1, m2⟩ := hms v n3
      have ha : a < 2048 := by
        have := (j1.2.1 (ln i) (j1.1 i j3)).1
        rw [j4] at this
        exact this
      have hSa : S a = true := by
        have := j1.1 i j3
        rw [j4] at this
        exact this
      have hfa : s.2.1 a = nI ρ := by
        rw [j2.2 a ha, if_pos hSa, j5]
      have hra : ρ < 2048 := by
        have := j1.2.2.2.2.2.2.2.2.1 i j3
        rw [j4, j5] at this
        omega
      have he := m_bf_e j1
      have hli : s.2.2 i = nI a := by
        rw [j2.1 i j3, j4]
      have hdv : nI a / (32 : Int32) = nI (a / 32) := pk_div (d := 32) (by omega) (by omega) (by omega)
      have hrm : g_irem (nI a) (32 : Int32) = nI (a % 32) := pk_rem (d := 32) (by omega) (by omega) (by omega)
      have hkr : (if (2 : Int32) ≤ nI k then (some (0 : Int32)) else (some (g_ishl (8 : Int32) (nI k)))) = some (nI (m_kr k)) := by
        rcases (show k = 0 ∨ k = 1 ∨ k = 2 by omega) with rfl | rfl | rfl <;> decide
      have hk32 := m_kr_lt k
      have ham : a % 32 < 32 := Nat.mod_lt _ (by omega)
      have hadiv : a / 32 < 64 := by omega
      obtain ⟨M, hM, hM32, hMI⟩ : ∃ M, M = (a % 32 ||| ms v) ||| m_kr k ∧ M < 32 ∧ (nI (a % 32) ||| nI (ms v)) ||| nI (m_kr k) = nI M := ⟨_, rfl, m_or32 (m_or32 ham m2) hk32, by rw [m_nI_or ham m2, m_nI_or (m_or32 ham m2) hk32]⟩
      have e0 := M_roundOf_l3_s (nI W) (nI i) f t b (nI u) mt m (nI s.1) (nI w) s.2.1 s.2.2
      simp (disch := omega) only [m_le, if_neg, m_inb, m_chkT, nI_clamp, nI_1, f1, f2, f3, hli, hdv, hrm, m1] at e0
      have hkr' : (if 2 ≤ k then (some (0 : Int32)) else (some (g_ishl (8 : Int32) (nI k)))) = some (nI (m_kr k)) := by
        rcases (show k = 0 ∨ k = 1 ∨ k = 2 by omega) with rfl | rfl | rfl <;> decide
      have hix : (32 : Int32) * nI v + nI M = nI (32 * v + M) := by
        rw [m_e32, pk_mul, nI_add]
      by_cases hxa : x = a / 32
      · subst hxa
        rw [if_pos rfl, hkr, Option.bind_some] at e0
        simp (disch := omega) only [hMI, hix, m_inb, m_chkT, nI_clamp, hfa, nI_1, m_eq, m_e31] at e0
        have hsc : m_rs X ms a (32 * v + M) := ⟨k, v, f4, by rw [hM]⟩
        by_cases htg : v = u ∧ M = 31
        · rw [if_pos htg.1, if_pos htg.2] at e0
          refine Or.inr ⟨_, ⟨rfl, ?_⟩, e0⟩
          rw [← htg.1, ← htg.2]
          exact hsc
        · refine Or.inl ?_
          have hne : ¬ 32 * v + M = 32 * u + 31 := fun z => htg (by omega)
          have hdn : ∀ z, m_rdn X ms f t b a (w + 1) z → m_rdn X ms f t b a w z ∨ z = 32 * v + M := fun z hz => by
            obtain ⟨w', k', v', z1, z2, z3, z4, z5, z6⟩ := hz
            by_cases hww : w' = w
            · subst hww
              obtain ⟨y1, y2, y3⟩ := hXN _ _ _ z5
              have q1 : v' = v := (nI_eq (by omega) (by omega)).mp (z3.symm.trans f2)
              have q2 : k' = k := (nI_eq (by omega) (by omega)).mp (z4.symm.trans f3)
              subst q1 q2
              exact Or.inr (by rw [z6, hM])
            · exact Or.inl ⟨w', k', v', by omega, z2, z3, z4, z5, z6⟩
          have hnt : ¬ m_rdn X ms f t b a (w + 1) (32 * u + 31) := fun z => by
            rcases hdn _ z with y | y
            · exact j6 y
            · exact hne y.symm
          have e1 : M_roundOf_l3 (nI W) (nI i) f t b (nI u) mt (m + 1) (nI s.1) (nI w) s.2.1 s.2.2 = ((if s.2.1 (32 * v + M) = (-9 : Int32) then (g_chk (g_inb (nI s.1) 2048) (some (nI (s.1 + 1), upd s.2.1 (32 * v + M) (nI (ρ + 1)), upd s.2.2 s.1 (nI (32 * v + M))))) else (some (nI s.1, s.2.1, s.2.2))).bind fun o => (M_roundOf_l3 (nI W) (nI i) f t b (nI u) mt m o.1 (nI (w + 1)) o.2.1 o.2.2)) := by
            by_cases hvu : v = u
            · rw [if_pos hvu, if_neg (fun z => htg ⟨hvu, z⟩)] at e0
              exact e0
            · rw [if_neg hvu] at e0
              exact e0
          cases hSy : S (32 * v + M) with
          | false =>
            have hy : 32 * v + M < 2048 := by omega
            have hroom := m_bf_room j1 hy hSy
            have hfy : s.2.1 (32 * v + M) = -9 := by
              rw [j2.2 _ hy, if_neg (by rw [hSy]; decide)]
            rw [if_pos hfy, m_chk (m_inb (by omega) (by omega)), Option.bind_some] at e1
            have hp := m_bf_push j1 j3 hy hSy (by rw [j4]; exact hsc)
            rw [j4, j5] at hp
            refine ⟨(s.1 + 1, upd s.2.1 (32 * v + M) (nI (ρ + 1)), upd s.2.2 s.1 (nI (32 * v + M))), ⟨_, _, _, m_bf_dn hp _ (fun z hz => Or.inl (hdn z hz)), m_bfI_push j2 (32 * v + M) (ρ + 1), by show i < s.1 + 1; omega, ?_, ?_, hnt, fun j hj => ?_⟩, e1⟩
            · show (if i = s.1 then 32 * v + M else ln i) = a
              rw [if_neg (by omega)]
              exact j4
            · show (if a = 32 * v + M then ρ + 1 else r a) = ρ
              rw [if_neg (fun z => by rw [← z, hSa] at hSy; cases hSy)]
              exact j5
            · show (if j = s.1 then 32 * v + M else ln j) = lnA j
              rw [if_neg (by omega)]
              exact j7 j hj
          | true =>
            have hy : 32 * v + M < 2048 := by omega
            have hry := m_bf_seen j1 j3 hSy
            have hfy : ¬ s.2.1 (32 * v + M) = -9 := by
              rw [j2.2 _ hy, if_pos hSy]
              refine m_n9 ?_
              rw [j4, j5] at hry
              omega
            rw [if_neg hfy, Option.bind_some] at e1
            refine ⟨s, ⟨ln, S, r, m_bf_dn j1 _ (fun z hz => ?_), j2, j3, j4, j5, hnt, j7⟩, e1⟩
            rcases hdn z hz with y | y
            · exact Or.inl y
            · subst y
              exact Or.inr ⟨hSy, hry⟩
      · have hne : ¬ nI x = nI (a / 32) := by
          rw [m_eq (by omega) (by omega)]
          exact hxa
        have hdn : ∀ z, m_rdn X ms f t b a (w + 1) z → m_rdn X ms f t b a w z := fun z hz => by
          obtain ⟨w', k', v', z1, z2, z3⟩ := hz
          refine ⟨w', k', v', ?_, z2, z3⟩
          have : w' ≠ w := fun y => by
            subst y
            exact hne (f1.symm.trans z2)
          omega
        rw [if_neg hne] at e0
        exact Or.inl ⟨s, ⟨ln, S, r, m_bf_dn j1 _ (fun z hz => Or.inl (hdn z hz)), j2, j3, j4, j5, fun z => j6 (hdn _ z), j7⟩, e0⟩)
    W 0 m_N (e, rd, line) (by omega) (by show _ < 5000; omega) ⟨lnA, SA, rA, m_bf_dn hA1 _ (fun z ⟨_, _, _, hz, _⟩ => by omega), hA2, hA3, hA4, hA5, fun ⟨_, _, _, hz, _⟩ => by omega, fun _ _ => rfl⟩ with ⟨s', h1, ln, S, r, h2, h3, h4, h5, h6, h7, h8⟩ | ⟨x, ⟨h1, h2⟩, h3⟩
  · refine Or.inl ⟨s'.1, s'.2.1, s'.2.2, h1, fun ⟨k, v, z1, z2⟩ => h7 ?_, ln, S, r, m_bf_next h2 h4 (fun y ⟨k, v, hy1, hy2⟩ => ?_), h3, h4, fun ln0 S0 r0 q1 q2 j hj => (h8 j hj).trans (hlater ln0 S0 r0 q1 q2 j hj)⟩
    · obtain ⟨w, w1, w2, w3, w4⟩ := hw.2 _ _ _ z1
      exact ⟨w, k, v, w1, w2, w3, w4, z1, z2⟩
    · rw [h5] at hy1 hy2
      obtain ⟨w, w1, w2, w3, w4⟩ := hw.2 _ _ _ hy1
      exact ⟨w, k, v, w1, w2, w3, w4, hy1, hy2⟩
  · refine Or.inr ⟨x.2.1, x.2.2, ?_, h2⟩
    rw [← h1]
    exact h3
theorem m_round2 (hN : N ≤ 64) (hW : W ≤ 640) (hXN : ∀ k u v, X k u v → k < 3 ∧ u < N ∧ v < N) (hw : m_ways X W f t b) (hms : ∀ v, v < N → mt v = nI (ms v) ∧ ms v < 32) {u : Nat} (hu : u < N) : ∀ (d i m e : Nat) (rd line : Nat → Int32), i + d = 2048 → d < m → (∃ ln S r, m_bf Src (m_rs X ms) 2048 i e (fun _ => False) ln S r ∧ m_bfI 2048 e ln S r line rd ∧ ∀ j, j < i → ¬ m_rs X ms (ln j) (32 * u + 31)) → (∃ o, M_roundOf_l2 m_N (nI W) f t b (nI u) mt m (nI e) (nI i) rd line = some (.inr o) ∧ ∀ l x, m_Rc Src (m_rs X ms) l x → ¬ m_rs X ms x (32 * u + 31)) ∨ ∃ l o, M_roundOf_l2 m_N (nI W) f t b (nI u) mt m (nI e) (nI i) rd line = some (.inl (nI (l + 1), o)) ∧ l < 2048 ∧ m_Rc Src (m_rs X ms) (l + 1) (32 * u + 31) ∧ ∀ l', m_Rc Src (m_rs X ms) (l' + 1) (32 * u + 31) → l ≤ l' := by
  intro d
  induction d with
  | zero =>
    intro i m e rd line h hm hI
    obtain ⟨ln, S, r, j1, j2, j3⟩ := hI
    have he := m_bf_e j1
    obtain ⟨m', rfl⟩ : ∃ m', m = m' + 1 := ⟨m - 1, by omega⟩
    refine Or.inl ⟨_, by simp (disch := omega) only [M_roundOf_l2_s, m_le, if_pos] <;> rfl, fun l x hx hs => ?_⟩
    obtain ⟨z1, -⟩ := m_bf_end j1 (by omega) l x hx
    obtain ⟨-, j, y1, y2⟩ := j1.2.1 x z1
    exact j3 j (by omega) (by rw [y2]; exact hs)
  | succ d ih =>
    intro i m e rd line h hm hI
    obtain ⟨ln, S, r, j1, j2, j3⟩ := hI
    have he := m_bf_e j1
    obtain ⟨m', rfl⟩ : ∃ m', m = m' + 1 := ⟨m - 1, by omega⟩
    by_cases hie : i < e
    · have e0 : M_roundOf_l2 m_N (nI W) f t b (nI u) mt (m' + 1) (nI e) (nI i) rd line = g_el (fun a => .inl a) (M_roundOf_l3 (nI W) (nI i) f t b (nI u) mt m_N (nI e) 0 rd line) (fun o18 => (M_roundOf_l2 m_N (nI W) f t b (nI u) mt m' o18.1 (nI (i + 1)) o18.2.1 o18.2.2)) := by
        simp (disch := omega) only [M_roundOf_l2_s, m_le, if_neg, nI_1]
      rcases m_round3 (Src := Src) (a := ln i) (ρ := r (ln i)) hN hW hXN hw hms hu (show i < 2048 by omega) e rd line ⟨ln, S, r, j1, j2, hie, rfl, rfl⟩ with ⟨e', rd', line', a1, a2, ln', S', r', a3, a4, a5, a6⟩ | ⟨rd', line', a1, a2⟩
      · rw [a1, m_elR] at e0
        have hsame := a6 ln S r j1 j2
        have := ih (i + 1) m' e' rd' line' (by omega) (by omega) ⟨ln', S', r', a3, a4, fun j hj => by
          rw [hsame j (by omega)]
          by_cases hji : j = i
          · rw [hji]
            exact a2
          · exact j3 j (by omega)⟩
        rw [e0]
        exact this
      · rw [a1, m_elL] at e0
        refine Or.inr ⟨r (ln i), _, e0, ?_, ⟨ln i, j1.2.2.1 _ (j1.1 i hie), a2⟩, fun l' ⟨x, hx, hs⟩ => ?_⟩
        · have := j1.2.2.2.2.2.2.2.2.1 i hie
          omega
        · refine Nat.le_of_not_lt fun hlt => ?_
          obtain ⟨z1, z2⟩ := m_bf_le j1 hie l' x hx (by omega)
          obtain ⟨-, j, y1, y2⟩ := j1.2.1 x z1
          have hji : j < i := by
            refine Nat.lt_of_not_le fun z => ?_
            have := j1.2.2.2.1 i j z y1
            rw [y2] at this
            omega
          exact j3 j hji (by rw [y2]; exact hs)
    · refine Or.inl ⟨_, by simp (disch := omega) only [M_roundOf_l2_s, m_le, if_pos] <;> rfl, fun l x hx hs => ?_⟩
      obtain ⟨z1, -⟩ := m_bf_end j1 (by omega) l x hx
      obtain ⟨-, j, y1, y2⟩ := j1.2.1 x z1
      exact j3 j (by omega) (by rw [y2]; exact hs)
theorem m_roundOf (hN : N ≤ 64) (hW : W ≤ 640) (hXN : ∀ k u v, X k u v → k < 3 ∧ u < N ∧ v < N) (hw : m_ways X W f t b) (hms : ∀ v, v < N → mt v = nI (ms v) ∧ ms v < 32) {u : Nat} (hu : u < N) (rd0 line0 : Nat → Int32) : ∃ o rd line, F_M_roundOf m_N (nI W) mt f t b rd0 line0 (nI u) = some (o, rd, line) ∧ ((o = -9 ∧ ∀ l, ¬ m_Rc (fun x => x = 32 * u + ms u) (m_rs X ms) (l + 1) (32 * u + 31)) ∨ ∃ l, l < 2048 ∧ o = nI (l + 1) ∧ m_Rc (fun x => x = 32 * u + ms u) (m_rs X ms) (l + 1) (32 * u + 31) ∧ ∀ l', m_Rc (fun x => x = 32 * u + ms u) (m_rs X ms) (l' + 1) (32 * u + 31) → l ≤ l') := by
  obtain ⟨m1, m2⟩ := hms u hu
  obtain ⟨rd1, a1, a2⟩ := m_it (fun m k rd => M_roundOf_l1 m (nI k) rd) id 2048 (fun k0 rd => ∀ k, k < k0 → rd k = -9)
    (fun m rd _ => by simp (disch := omega) only [M_roundOf_l1_s, m_e2048, m_le, if_pos, id])
    (fun m k rd hk hI => by
      refine ⟨upd rd k (-9), fun j hj => ?_, by simp (disch := omega) only [M_roundOf_l1_s, m_e2048, m_le, if_neg, m_inb, m_chkT, nI_clamp, nI_1]⟩
      by_cases hjk : j = k
      · subst hjk
        exact pk_us
      · rw [pk_un hjk]
        exact hI j (by omega))
    2048 0 m_N rd0 (by omega) (by show _ < 5000; omega) (fun k hk => by omega)
  have hbf : m_bf (fun x => x = 32 * u + ms u) (m_rs X ms) 2048 0 1 (fun _ => False) (fun j => if j = 0 then 32 * u + ms u else 0) (fun x => if x = 32 * u + ms u then true else false) (fun _ => 0) := by
    refine ⟨fun j hj => ?_, fun x hx => ?_, fun x hx => ?_, fun _ _ _ _ => Nat.le_refl _, fun _ _ _ => Nat.zero_le _, fun j hj => absurd hj (Nat.not_lt_zero _), fun x hx => ⟨if_pos hx, rfl⟩, ?_, fun _ _ => Nat.zero_le _, fun _ z => z.elim, Nat.zero_le _⟩
    · have : j = 0 := by omega
      subst this
      show (if (if (0 : Nat) = 0 then 32 * u + ms u else 0) = 32 * u + ms u then true else false) = true
      rw [if_pos rfl, if_pos rfl]
    · have hxe : x = 32 * u + ms u := by
        refine Classical.byContradiction fun z => ?_
        have : (if x = 32 * u + ms u then true else false) = true := hx
        rw [if_neg z] at this
        cases this
      exact ⟨by omega, 0, by omega, by show (if (0 : Nat) = 0 then 32 * u + ms u else 0) = x; rw [if_pos rfl, hxe]⟩
    · show x = 32 * u + ms u
      refine Classical.byContradiction fun z => ?_
      have : (if x = 32 * u + ms u then true else false) = true := hx
      rw [if_neg z] at this
      cases this
    · have := m_cnt_set (fun _ => false) (b := 32 * u + ms u) rfl 2048 (by omega)
      rw [m_cnt_0] at this
      exact this.symm
  have hbI : m_bfI 2048 1 (fun j => if j = 0 then 32 * u + ms u else 0) (fun x => if x = 32 * u + ms u then true else false) (fun _ => 0) (upd line0 0 (nI (32 * u + ms u))) (upd rd1 (32 * u + ms u) 0) := by
    refine ⟨fun j hj => ?_, fun x hx => ?_⟩
    · have : j = 0 := by omega
      subst this
      rw [pk_us]
      show _ = nI (if (0 : Nat) = 0 then 32 * u + ms u else 0)
      rw [if_pos rfl]
    · show upd rd1 (32 * u + ms u) 0 x = if (if x = 32 * u + ms u then true else false) = true then nI 0 else -9
      by_cases he : x = 32 * u + ms u
      · subst he
        rw [pk_us, if_pos rfl, if_pos rfl]
        rfl
      · rw [pk_un he, if_neg he, if_neg (by decide)]
        exact a2 x hx
  have hix : (32 : Int32) * nI u + nI (ms u) = nI (32 * u + ms u) := by
    rw [m_e32, pk_mul, nI_add]
  have e0 : F_M_roundOf m_N (nI W) mt f t b rd0 line0 (nI u) = g_el (fun a => a) (M_roundOf_l2 m_N (nI W) f t b (nI u) mt m_N (nI 1) (nI 0) (upd rd1 (32 * u + ms u) 0) (upd line0 0 (nI (32 * u + ms u)))) (fun o12 => (some ((-9 : Int32), o12.1, o12.2))) := by
    simp only [F_M_roundOf]
    rw [show M_roundOf_l1 m_N 0 rd0 = _ from a1, Option.bind_some]
    simp (disch := omega) only [m_inb, m_chkT, nI_clamp, m1, hix, pk_us]
    rfl
  rcases m_round2 hN hW hXN hw hms hu 2048 0 m_N 1 _ _ (by omega) (by show _ < 5000; omega) ⟨_, _, _, hbf, hbI, fun j hj => absurd hj (Nat.not_lt_zero _)⟩ with ⟨o, b1, b2⟩ | ⟨l, o, b1, b2, b3, b4⟩
  · rw [b1, m_elR] at e0
    exact ⟨-9, _, _, e0, Or.inl ⟨rfl, fun l ⟨x, hx, hs⟩ => b2 l x hx hs⟩⟩
  · rw [b1, m_elL] at e0
    exact ⟨nI (l + 1), o.1, o.2, e0, Or.inr ⟨l, b2, rfl, b3, b4⟩⟩
end
