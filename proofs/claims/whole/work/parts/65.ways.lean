/-! the reference's ways -/
def m_cnt (S : Nat → Bool) : Nat → Nat
  | 0 => 0
  | n + 1 => m_cnt S n + (if S n = true then 1 else 0)
theorem m_cnt_le (S : Nat → Bool) : ∀ n, m_cnt S n ≤ n
  | 0 => Nat.le_refl _
  | n + 1 => by
    have := m_cnt_le S n
    simp only [m_cnt]
    by_cases h : S n = true
    · rw [if_pos h]; omega
    · rw [if_neg h]; omega
theorem m_cnt_0 : ∀ n, m_cnt (fun _ => false) n = 0
  | 0 => rfl
  | n + 1 => by
    simp only [m_cnt, m_cnt_0 n]
    rfl
theorem m_cnt_same (S : Nat → Bool) (b : Nat) : ∀ n, n ≤ b → m_cnt (fun j => if j = b then true else S j) n = m_cnt S n
  | 0, _ => rfl
  | n + 1, h => by
    have h9 := m_cnt_same S b n (by omega)
    simp only [m_cnt, h9, show ¬ n = b by omega, if_false]
theorem m_cnt_set (S : Nat → Bool) {b : Nat} (hb : S b = false) : ∀ n, b < n → m_cnt (fun j => if j = b then true else S j) n = m_cnt S n + 1
  | 0, h => by omega
  | n + 1, h => by
    by_cases hn : b = n
    · subst hn
      have h9 := m_cnt_same S b b (Nat.le_refl _)
      simp only [m_cnt, h9, hb, if_true]
      rfl
    · have h9 := m_cnt_set S hb n (by omega)
      simp only [m_cnt, h9, show ¬ n = b by omega, if_false]
      omega
def m_ways (X : Nat → Nat → Nat → Prop) (W : Nat) (f t b : Nat → Int32) : Prop := (∀ i, i < W → ∃ k u v, f i = nI u ∧ t i = nI v ∧ b i = nI k ∧ X k u v) ∧ ∀ k u v, X k u v → ∃ i, i < W ∧ f i = nI u ∧ t i = nI v ∧ b i = nI k
theorem m_ways_iff {X Y : Nat → Nat → Nat → Prop} {W : Nat} {f t b : Nat → Int32} (h : m_ways X W f t b) (hXY : ∀ k u v, X k u v ↔ Y k u v) : m_ways Y W f t b := by
  refine ⟨fun i hi => ?_, fun k u v hY => h.2 k u v ((hXY k u v).mpr hY)⟩
  obtain ⟨k, u, v, h1, h2, h3, h4⟩ := h.1 i hi
  exact ⟨k, u, v, h1, h2, h3, (hXY k u v).mp h4⟩
theorem m_ways_add {X : Nat → Nat → Nat → Prop} {W : Nat} {f t b : Nat → Int32} (h : m_ways X W f t b) (k u v : Nat) : m_ways (fun k' u' v' => X k' u' v' ∨ (k' = k ∧ u' = u ∧ v' = v)) (W + 1) (upd f W (nI u)) (upd t W (nI v)) (upd b W (nI k)) := by
  refine ⟨fun i hi => ?_, fun k' u' v' hX => ?_⟩
  · by_cases hiW : i = W
    · subst hiW
      exact ⟨k, u, v, pk_us, pk_us, pk_us, Or.inr ⟨rfl, rfl, rfl⟩⟩
    · obtain ⟨k', u', v', h1, h2, h3, h4⟩ := h.1 i (by omega)
      exact ⟨k', u', v', by rw [pk_un hiW]; exact h1, by rw [pk_un hiW]; exact h2, by rw [pk_un hiW]; exact h3, Or.inl h4⟩
  · rcases hX with hX | ⟨rfl, rfl, rfl⟩
    · obtain ⟨i, h1, h2, h3, h4⟩ := h.2 k' u' v' hX
      exact ⟨i, by omega, by rw [pk_un (by omega)]; exact h2, by rw [pk_un (by omega)]; exact h3, by rw [pk_un (by omega)]; exact h4⟩
    · exact ⟨W, by omega, pk_us, pk_us, pk_us⟩
section
variable {le : Nat → Nat → Int32} {n : Nat → Nat} {letter sizes lnum many : Nat → Int32} {so : Nat → Int32} {P q : Nat}
theorem m_ways2 (hf : m_fs le n) (hl : m_lays le n letter sizes lnum many) (hq0 : 0 < q) (hq8 : q ≤ 8) (hPq : P * q ≤ 64) {F T k a W0 : Nat} (hF : F < P) (hT : T < P) (ha : a < q) (hW0 : W0 + 8 ≤ 640) (X : Nat → Nat → Nat → Prop) (hdet : ∀ a a' b, a < q → a' < q → b < q → m_ok le n (m_so so (F * q + a)) (m_so so (T * q + b)) → m_ok le n (m_so so (F * q + a')) (m_so so (T * q + b)) → a = a') (s : Nat × (Nat → Int32) × (Nat → Int32) × (Nat → Int32)) (hI : ∃ S, s.1 = W0 + m_cnt S q ∧ (∀ b', S b' = true → ∃ a', a' < a ∧ m_ok le n (m_so so (F * q + a')) (m_so so (T * q + b'))) ∧ m_ways X s.1 s.2.1 s.2.2.1 s.2.2.2) : ∃ s' : Nat × (Nat → Int32) × (Nat → Int32) × (Nat → Int32), M_laysWays_l2 m_N (nI q) letter sizes many so (nI F) (nI a) (nI T) (nI k) m_N 0 (nI s.1) s.2.1 s.2.2.1 s.2.2.2 = some (nI s'.1, s'.2.1, s'.2.2.1, s'.2.2.2) ∧ ∃ S, s'.1 = W0 + m_cnt S q ∧ (∀ b', S b' = true → ∃ a', a' < a + 1 ∧ m_ok le n (m_so so (F * q + a')) (m_so so (T * q + b'))) ∧ m_ways (fun k' u v => X k' u v ∨ (k' = k ∧ u = F * q + a ∧ ∃ b', b' < q ∧ v = T * q + b' ∧ m_ok le n (m_so so u) (m_so so v))) s'.1 s'.2.1 s'.2.2.1 s'.2.2.2 := by
  have huN := m_ndlt hF ha
  obtain ⟨s', h1, S, h2, h3, h4⟩ := m_it (fun m b (s : Nat × (Nat → Int32) × (Nat → Int32) × (Nat → Int32)) => M_laysWays_l2 m_N (nI q) letter sizes many so (nI F) (nI a) (nI T) (nI k) m (nI b) (nI s.1) s.2.1 s.2.2.1 s.2.2.2) (fun s => (nI s.1, s.2.1, s.2.2.1, s.2.2.2)) q (fun b s => ∃ S, s.1 = W0 + m_cnt S q ∧ (∀ b', S b' = true → ∃ a', (a' < a ∨ (a' = a ∧ b' < b)) ∧ m_ok le n (m_so so (F * q + a')) (m_so so (T * q + b'))) ∧ m_ways (fun k' u v => X k' u v ∨ (k' = k ∧ u = F * q + a ∧ ∃ b', b' < b ∧ v = T * q + b' ∧ m_ok le n (m_so so u) (m_so so v))) s.1 s.2.1 s.2.2.1 s.2.2.2)
    (fun m s _ => by simp (disch := omega) only [M_laysWays_l2_s, m_le, if_pos])
    (fun m b s hb hI => by
      obtain ⟨S, i1, i2, i3⟩ := hI
      have hvN := m_ndlt hT hb
      obtain ⟨r, r1, r2, r3⟩ := m_next hf hl (u := F * q + a) (v := T * q + b) (by omega) (by omega) so
      have hcl := m_cnt_le S q
      have e0 : M_laysWays_l2 m_N (nI q) letter sizes many so (nI F) (nI a) (nI T) (nI k) (m + 1) (nI b) (nI s.1) s.2.1 s.2.2.1 s.2.2.2 = ((if r = 0 then (some (nI s.1, s.2.1, s.2.2.1, s.2.2.2)) else (g_chk (g_inb (nI s.1) 640) (g_chk (g_inb (nI s.1) 640) (g_chk (g_inb (nI s.1) 640) (some (nI (s.1 + 1), (upd s.2.1 (nI s.1).toNatClampNeg (nI (F * q + a))), (upd s.2.2.1 (nI s.1).toNatClampNeg (nI (T * q + b))), (upd s.2.2.2 (nI s.1).toNatClampNeg (nI k)))))))).bind fun o20 => (M_laysWays_l2 m_N (nI q) letter sizes many so (nI F) (nI a) (nI T) (nI k) m (nI (b + 1)) o20.1 o20.2.1 o20.2.2.1 o20.2.2.2)) := by
        rw [M_laysWays_l2_s]
        simp (disch := omega) only [m_le, if_neg, pk_mul, nI_add, r1, Option.bind_some, nI_1]
      by_cases hok : m_ok le n (m_so so (F * q + a)) (m_so so (T * q + b))
      · have hr : r = 1 := r3.mpr hok
        subst hr
        have hSb : S b = false := by
          cases hS : S b with
          | false => rfl
          | true =>
            obtain ⟨a', z1, z2⟩ := i2 b hS
            have := hdet a a' b ha (by omega) hb hok z2
            omega
        have hset := m_cnt_set S hSb q hb
        have hcl2 := m_cnt_le (fun j => if j = b then true else S j) q
        rw [if_neg m_n10, m_chk (m_inb (by omega) (by omega)), m_chk (m_inb (by omega) (by omega)), m_chk (m_inb (by omega) (by omega)), nI_clamp (by omega), Option.bind_some] at e0
        refine ⟨(s.1 + 1, upd s.2.1 s.1 (nI (F * q + a)), upd s.2.2.1 s.1 (nI (T * q + b)), upd s.2.2.2 s.1 (nI k)), ⟨fun j => if j = b then true else S j, by show s.1 + 1 = _; omega, fun b' hb' => ?_, ?_⟩, e0⟩
        · by_cases hbb : b' = b
          · subst hbb
            exact ⟨a, Or.inr ⟨rfl, by omega⟩, hok⟩
          · dsimp only at hb'
            rw [if_neg hbb] at hb'
            obtain ⟨a', z1, z2⟩ := i2 b' hb'
            exact ⟨a', by omega, z2⟩
        · refine m_ways_iff (m_ways_add i3 k (F * q + a) (T * q + b)) (fun k' u v => ⟨fun z => ?_, fun z => ?_⟩)
          · rcases z with (z | ⟨z1, z2, b', z3, z4, z5⟩) | ⟨z1, z2, z3⟩
            · exact Or.inl z
            · exact Or.inr ⟨z1, z2, b', by omega, z4, z5⟩
            · exact Or.inr ⟨z1, z2, b, by omega, z3, by rw [z2, z3]; exact hok⟩
          · rcases z with z | ⟨z1, z2, b', z3, z4, z5⟩
            · exact Or.inl (Or.inl z)
            · by_cases hbb : b' = b
              · subst hbb
                exact Or.inr ⟨z1, z2, z4⟩
              · exact Or.inl (Or.inr ⟨z1, z2, b', by omega, z4, z5⟩)
      · have hr : r = 0 := by
          rcases r2 with z | z
          · exact absurd (r3.mp z) hok
          · exact z
        subst hr
        rw [if_pos rfl, Option.bind_some] at e0
        refine ⟨s, ⟨S, i1, fun b' hb' => ?_, m_ways_iff i3 (fun k' u v => ⟨fun z => ?_, fun z => ?_⟩)⟩, e0⟩
        · obtain ⟨a', z1, z2⟩ := i2 b' hb'
          exact ⟨a', by omega, z2⟩
        · rcases z with z | ⟨z1, z2, b', z3, z4, z5⟩
          · exact Or.inl z
          · exact Or.inr ⟨z1, z2, b', by omega, z4, z5⟩
        · rcases z with z | ⟨z1, z2, b', z3, z4, z5⟩
          · exact Or.inl z
          · by_cases hbb : b' = b
            · subst hbb
              rw [z2, z4] at z5
              exact absurd z5 hok
            · exact Or.inr ⟨z1, z2, b', by omega, z4, z5⟩)
    q 0 m_N s (by omega) (by show _ < 5000; omega) (by
      obtain ⟨S, i1, i2, i3⟩ := hI
      refine ⟨S, i1, fun b' hb' => ?_, m_ways_iff i3 (fun k' u v => ⟨fun z => Or.inl z, fun z => ?_⟩)⟩
      · obtain ⟨a', z1, z2⟩ := i2 b' hb'
        exact ⟨a', Or.inl z1, z2⟩
      · rcases z with z | ⟨z1, z2, b', z3, z4, z5⟩
        · exact z
        · omega)
  refine ⟨s', h1, S, h2, fun b' hb' => ?_, h4⟩
  obtain ⟨a', z1, z2⟩ := h3 b' hb'
  exact ⟨a', by omega, z2⟩
theorem m_waysL (hf : m_fs le n) (hl : m_lays le n letter sizes lnum many) (hq0 : 0 < q) (hq8 : q ≤ 8) (hPq : P * q ≤ 64) {F T k W0 : Nat} (hF : F < P) (hT : T < P) (hW0 : W0 + 8 ≤ 640) (X : Nat → Nat → Nat → Prop) (hdet : ∀ a a' b, a < q → a' < q → b < q → m_ok le n (m_so so (F * q + a)) (m_so so (T * q + b)) → m_ok le n (m_so so (F * q + a')) (m_so so (T * q + b)) → a = a') (f t b : Nat → Int32) (hX : m_ways X W0 f t b) : ∃ W' f' t' b', F_M_laysWays m_N (nI q) (nI W0) letter sizes many so f t b (nI F) (nI T) (nI k) = some (nI W', f', t', b') ∧ W' ≤ W0 + 8 ∧ m_ways (fun k' u v => X k' u v ∨ (k' = k ∧ u / q = F ∧ v / q = T ∧ m_ok le n (m_so so u) (m_so so v))) W' f' t' b' := by
  obtain ⟨s', h1, S, h2, h3, h4⟩ := m_it (fun m a (s : Nat × (Nat → Int32) × (Nat → Int32) × (Nat → Int32)) => M_laysWays_l1 m_N (nI q) letter sizes many so (nI F) (nI T) (nI k) m (nI a) (nI s.1) s.2.1 s.2.2.1 s.2.2.2) (fun s => (nI s.1, s.2.1, s.2.2.1, s.2.2.2)) q (fun a s => ∃ S, s.1 = W0 + m_cnt S q ∧ (∀ b', S b' = true → ∃ a', a' < a ∧ m_ok le n (m_so so (F * q + a')) (m_so so (T * q + b'))) ∧ m_ways (fun k' u v => X k' u v ∨ (k' = k ∧ ∃ a' b', a' < a ∧ b' < q ∧ u = F * q + a' ∧ v = T * q + b' ∧ m_ok le n (m_so so u) (m_so so v))) s.1 s.2.1 s.2.2.1 s.2.2.2)
    (fun m s _ => by simp (disch := omega) only [M_laysWays_l1_s, m_le, if_pos])
    (fun m a s ha hI => by
      obtain ⟨s', h1, S, h2, h3, h4⟩ := m_ways2 (k := k) hf hl hq0 hq8 hPq hF hT ha hW0 _ hdet s hI
      refine ⟨s', ⟨S, h2, h3, m_ways_iff h4 (fun k' u v => ⟨fun z => ?_, fun z => ?_⟩)⟩, ?_⟩
      · rcases z with (z | ⟨z1, a', b', z2, z3, z4⟩) | ⟨z1, z2, b', z3, z4, z5⟩
        · exact Or.inl z
        · exact Or.inr ⟨z1, a', b', by omega, z3, z4⟩
        · exact Or.inr ⟨z1, a, b', by omega, z3, z2, z4, z5⟩
      · rcases z with z | ⟨z1, a', b', z2, z3, z4, z5, z6⟩
        · exact Or.inl (Or.inl z)
        · by_cases haa : a' = a
          · subst haa
            exact Or.inr ⟨z1, z4, b', z3, z5, z6⟩
          · exact Or.inl (Or.inr ⟨z1, a', b', by omega, z3, z4, z5, z6⟩)
      · simp (disch := omega) only [M_laysWays_l1_s, m_le, if_neg, nI_1]
        rw [h1, Option.bind_some])
    q 0 m_N (W0, f, t, b) (by omega) (by show _ < 5000; omega) ⟨fun _ => false, by rw [m_cnt_0]; rfl, fun b' hb' => (by cases hb'), m_ways_iff hX (fun k' u v => ⟨fun z => Or.inl z, fun z => by
      rcases z with z | ⟨z1, a', b', z2, _⟩
      · exact z
      · omega⟩)⟩
  have hcl := m_cnt_le S q
  refine ⟨s'.1, s'.2.1, s'.2.2.1, s'.2.2.2, ?_, by omega, m_ways_iff h4 (fun k' u v => ⟨fun z => ?_, fun z => ?_⟩)⟩
  · simp only [F_M_laysWays]
    rw [show M_laysWays_l1 m_N (nI q) letter sizes many so (nI F) (nI T) (nI k) m_N 0 (nI W0) f t b = _ from h1]
    rfl
  · rcases z with z | ⟨z1, a', b', z2, z3, z4, z5, z6⟩
    · exact Or.inl z
    · exact Or.inr ⟨z1, by rw [z4]; exact (m_nd z2).1, by rw [z5]; exact (m_nd z3).1, z6⟩
  · rcases z with z | ⟨z1, z2, z3, z4⟩
    · exact Or.inl z
    · exact Or.inr ⟨z1, u % q, v % q, Nat.mod_lt _ hq0, Nat.mod_lt _ hq0, by rw [← z2]; exact m_nd2 u, by rw [← z3]; exact m_nd2 v, z4⟩
end
/-- guesses that go ahead of a node are told by it -/
theorem m_hdet {le : Nat → Nat → Int32} {n : Nat → Nat} (hf : m_fs le n) {lab so meets : Nat → Int32} {P : Nat} (hN : ∀ u, u < P * 2 ^ m_G le n → m_node le n lab so meets u) {F T : Nat} (hF : F < P) : ∀ a a' b, a < 2 ^ m_G le n → a' < 2 ^ m_G le n → b < 2 ^ m_G le n → m_ok le n (m_so so (F * 2 ^ m_G le n + a)) (m_so so (T * 2 ^ m_G le n + b)) → m_ok le n (m_so so (F * 2 ^ m_G le n + a')) (m_so so (T * 2 ^ m_G le n + b)) → a = a' := by
  intro a a' b ha ha' hb h1 h2
  have n1 := (hN _ (m_ndlt hF ha)).1
  have n2 := (hN _ (m_ndlt hF ha')).1
  refine m_bits_eq ha ha' (fun j hj => ?_)
  obtain ⟨w, p, hw, hp, hl, rfl⟩ := m_sur hj
  have hwf : m_WF (le w) (n w) := by
    rcases (hf.1 w hw).2 with h0 | h0
    · omega
    · exact h0
  have v1 := n1 w hw
  have v2 := n2 w hw
  rw [(m_nd ha).1] at v1
  rw [(m_nd ha').1] at v2
  have h3 := m_det hwf v1 v2 (h1 w hw) (h2 w hw) (n w - p) p (by omega) (by omega)
  have h4 := m_val_lat v1 hp hl
  have h5 := m_val_lat v2 hp hl
  simp only [(m_nd ha).2] at h4
  simp only [(m_nd ha').2] at h5
  rw [← h4, ← h5]
  exact h3
