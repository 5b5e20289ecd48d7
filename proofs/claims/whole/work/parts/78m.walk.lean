/-! walks: nodes and steps of both sides -/
theorem m_small {x : Int32} {D : Nat} (hD : D ≤ 5) (h : ∀ i, m_b x i = true → i < D) : x = nI x.toNatClampNeg ∧ x.toNatClampNeg < 2 ^ D ∧ ∀ i, (x.toNatClampNeg).testBit i = m_b x i := by
  have h32 := m_pD hD
  have hb : ∀ i, (x.toBitVec.toNat).testBit i = m_b x i := fun i => rfl
  have hm : x.toBitVec.toNat < 2 ^ D := by
    refine Nat.lt_pow_two_of_testBit _ fun i hi => ?_
    rw [hb]
    refine Bool.eq_false_iff.mpr fun z => ?_
    have := h i z
    omega
  have hx : x = nI x.toBitVec.toNat := m_b_ext fun i _ => by rw [m_b_nI i (by omega), hb]
  have hc : x.toNatClampNeg = x.toBitVec.toNat := by
    have := congrArg Int32.toNatClampNeg hx
    rw [nI_clamp (by omega)] at this
    exact this
  rw [hc]
  exact ⟨hx, hm, hb⟩
def m_pw (X : Nat → Nat → Nat → Prop) (u : Nat) : Nat → Nat → (Nat → Prop) → (Nat → Prop) → Prop
  | 0, v, S, K => v = u ∧ (∀ x, ¬ S x) ∧ ∀ k, ¬ K k
  | l + 1, v, S, K => ∃ w k S' K', m_pw X u l w S' K' ∧ X k w v ∧ (∀ x, S x ↔ S' x ∨ x = w) ∧ ∀ y, K y ↔ K' y ∨ y = k
section
variable {X : Nat → Nat → Nat → Prop} {N u : Nat}
theorem m_E_R {k w v : Nat} (h : X k w v) : m_R X N w v := m_Wk_mono (Nat.zero_le _) ⟨k, h⟩
theorem m_pw_R (hXN : ∀ k a b, X k a b → k < 3 ∧ a < N ∧ b < N) : ∀ l {v : Nat} {S K : Nat → Prop}, m_pw X u (l + 1) v S K → m_R X N u v
  | 0, v, S, K, ⟨w, k, S', K', h1, h2, _⟩ => by
    have hw : w = u := h1.1
    subst hw
    exact m_E_R h2
  | l + 1, v, S, K, ⟨w, k, S', K', h1, h2, _⟩ => m_R_tr hXN _ _ _ (m_pw_R hXN l h1) (m_E_R h2)
theorem m_pw_start : ∀ l {v : Nat} {S K : Nat → Prop}, m_pw X u (l + 1) v S K → S u
  | 0, v, S, K, ⟨w, k, S', K', h1, h2, h3, _⟩ => (h3 u).mpr (Or.inr h1.1.symm)
  | l + 1, v, S, K, ⟨w, k, S', K', h1, h2, h3, _⟩ => (h3 u).mpr (Or.inl (m_pw_start l h1))
theorem m_pw_S (hXN : ∀ k a b, X k a b → k < 3 ∧ a < N ∧ b < N) : ∀ l {v x : Nat} {S K : Nat → Prop}, m_pw X u l v S K → S x → (x = u ∨ m_R X N u x) ∧ m_R X N x v
  | 0, v, x, S, K, h, hx => absurd hx (h.2.1 x)
  | l + 1, v, x, S, K, ⟨w, k, S', K', h1, h2, h3, _⟩, hx => by
    rcases (h3 x).mp hx with z | z
    · obtain ⟨z1, z2⟩ := m_pw_S hXN l h1 z
      exact ⟨z1, m_R_tr hXN _ _ _ z2 (m_E_R h2)⟩
    · subst z
      refine ⟨?_, m_E_R h2⟩
      cases l with
      | zero => exact Or.inl h1.1
      | succ l => exact Or.inr (m_pw_R hXN l h1)
theorem m_pw_K (hXN : ∀ k a b, X k a b → k < 3 ∧ a < N ∧ b < N) : ∀ l {v y : Nat} {S K : Nat → Prop}, m_pw X u l v S K → K y → ∃ a b, X y a b ∧ (a = u ∨ m_R X N u a) ∧ (b = v ∨ m_R X N b v)
  | 0, v, y, S, K, h, hy => absurd hy (h.2.2 y)
  | l + 1, v, y, S, K, ⟨w, k, S', K', h1, h2, _, h4⟩, hy => by
    rcases (h4 y).mp hy with z | z
    · obtain ⟨a, b, z1, z2, z3⟩ := m_pw_K hXN l h1 z
      refine ⟨a, b, z1, z2, Or.inr ?_⟩
      rcases z3 with rfl | z3
      · exact m_E_R h2
      · exact m_R_tr hXN _ _ _ z3 (m_E_R h2)
    · subst z
      refine ⟨w, v, h2, ?_, Or.inl rfl⟩
      cases l with
      | zero => exact Or.inl h1.1
      | succ l => exact Or.inr (m_pw_R hXN l h1)
theorem m_pw_map {Y : Nat → Nat → Nat → Prop} {f : Nat → Nat} (hf : ∀ x, x < N → f x < N ∧ f (f x) = x) (hXY : ∀ k w v, X k w v → w < N ∧ v < N ∧ Y k (f w) (f v)) : ∀ l {v : Nat} {S K : Nat → Prop}, m_pw X u l v S K → m_pw Y (f u) l (f v) (fun x => x < N ∧ S (f x)) K
  | 0, v, S, K, h => ⟨congrArg f h.1, fun x hx => h.2.1 _ hx.2, h.2.2⟩
  | l + 1, v, S, K, ⟨w, k, S', K', h1, h2, h3, h4⟩ => by
    obtain ⟨w1, w2, w3⟩ := hXY k w v h2
    refine ⟨f w, k, _, K', m_pw_map hf hXY l h1, w3, fun x => ?_, h4⟩
    refine ⟨fun ⟨z1, z2⟩ => ?_, fun z => ?_⟩
    · rcases (h3 _).mp z2 with y | y
      · exact Or.inl ⟨z1, y⟩
      · exact Or.inr (by rw [← y, (hf x z1).2])
    · rcases z with ⟨z1, z2⟩ | z
      · exact ⟨z1, (h3 _).mpr (Or.inl z2)⟩
      · subst z
        exact ⟨(hf w w1).1, (h3 _).mpr (Or.inr (hf w w1).2)⟩
end
/-! the class's loops -/
section
variable {N D : Nat} {st : Nat → Nat → Int64} {X : Nat → Nat → Nat → Prop} {met mbs : Nat → Int32} {mt kb : Nat → Nat} {u : Nat} {Wn : Nat → Prop}
theorem m_cw1 (hX : m_gr N st X) (hm : m_mk N D met mbs mt kb) (hD : D ≤ 5) (hu : u < N) : ∀ l x, m_Rc (fun x => x = 32 * u) (m_cs X Wn mt kb) l x → ∃ S K, m_pw X u l (x / 32) S K ∧ ∀ i, ((x % 32).testBit i = true ↔ (∃ w, S w ∧ (mt w).testBit i = true) ∨ ∃ k, K k ∧ (kb k).testBit i = true)
  | 0, x, h => by
    have h' : x = 32 * u := h
    subst h'
    refine ⟨fun _ => False, fun _ => False, ⟨by omega, fun _ z => z, fun _ z => z⟩, fun i => ?_⟩
    rw [show 32 * u % 32 = 0 by omega, Nat.zero_testBit]
    refine ⟨fun z => absurd z (by decide), fun z => ?_⟩
    rcases z with ⟨_, z, _⟩ | ⟨_, z, _⟩
    · exact z.elim
    · exact z.elim
  | l + 1, x, ⟨y, h1, k, v, h2, h3, h4⟩ => by
    have h32 := m_pD hD
    obtain ⟨b1, b2⟩ := m_cs_bnd hX hm hD hu l y h1
    obtain ⟨k1, k2, k3⟩ := hX.1 _ _ _ h2
    have hT := m_orD (m_orD b2 (hm.1 _ b1).2) (hm.2 k k1).2
    obtain ⟨S, K, c1, c2⟩ := m_cw1 hX hm hD hu l y h1
    have hx : x / 32 = v ∧ x % 32 = (y % 32 ||| mt (y / 32)) ||| kb k := by
      generalize (y % 32 ||| mt (y / 32)) ||| kb k = T at hT h4 ⊢
      omega
    refine ⟨fun z => S z ∨ z = y / 32, fun z => K z ∨ z = k, ⟨y / 32, k, S, K, c1, by rw [hx.1]; exact h2, fun _ => Iff.rfl, fun _ => Iff.rfl⟩, fun i => ?_⟩
    rw [hx.2, Nat.testBit_or, Nat.testBit_or, Bool.or_eq_true, Bool.or_eq_true, c2 i]
    refine ⟨fun z => ?_, fun z => ?_⟩
    · rcases z with ((⟨w, z1, z2⟩ | ⟨k', z1, z2⟩) | z) | z
      · exact Or.inl ⟨w, Or.inl z1, z2⟩
      · exact Or.inr ⟨k', Or.inl z1, z2⟩
      · exact Or.inl ⟨y / 32, Or.inr rfl, z⟩
      · exact Or.inr ⟨k, Or.inr rfl, z⟩
    · rcases z with ⟨w, z1 | z1, z2⟩ | ⟨k', z1 | z1, z2⟩
      · exact Or.inl (Or.inl (Or.inl ⟨w, z1, z2⟩))
      · subst z1
        exact Or.inl (Or.inr z2)
      · exact Or.inl (Or.inl (Or.inr ⟨k', z1, z2⟩))
      · subst z1
        exact Or.inr z2
theorem m_cw2 (hX : m_gr N st X) (hm : m_mk N D met mbs mt kb) (hD : D ≤ 5) (hWn : ∀ v, m_R X N u v → m_R X N v u → Wn v) : ∀ l v S K, m_pw X u l v S K → m_R X N v u → ∃ M, M < 2 ^ D ∧ m_Rc (fun x => x = 32 * u) (m_cs X Wn mt kb) l (32 * v + M) ∧ ∀ i, (M.testBit i = true ↔ (∃ w, S w ∧ (mt w).testBit i = true) ∨ ∃ k, K k ∧ (kb k).testBit i = true)
  | 0, v, S, K, h, _ => by
    have h32 := m_pD hD
    refine ⟨0, h32.1, by show 32 * v + 0 = 32 * u; rw [h.1]; omega, fun i => ?_⟩
    rw [Nat.zero_testBit]
    refine ⟨fun z => absurd z (by decide), fun z => ?_⟩
    rcases z with ⟨x, z, _⟩ | ⟨k, z, _⟩
    · exact absurd z (h.2.1 x)
    · exact absurd z (h.2.2 k)
  | l + 1, v, S, K, ⟨w, k, S', K', h1, h2, h3, h4⟩, hr => by
    have h32 := m_pD hD
    obtain ⟨k1, k2, k3⟩ := hX.1 _ _ _ h2
    obtain ⟨M, m1, m2, m3⟩ := m_cw2 hX hm hD hWn l w S' K' h1 (m_R_tr hX.1 _ _ _ (m_E_R h2) hr)
    have hruv : m_R X N u v := m_pw_R (S := S) (K := K) hX.1 l ⟨w, k, S', K', h1, h2, h3, h4⟩
    have q1 : (32 * w + M) / 32 = w := by omega
    have q2 : (32 * w + M) % 32 = M := by omega
    refine ⟨(M ||| mt w) ||| kb k, m_orD (m_orD m1 (hm.1 w k2).2) (hm.2 k k1).2, ⟨32 * w + M, m2, k, v, by rw [q1]; exact h2, hWn v hruv hr, by rw [q1, q2]⟩, fun i => ?_⟩
    rw [Nat.testBit_or, Nat.testBit_or, Bool.or_eq_true, Bool.or_eq_true, m3 i]
    refine ⟨fun z => ?_, fun z => ?_⟩
    · rcases z with ((⟨x, z1, z2⟩ | ⟨k', z1, z2⟩) | z) | z
      · exact Or.inl ⟨x, (h3 x).mpr (Or.inl z1), z2⟩
      · exact Or.inr ⟨k', (h4 k').mpr (Or.inl z1), z2⟩
      · exact Or.inl ⟨w, (h3 w).mpr (Or.inr rfl), z⟩
      · exact Or.inr ⟨k, (h4 k).mpr (Or.inr rfl), z⟩
    · rcases z with ⟨x, z1, z2⟩ | ⟨k', z1, z2⟩
      · rcases (h3 x).mp z1 with y | y
        · exact Or.inl (Or.inl (Or.inl ⟨x, y, z2⟩))
        · subst y
          exact Or.inl (Or.inr z2)
      · rcases (h4 k').mp z1 with y | y
        · exact Or.inl (Or.inl (Or.inr ⟨k', y, z2⟩))
        · subst y
          exact Or.inr z2
/-- a loop of the class, as a walk -/
theorem m_cLP_iff (hX : m_gr N st X) (hm : m_mk N D met mbs mt kb) (hD : D ≤ 5) (hu : u < N) (hWn : ∀ v, m_R X N u v → m_R X N v u → Wn v) (hruu : m_R X N u u) (l : Nat) : m_Rc (fun x => x = 32 * u) (m_cs X Wn mt kb) (l + 1) (32 * u + (2 ^ D - 1)) ↔ ∃ S K, m_pw X u (l + 1) u S K ∧ ∀ i, i < D → (∃ w, S w ∧ (mt w).testBit i = true) ∨ ∃ k, K k ∧ (kb k).testBit i = true := by
  have h32 := m_pD hD
  refine ⟨fun h => ?_, fun ⟨S, K, h1, h2⟩ => ?_⟩
  · obtain ⟨S, K, h1, h2⟩ := m_cw1 hX hm hD hu (l + 1) _ h
    rw [show (32 * u + (2 ^ D - 1)) / 32 = u by omega] at h1
    refine ⟨S, K, h1, fun i hi => (h2 i).mp ?_⟩
    rw [show (32 * u + (2 ^ D - 1)) % 32 = 2 ^ D - 1 by omega, Nat.testBit_two_pow_sub_one]
    exact decide_eq_true hi
  · obtain ⟨M, m1, m2, m3⟩ := m_cw2 hX hm hD hWn (l + 1) u S K h1 hruu
    have hM : M = 2 ^ D - 1 := by
      apply Nat.eq_of_testBit_eq
      intro i
      rw [Nat.testBit_two_pow_sub_one]
      by_cases hi : i < D
      · rw [decide_eq_true hi]
        exact (m3 i).mpr (h2 i hi)
      · rw [decide_eq_false hi]
        exact Nat.testBit_lt_two_pow (Nat.lt_of_lt_of_le m1 (Nat.pow_le_pow_right (by omega) (by omega)))
    rw [← hM]
    exact m2
end
/-! the reference's loops -/
section
variable {N : Nat} {X : Nat → Nat → Nat → Prop} {ms : Nat → Nat} {u : Nat}
theorem m_rw1 (hXN : ∀ k a b, X k a b → k < 3 ∧ a < N ∧ b < N) (hms : ∀ v, v < N → ms v < 32) (hu : u < N) : ∀ l x, m_Rc (fun x => x = 32 * u + ms u) (m_rs X ms) l x → x / 32 < N ∧ ∃ S K, m_pw X u l (x / 32) S K ∧ ∀ i, ((x % 32).testBit i = true ↔ (∃ w, (S w ∨ w = x / 32) ∧ (ms w).testBit i = true) ∨ ∃ k, K k ∧ (m_kr k).testBit i = true)
  | 0, x, h => by
    have h' : x = 32 * u + ms u := h
    have hmu := hms u hu
    have hx : x / 32 = u ∧ x % 32 = ms u := by omega
    rw [hx.1, hx.2]
    refine ⟨hu, fun _ => False, fun _ => False, ⟨rfl, fun _ z => z, fun _ z => z⟩, fun i => ?_⟩
    refine ⟨fun z => Or.inl ⟨u, Or.inr rfl, z⟩, fun z => ?_⟩
    rcases z with ⟨w, z | z, z2⟩ | ⟨_, z, _⟩
    · exact z.elim
    · subst z
      exact z2
    · exact z.elim
  | l + 1, x, ⟨y, h1, k, v, h2, h4⟩ => by
    obtain ⟨b1, S, K, c1, c2⟩ := m_rw1 hXN hms hu l y h1
    obtain ⟨k1, k2, k3⟩ := hXN _ _ _ h2
    have hT := m_or32 (m_or32 (Nat.mod_lt y (by omega : 0 < 32)) (hms v k3)) (m_kr_lt k)
    have hx : x / 32 = v ∧ x % 32 = (y % 32 ||| ms v) ||| m_kr k := by
      generalize (y % 32 ||| ms v) ||| m_kr k = T at hT h4 ⊢
      omega
    rw [hx.1, hx.2]
    refine ⟨k3, fun z => S z ∨ z = y / 32, fun z => K z ∨ z = k, ⟨y / 32, k, S, K, c1, h2, fun _ => Iff.rfl, fun _ => Iff.rfl⟩, fun i => ?_⟩
    rw [Nat.testBit_or, Nat.testBit_or, Bool.or_eq_true, Bool.or_eq_true, c2 i]
    refine ⟨fun z => ?_, fun z => ?_⟩
    · rcases z with ((⟨w, z1, z2⟩ | ⟨k', z1, z2⟩) | z) | z
      · exact Or.inl ⟨w, Or.inl z1, z2⟩
      · exact Or.inr ⟨k', Or.inl z1, z2⟩
      · exact Or.inl ⟨v, Or.inr rfl, z⟩
      · exact Or.inr ⟨k, Or.inr rfl, z⟩
    · rcases z with ⟨w, z1 | z1, z2⟩ | ⟨k', z1 | z1, z2⟩
      · exact Or.inl (Or.inl (Or.inl ⟨w, z1, z2⟩))
      · subst z1
        exact Or.inl (Or.inr z2)
      · exact Or.inl (Or.inl (Or.inr ⟨k', z1, z2⟩))
      · subst z1
        exact Or.inr z2
theorem m_rw2 (hXN : ∀ k a b, X k a b → k < 3 ∧ a < N ∧ b < N) (hms : ∀ v, v < N → ms v < 32) (hu : u < N) : ∀ l v S K, m_pw X u l v S K → ∃ M, M < 32 ∧ m_Rc (fun x => x = 32 * u + ms u) (m_rs X ms) l (32 * v + M) ∧ ∀ i, (M.testBit i = true ↔ (∃ w, (S w ∨ w = v) ∧ (ms w).testBit i = true) ∨ ∃ k, K k ∧ (m_kr k).testBit i = true)
  | 0, v, S, K, h => by
    have hv : v = u := h.1
    subst hv
    refine ⟨ms v, hms v hu, rfl, fun i => ⟨fun z => Or.inl ⟨v, Or.inr rfl, z⟩, fun z => ?_⟩⟩
    rcases z with ⟨w, z | z, z2⟩ | ⟨k, z, _⟩
    · exact absurd z (h.2.1 w)
    · subst z
      exact z2
    · exact absurd z (h.2.2 k)
  | l + 1, v, S, K, ⟨w, k, S', K', h1, h2, h3, h4⟩ => by
    obtain ⟨k1, k2, k3⟩ := hXN _ _ _ h2
    obtain ⟨M, m1, m2, m3⟩ := m_rw2 hXN hms hu l w S' K' h1
    have q1 : (32 * w + M) / 32 = w := by omega
    have q2 : (32 * w + M) % 32 = M := by omega
    refine ⟨(M ||| ms v) ||| m_kr k, m_or32 (m_or32 m1 (hms v k3)) (m_kr_lt k), ⟨32 * w + M, m2, k, v, by rw [q1]; exact h2, by rw [q2]⟩, fun i => ?_⟩
    rw [Nat.testBit_or, Nat.testBit_or, Bool.or_eq_true, Bool.or_eq_true, m3 i]
    refine ⟨fun z => ?_, fun z => ?_⟩
    · rcases z with ((⟨x, z1, z2⟩ | ⟨k', z1, z2⟩) | z) | z
      · exact Or.inl ⟨x, Or.inl ((h3 x).mpr z1), z2⟩
      · exact Or.inr ⟨k', (h4 k').mpr (Or.inl z1), z2⟩
      · exact Or.inl ⟨v, Or.inr rfl, z⟩
      · exact Or.inr ⟨k, (h4 k).mpr (Or.inr rfl), z⟩
    · rcases z with ⟨x, z1 | z1, z2⟩ | ⟨k', z1, z2⟩
      · exact Or.inl (Or.inl (Or.inl ⟨x, (h3 x).mp z1, z2⟩))
      · subst z1
        exact Or.inl (Or.inr z2)
      · rcases (h4 k').mp z1 with y | y
        · exact Or.inl (Or.inl (Or.inr ⟨k', y, z2⟩))
        · subst y
          exact Or.inr z2
theorem m_krb (k i : Nat) : (m_kr k).testBit i = true ↔ k < 2 ∧ i = k + 3 := by
  unfold m_kr
  by_cases h : k < 2
  · rw [if_pos h, show 8 * 2 ^ k = 2 ^ (k + 3) by rw [Nat.pow_add]; omega, Nat.testBit_two_pow]
    exact ⟨fun z => ⟨h, (of_decide_eq_true z).symm⟩, fun z => decide_eq_true z.2.symm⟩
  · rw [if_neg h, Nat.zero_testBit]
    exact ⟨fun z => absurd z (by decide), fun z => absurd z.1 h⟩
/-- a loop of the reference, as a walk -/
theorem m_rLP_iff (hXN : ∀ k a b, X k a b → k < 3 ∧ a < N ∧ b < N) (hms : ∀ v, v < N → ms v < 32) (hu : u < N) (l : Nat) : m_Rc (fun x => x = 32 * u + ms u) (m_rs X ms) (l + 1) (32 * u + 31) ↔ ∃ S K, m_pw X u (l + 1) u S K ∧ ∀ i, i < 5 → (∃ w, S w ∧ (ms w).testBit i = true) ∨ ∃ k, k < 2 ∧ K k ∧ i = k + 3 := by
  refine ⟨fun h => ?_, fun ⟨S, K, h1, h2⟩ => ?_⟩
  · obtain ⟨-, S, K, h1, h2⟩ := m_rw1 hXN hms hu (l + 1) _ h
    rw [show (32 * u + 31) / 32 = u by omega] at h1 h2
    refine ⟨S, K, h1, fun i hi => ?_⟩
    have hb : ((32 * u + 31) % 32).testBit i = true := by
      rw [show (32 * u + 31) % 32 = 2 ^ 5 - 1 by omega, Nat.testBit_two_pow_sub_one]
      exact decide_eq_true hi
    rcases (h2 i).mp hb with ⟨w, z1 | z1, z2⟩ | ⟨k, z1, z2⟩
    · exact Or.inl ⟨w, z1, z2⟩
    · subst z1
      exact Or.inl ⟨w, m_pw_start l h1, z2⟩
    · obtain ⟨y1, y2⟩ := (m_krb k i).mp z2
      exact Or.inr ⟨k, y1, z1, y2⟩
  · obtain ⟨M, m1, m2, m3⟩ := m_rw2 hXN hms hu (l + 1) u S K h1
    have hM : M = 31 := by
      show M = 2 ^ 5 - 1
      apply Nat.eq_of_testBit_eq
      intro i
      rw [Nat.testBit_two_pow_sub_one]
      by_cases hi : i < 5
      · rw [decide_eq_true hi]
        refine (m3 i).mpr ?_
        rcases h2 i hi with ⟨w, z1, z2⟩ | ⟨k, z0, z1, z2⟩
        · exact Or.inl ⟨w, Or.inl z1, z2⟩
        · exact Or.inr ⟨k, z1, (m_krb k i).mpr ⟨z0, z2⟩⟩
      · rw [decide_eq_false hi]
        exact Nat.testBit_lt_two_pow (Nat.lt_of_lt_of_le (show M < 2 ^ 5 from m1) (Nat.pow_le_pow_right (by omega) (by omega)))
    rw [← hM]
    exact m2
end
