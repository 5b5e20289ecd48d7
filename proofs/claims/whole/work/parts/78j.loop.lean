/-! the class: the shortest loop through a node -/
theorem m_pD {D : Nat} (h : D ≤ 5) : 0 < 2 ^ D ∧ 2 ^ D ≤ 32 := ⟨Nat.pow_pos (by omega), Nat.pow_le_pow_right (n := 2) (by omega) h⟩
theorem m_orD {D a b : Nat} (ha : a < 2 ^ D) (hb : b < 2 ^ D) : a ||| b < 2 ^ D := Nat.or_lt_two_pow ha hb
theorem m_nI_mask {D a b : Nat} (hD : D ≤ 5) (ha : a < 2 ^ D) (hb : b < 2 ^ D) : (nI a ||| nI b) &&& nI (2 ^ D - 1) = nI (a ||| b) := by
  have h32 := m_pD hD
  have hor := m_orD ha hb
  rw [m_nI_or (by omega) (by omega)]
  refine m_b_ext fun i _ => ?_
  rw [m_b_and, m_dueBit hD, m_b_nI i (by omega)]
  by_cases hi : i < D
  · rw [decide_eq_true hi, Bool.and_true]
  · rw [decide_eq_false hi, Bool.and_false]
    exact (Nat.testBit_lt_two_pow (Nat.lt_of_lt_of_le hor (Nat.pow_le_pow_right (by omega) (by omega)))).symm
/-- what nodes and steps meet, as numbers -/
def m_mk (N D : Nat) (met mbs : Nat → Int32) (mt kb : Nat → Nat) : Prop := (∀ v, v < N → met v = nI (mt v) ∧ mt v < 2 ^ D) ∧ ∀ k, k < 3 → mbs k = nI (kb k) ∧ kb k < 2 ^ D
section
variable {N D : Nat} {st : Nat → Nat → Int64} {X : Nat → Nat → Nat → Prop} {met mbs : Nat → Int32} {mt kb : Nat → Nat}
theorem m_leave (hN : N ≤ 64) (hD : D ≤ 5) (hX : m_gr N st X) (hm : m_mk N D met mbs mt kb) (wi : Int64) {v m0 : Nat} (hv : v < N) (hm0 : m0 < 2 ^ D) (nx : Nat → Int64) : ∃ nx', F_S_leave m_N st mbs nx (nI v) (nI m0) wi (nI (2 ^ D - 1)) = some nx' ∧ ∀ M, M < 2 ^ D → ∀ b, b < 64 → (m_B (nx' M) b = true ↔ m_B (nx M) b = true ∨ ∃ k, k < 3 ∧ M = m0 ||| kb k ∧ X k v b ∧ m_B wi b = true) := by
  have h32 := m_pD hD
  obtain ⟨nx', h1, h2⟩ := m_it (fun m k nx => S_leave_l1 (nI m0) mbs (nI (2 ^ D - 1)) (nI v) st wi m (nI k) nx) id 3 (fun k0 nx2 => ∀ M, M < 2 ^ D → ∀ b, b < 64 → (m_B (nx2 M) b = true ↔ m_B (nx M) b = true ∨ ∃ k, k < k0 ∧ M = m0 ||| kb k ∧ X k v b ∧ m_B wi b = true))
    (fun m nx _ => by simp (disch := omega) only [S_leave_l1_s, m_e3, m_le, if_pos, id])
    (fun m k nx2 hk hI => by
      obtain ⟨k1, k2⟩ := hm.2 k hk
      have hor := m_orD hm0 k2
      have hmask := m_nI_mask hD hm0 k2
      refine ⟨vp_updL nx2 (m0 ||| kb k) (nx2 (m0 ||| kb k) ||| (st k v &&& wi)), fun M hM b hb => ?_, ?_⟩
      · have hst := hX.2 k hk v hv b hb
        by_cases he : M = m0 ||| kb k
        · subst he
          rw [pk_uLs, m_B_or, Bool.or_eq_true, hI _ hM b hb, m_B_and, Bool.and_eq_true, hst, or_assoc]
          refine or_congr Iff.rfl ⟨fun z => ?_, fun ⟨k', z1, z2, z3⟩ => ?_⟩
          · rcases z with ⟨k', z1, z2⟩ | z
            · exact ⟨k', by omega, z2⟩
            · exact ⟨k, by omega, rfl, z⟩
          · by_cases hkk : k' = k
            · subst hkk
              exact Or.inr z3
            · exact Or.inl ⟨k', by omega, z2, z3⟩
        · rw [pk_uLn he, hI M hM b hb]
          refine or_congr Iff.rfl ⟨fun ⟨k', z1, z2⟩ => ⟨k', by omega, z2⟩, fun ⟨k', z1, z2, z3⟩ => ⟨k', ?_, z2, z3⟩⟩
          have : k' ≠ k := fun y => by subst y; exact he z2
          omega
      · simp (disch := omega) only [S_leave_l1_s, m_e3, m_le, if_neg, m_inb, m_chkT, nI_clamp, nI_1, k1, hmask])
    3 0 m_N nx (by omega) (by show _ < 5000; omega) (fun M hM b hb => ⟨fun z => Or.inl z, fun z => by
      rcases z with z | ⟨_, z, _⟩
      · exact z
      · omega⟩)
  refine ⟨nx', ?_, h2⟩
  simp only [F_S_leave]
  rw [show S_leave_l1 (nI m0) mbs (nI (2 ^ D - 1)) (nI v) st wi m_N 0 nx = _ from h1]
  rfl
theorem m_goStep (hN : N ≤ 64) (hD : D ≤ 5) (hX : m_gr N st X) (hm : m_mk N D met mbs mt kb) (wi : Int64) (fr nx : Nat → Int64) : ∃ nx', F_S_goOneStep m_N (nI N) st met mbs fr nx wi (nI (2 ^ D - 1)) = some nx' ∧ ∀ M, M < 2 ^ D → ∀ b, b < 64 → (m_B (nx' M) b = true ↔ ∃ M' v k, M' < 2 ^ D ∧ v < N ∧ m_B (fr M') v = true ∧ k < 3 ∧ M = (M' ||| mt v) ||| kb k ∧ X k v b ∧ m_B wi b = true) := by
  have h32 := m_pD hD
  obtain ⟨nx0, a1, a2⟩ := m_it (fun m M nx => S_goOneStep_l1 (nI (2 ^ D - 1)) m (nI M) nx) id (2 ^ D) (fun M0 nx => ∀ M, M < M0 → nx M = 0)
    (fun m nx _ => by simp (disch := omega) only [S_goOneStep_l1_s, m_lt, if_pos, id])
    (fun m M nx hM hI => by
      refine ⟨vp_updL nx M 0, fun j hj => ?_, by simp (disch := omega) only [S_goOneStep_l1_s, m_lt, if_neg, m_inb, m_chkT, nI_clamp, nI_1]⟩
      by_cases hjM : j = M
      · subst hjM
        exact pk_uLs
      · rw [pk_uLn hjM]
        exact hI j (by omega))
    (2 ^ D) 0 m_N nx (by omega) (by show _ < 5000; omega) (fun M hM => by omega)
  obtain ⟨nx2, b1, b2⟩ := m_it (fun m M nx => S_goOneStep_l2 m_N (nI (2 ^ D - 1)) fr (nI N) st mbs met wi m (nI M) nx) id (2 ^ D) (fun M0 nx => ∀ M, M < 2 ^ D → ∀ b, b < 64 → (m_B (nx M) b = true ↔ ∃ M' v k, M' < M0 ∧ v < N ∧ m_B (fr M') v = true ∧ k < 3 ∧ M = (M' ||| mt v) ||| kb k ∧ X k v b ∧ m_B wi b = true))
    (fun m nx _ => by simp (disch := omega) only [S_goOneStep_l2_s, m_lt, if_pos, id])
    (fun m M1 nx hM1 hI => by
      have e0 : S_goOneStep_l2 m_N (nI (2 ^ D - 1)) fr (nI N) st mbs met wi (m + 1) (nI M1) nx = ((S_goOneStep_l3 m_N fr (nI M1) (nI N) st mbs met wi (nI (2 ^ D - 1)) m_N (nI 0) nx).bind fun o13 => (S_goOneStep_l2 m_N (nI (2 ^ D - 1)) fr (nI N) st mbs met wi m (nI (M1 + 1)) o13)) := by
        simp (disch := omega) only [S_goOneStep_l2_s, m_lt, if_neg, m_inb, m_chkT, nI_1]
        rfl
      have hl3 : ∃ nx', S_goOneStep_l3 m_N fr (nI M1) (nI N) st mbs met wi (nI (2 ^ D - 1)) m_N (nI 0) nx = some nx' ∧ ∀ M, M < 2 ^ D → ∀ b, b < 64 → (m_B (nx' M) b = true ↔ m_B (nx M) b = true ∨ ∃ v k, v < N ∧ m_B (fr M1) v = true ∧ k < 3 ∧ M = (M1 ||| mt v) ||| kb k ∧ X k v b ∧ m_B wi b = true) := by
        by_cases hz : fr M1 = 0
        · refine ⟨nx, ?_, fun M hM b hb => ⟨fun z => Or.inl z, fun z => ?_⟩⟩
          · have z1 := S_goOneStep_l3_s m_N fr (nI M1) (nI N) st mbs met wi (nI (2 ^ D - 1)) 4999 (nI 0) nx
            rw [nI_clamp (by omega), if_pos ((m_Lcmp _).mpr hz)] at z1
            exact z1
          · rcases z with z | ⟨v, k, z1, z2, _⟩
            · exact z
            · rw [hz, m_B_0] at z2
              cases z2
        · have hz' : ¬ lg_cmp (fr M1) 0 = 0 := fun z => hz ((m_Lcmp _).mp z)
          obtain ⟨nx', c1, c2⟩ := m_it (fun m v nx => S_goOneStep_l3 m_N fr (nI M1) (nI N) st mbs met wi (nI (2 ^ D - 1)) m (nI v) nx) id N (fun v0 nx' => ∀ M, M < 2 ^ D → ∀ b, b < 64 → (m_B (nx' M) b = true ↔ m_B (nx M) b = true ∨ ∃ v k, v < v0 ∧ m_B (fr M1) v = true ∧ k < 3 ∧ M = (M1 ||| mt v) ||| kb k ∧ X k v b ∧ m_B wi b = true))
            (fun m nx _ => by simp (disch := omega) only [S_goOneStep_l3_s, nI_clamp, hz', if_false, m_le, if_pos, id])
            (fun m v nx' hv hJ => by
              obtain ⟨v1, v2⟩ := hm.1 v hv
              have hor := m_orD hM1 v2
              have horI : nI M1 ||| nI (mt v) = nI (M1 ||| mt v) := m_nI_or (by omega) (by omega)
              obtain ⟨nx'', d1, d2⟩ := m_leave hN hD hX hm wi hv hor nx'
              have e1 := S_goOneStep_l3_s m_N fr (nI M1) (nI N) st mbs met wi (nI (2 ^ D - 1)) m (nI v) nx'
              simp (disch := omega) only [nI_clamp, hz', if_false, m_e64, m_le, if_neg, m_inb, m_chkT, nI_1, m_Thas, m_i0, v1, horI] at e1
              cases hb : m_B (fr M1) v with
              | true =>
                rw [hb, if_neg (by decide), d1, Option.bind_some, Option.bind_some] at e1
                refine ⟨nx'', fun M hM b hbb => ?_, e1⟩
                rw [d2 M hM b hbb, hJ M hM b hbb, or_assoc]
                refine or_congr Iff.rfl ⟨fun z => ?_, fun ⟨v', k, z1, z2, z3, z4⟩ => ?_⟩
                · rcases z with ⟨v', k, z1, z2⟩ | ⟨k, z1, z2, z3⟩
                  · exact ⟨v', k, by omega, z2⟩
                  · exact ⟨v, k, by omega, hb, z1, z2, z3⟩
                · by_cases hvv : v' = v
                  · subst hvv
                    exact Or.inr ⟨k, z3, z4⟩
                  · exact Or.inl ⟨v', k, by omega, z2, z3, z4⟩
              | false =>
                rw [hb, if_pos rfl, Option.bind_some] at e1
                refine ⟨nx', fun M hM b hbb => ?_, e1⟩
                rw [hJ M hM b hbb]
                refine or_congr Iff.rfl ⟨fun ⟨v', k, z1, z2⟩ => ⟨v', k, by omega, z2⟩, fun ⟨v', k, z1, z2, z3⟩ => ⟨v', k, ?_, z2, z3⟩⟩
                have : v' ≠ v := fun y => by subst y; rw [hb] at z2; exact absurd z2 (by decide)
                omega)
            N 0 m_N nx (by omega) (by show _ < 5000; omega) (fun M hM b hb => ⟨fun z => Or.inl z, fun z => by
              rcases z with z | ⟨_, _, z, _⟩
              · exact z
              · omega⟩)
          exact ⟨nx', c1, c2⟩
      obtain ⟨nx', c1, c2⟩ := hl3
      rw [c1, Option.bind_some] at e0
      refine ⟨nx', fun M hM b hb => ?_, e0⟩
      rw [c2 M hM b hb, hI M hM b hb]
      refine ⟨fun z => ?_, fun ⟨M', v, k, z1, z2⟩ => ?_⟩
      · rcases z with ⟨M', v, k, z1, z2⟩ | ⟨v, k, z1⟩
        · exact ⟨M', v, k, by omega, z2⟩
        · exact ⟨M1, v, k, by omega, z1⟩
      · by_cases hMM : M' = M1
        · subst hMM
          exact Or.inr ⟨v, k, z2⟩
        · exact Or.inl ⟨M', v, k, by omega, z2⟩)
    (2 ^ D) 0 m_N nx0 (by omega) (by show _ < 5000; omega) (fun M hM b hb => by rw [a2 M hM, m_B_0]; exact ⟨fun z => absurd z (by decide), fun ⟨_, _, _, z, _⟩ => by omega⟩)
  refine ⟨nx2, ?_, b2⟩
  simp only [F_S_goOneStep]
  rw [show S_goOneStep_l1 (nI (2 ^ D - 1)) m_N 0 nx = _ from a1, Option.bind_some, show S_goOneStep_l2 m_N (nI (2 ^ D - 1)) fr (nI N) st mbs met wi m_N 0 (id nx0) = _ from b1]
  rfl
theorem m_takeNext (hD : D ≤ 5) (se fr nx : Nat → Int64) : ∃ o se' fr', F_S_takeNext m_N se fr nx (nI (2 ^ D - 1)) = some (o, se', fr') ∧ (o = 1 ∨ o = 0) ∧ (o = 0 → ∀ M, M < 2 ^ D → fr' M = 0) ∧ ∀ M, M < 2 ^ D → fr' M = nx M &&& (se M ^^^ -1) ∧ se' M = se M ||| fr' M := by
  have h32 := m_pD hD
  obtain ⟨s, h1, h2, h3, h4, h5⟩ := m_it (fun m M (s : Int32 × (Nat → Int64) × (Nat → Int64)) => S_takeNext_l1 (nI (2 ^ D - 1)) nx m s.1 (nI M) s.2.1 s.2.2) id (2 ^ D) (fun M0 s => (s.1 = 1 ∨ s.1 = 0) ∧ (s.1 = 0 → ∀ M, M < M0 → s.2.2 M = 0) ∧ (∀ M, M < M0 → s.2.2 M = nx M &&& (se M ^^^ -1) ∧ s.2.1 M = se M ||| s.2.2 M) ∧ ∀ M, M0 ≤ M → s.2.1 M = se M)
    (fun m s _ => by simp (disch := omega) only [S_takeNext_l1_s, m_lt, if_pos, id])
    (fun m M s hM hI => by
      obtain ⟨i1, i2, i3, i4⟩ := hI
      have hse := i4 M (Nat.le_refl _)
      have e0 := S_takeNext_l1_s (nI (2 ^ D - 1)) nx m s.1 (nI M) s.2.1 s.2.2
      simp (disch := omega) only [m_lt, if_neg, m_inb, m_chkT, nI_clamp, nI_1, pk_uLs, hse] at e0
      obtain ⟨o, o1, o2, o3⟩ : ∃ o : Int32, (if s.1 = 0 then (if lg_cmp (nx M &&& (se M ^^^ -1)) 0 = 0 then (some (0 : Int32)) else (some (1 : Int32))) else (some (1 : Int32))) = some o ∧ (o = 1 ∨ o = 0) ∧ (o = 0 → s.1 = 0 ∧ nx M &&& (se M ^^^ -1) = 0) := by
        by_cases h0 : s.1 = 0
        · by_cases hz : lg_cmp (nx M &&& (se M ^^^ -1)) 0 = 0
          · exact ⟨0, by rw [if_pos h0, if_pos hz], Or.inr rfl, fun _ => ⟨h0, (m_Lcmp _).mp hz⟩⟩
          · exact ⟨1, by rw [if_pos h0, if_neg hz], Or.inl rfl, fun z => absurd z (by decide)⟩
        · exact ⟨1, by rw [if_neg h0], Or.inl rfl, fun z => absurd z (by decide)⟩
      rw [o1, Option.bind_some] at e0
      refine ⟨(o, vp_updL s.2.1 M (se M ||| (nx M &&& (se M ^^^ -1))), vp_updL s.2.2 M (nx M &&& (se M ^^^ -1))), ⟨o2, fun z M' hM' => ?_, fun M' hM' => ?_, fun M' hM' => ?_⟩, e0⟩
      · obtain ⟨z1, z2⟩ := o3 z
        show vp_updL s.2.2 M (nx M &&& (se M ^^^ -1)) M' = 0
        by_cases hMM : M' = M
        · subst hMM
          rw [pk_uLs]
          exact z2
        · rw [pk_uLn hMM]
          exact i2 z1 M' (by omega)
      · show vp_updL s.2.2 M (nx M &&& (se M ^^^ -1)) M' = _ ∧ vp_updL s.2.1 M (se M ||| (nx M &&& (se M ^^^ -1))) M' = se M' ||| vp_updL s.2.2 M (nx M &&& (se M ^^^ -1)) M'
        by_cases hMM : M' = M
        · subst hMM
          rw [pk_uLs, pk_uLs]
          exact ⟨rfl, rfl⟩
        · rw [pk_uLn hMM, pk_uLn hMM]
          exact i3 M' (by omega)
      · show vp_updL s.2.1 M (se M ||| (nx M &&& (se M ^^^ -1))) M' = se M'
        rw [pk_uLn (by omega)]
        exact i4 M' (by omega))
    (2 ^ D) 0 m_N (0, se, fr) (by omega) (by show _ < 5000; omega) ⟨Or.inr rfl, fun _ M hM => by omega, fun M hM => by omega, fun _ _ => rfl⟩
  refine ⟨s.1, s.2.1, s.2.2, ?_, h2, h3, h4⟩
  simp only [F_S_takeNext]
  rw [show S_takeNext_l1 (nI (2 ^ D - 1)) nx m_N 0 0 se fr = _ from h1, Option.bind_some]
  rcases h2 with h2 | h2
  · show g_chk (g_isb s.1) _ = _
    rw [h2, m_isb1, m_chkT]
    show some (s.1, s.2.1, s.2.2) = _
    rw [h2]
  · show g_chk (g_isb s.1) _ = _
    rw [h2, m_isb0, m_chkT]
    show some (s.1, s.2.1, s.2.2) = _
    rw [h2]
end
