/-! the reference's nodes and ways -/
theorem m_it {σ τ : Type} (L : Nat → Nat → σ → Option τ) (out : σ → τ) (B : Nat) (Inv : Nat → σ → Prop) (hend : ∀ n s, Inv B s → L (n + 1) B s = some (out s)) (hstep : ∀ n i s, i < B → Inv i s → ∃ s', Inv (i + 1) s' ∧ L (n + 1) i s = L n (i + 1) s') : ∀ (d i n : Nat) (s : σ), i + d = B → d < n → Inv i s → ∃ s', L n i s = some (out s') ∧ Inv B s'
  | 0, i, n + 1, s, h, _, hI => by
    have hi : i = B := by omega
    subst hi
    exact ⟨s, hend n s hI, hI⟩
  | d + 1, i, n + 1, s, h, hn, hI => by
    obtain ⟨s', h1, h2⟩ := hstep n i s (by omega) hI
    obtain ⟨s2, h3, h4⟩ := m_it L out B Inv hend hstep d (i + 1) n s' (by omega) (by omega) h1
    exact ⟨s2, h2.trans h3, h4⟩
theorem m_nd {q F a : Nat} (ha : a < q) : (F * q + a) / q = F ∧ (F * q + a) % q = a := by
  constructor
  · rw [Nat.mul_comm, Nat.mul_add_div (by omega), Nat.div_eq_of_lt ha, Nat.add_zero]
  · rw [Nat.mul_comm, Nat.mul_add_mod, Nat.mod_eq_of_lt ha]
theorem m_nd2 {q : Nat} (u : Nat) : u = u / q * q + u % q := by
  rw [Nat.mul_comm]
  exact (Nat.div_add_mod u q).symm
theorem m_ndlt {P q F a : Nat} (hF : F < P) (ha : a < q) : F * q + a < P * q := by
  have : (F + 1) * q ≤ P * q := Nat.mul_le_mul_right _ hF
  rw [Nat.add_mul] at this
  omega
def m_cl (le : Nat → Nat → Int32) (n : Nat → Nat) (V : Nat → Nat → Bool) (w q : Nat) : Bool := m_calm (le w q) (V w q) (V w (q + 1)) (V w (m_E (le w) (n w) (q + 1)))
def m_mt (le : Nat → Nat → Int32) (n : Nat → Nat) (V : Nat → Nat → Bool) (i : Nat) : Prop := i < 5 ∧ ∀ w, w < 2 → ∀ q, q < n w → m_lat (le w q) → m_o le n w + m_LT (le w) q = i → m_cl le n V w q = true
theorem m_nodes3 {le : Nat → Nat → Int32} {n : Nat → Nat} (hf : m_fs le n) {letter sizes lnum many : Nat → Int32} (hl : m_lays le n letter sizes lnum many) {u : Nat} (hu : u < 64) (so : Nat → Int32) (o9 o14 : Int32) {w : Nat} (hw : w < 2) (Bs : Nat → Prop) (hB : ∀ i, Bs i → i < 5) (s : Nat → Int32) (hs : ∀ i, m_b (s u) i = true ↔ Bs i) : ∃ s', M_laysNodes_l3 (nI w) many (nI u) lnum letter sizes so o9 o14 m_N 0 s = some s' ∧ (∀ j, j ≠ u → s' j = s j) ∧ ∀ i, m_b (s' u) i = true ↔ Bs i ∧ ∀ q, q < n w → m_lat (le w q) → m_o le n w + m_LT (le w) q = i → m_cl le n (m_so (upd (upd so u o9) (64 + u) o14) u) w q = true := by
  have h16 := (hf.1 w hw).1
  obtain ⟨s', h1, h2, h3⟩ := m_it (fun m p s => M_laysNodes_l3 (nI w) many (nI u) lnum letter sizes so o9 o14 m (nI p) s) id (n w) (fun p s' => (∀ j, j ≠ u → s' j = s j) ∧ ∀ i, m_b (s' u) i = true ↔ Bs i ∧ ∀ q, q < p → m_lat (le w q) → m_o le n w + m_LT (le w) q = i → m_cl le n (m_so (upd (upd so u o9) (64 + u) o14) u) w q = true)
    (fun m s _ => by simp (disch := omega) only [M_laysNodes_l3_s, m_inb, m_chkT, nI_clamp, (hl w hw).1, m_le, if_pos, id])
    (fun m p s' hp hI => by
      obtain ⟨l1, l2, l3⟩ := (hl w hw).2 p hp
      have ho := m_o_le hf hw
      have hwf : m_WF (le w) (n w) := by
        rcases (hf.1 w hw).2 with h0 | h0
        · omega
        · exact h0
      have e0 : M_laysNodes_l3 (nI w) many (nI u) lnum letter sizes so o9 o14 (m + 1) (nI p) s' = ((if (m_ln (le w p) (nI (m_o le n w + m_LT (le w) p))) = (-9 : Int32) then (some (31 : Int32)) else ((F_M_isCalm letter sizes (upd (upd so u o9) (64 + u) o14) (nI w) (nI p) (nI u)).bind fun o30 => (if o30 = 0 then (some ((g_ishl (1 : Int32) (m_ln (le w p) (nI (m_o le n w + m_LT (le w) p)))) ^^^ (-1 : Int32))) else (some (31 : Int32))))).bind fun o29 => M_laysNodes_l3 (nI w) many (nI u) lnum letter sizes so o9 o14 m (nI (p + 1)) (upd s' u (s' u &&& o29))) := by
        simp (disch := omega) only [M_laysNodes_l3_s, m_inb, m_chkT, nI_clamp, (hl w hw).1, m_le, if_neg, m_e16, m_e64, pk_mul, nI_add, nI_1, l3]
      have hfin : ∀ o29, ((if (m_ln (le w p) (nI (m_o le n w + m_LT (le w) p))) = (-9 : Int32) then (some (31 : Int32)) else ((F_M_isCalm letter sizes (upd (upd so u o9) (64 + u) o14) (nI w) (nI p) (nI u)).bind fun o30 => (if o30 = 0 then (some ((g_ishl (1 : Int32) (m_ln (le w p) (nI (m_o le n w + m_LT (le w) p)))) ^^^ (-1 : Int32))) else (some (31 : Int32)))))) = some o29 → (∀ i, i < 5 → (m_b o29 i = true ↔ (m_lat (le w p) → m_o le n w + m_LT (le w) p = i → m_cl le n (m_so (upd (upd so u o9) (64 + u) o14) u) w p = true))) → ∃ s2, ((∀ j, j ≠ u → s2 j = s j) ∧ ∀ i, m_b (s2 u) i = true ↔ Bs i ∧ ∀ q, q < p + 1 → m_lat (le w q) → m_o le n w + m_LT (le w) q = i → m_cl le n (m_so (upd (upd so u o9) (64 + u) o14) u) w q = true) ∧ M_laysNodes_l3 (nI w) many (nI u) lnum letter sizes so o9 o14 (m + 1) (nI p) s' = M_laysNodes_l3 (nI w) many (nI u) lnum letter sizes so o9 o14 m (nI (p + 1)) s2 := fun o29 ho29 hb => by
        rw [ho29, Option.bind_some] at e0
        refine ⟨_, ⟨fun j hj => ?_, fun i => ?_⟩, e0⟩
        · rw [pk_un hj]
          exact hI.1 j hj
        · rw [pk_us, m_b_and, Bool.and_eq_true, hI.2 i]
          refine ⟨fun ⟨⟨z1, z2⟩, z3⟩ => ⟨z1, fun q hq => ?_⟩, fun ⟨z1, z2⟩ => ⟨⟨z1, fun q hq => z2 q (by omega)⟩, (hb i (hB i z1)).mpr (z2 p (by omega))⟩⟩
          by_cases hqp : q = p
          · subst hqp
            exact (hb i (hB i z1)).mp z3
          · exact z2 q (by omega)
      by_cases hlat : m_lat (le w p)
      · have hlt := m_LT_lt hp hlat
        rw [m_ln1 hlat] at hfin
        have hcf := m_calmF hw h16 hwf (hl w hw) hp hu (upd (upd so u o9) (64 + u) o14)
        have hne : ¬ nI (m_o le n w + m_LT (le w) p) = -9 := fun z => nI_pos (n := m_o le n w + m_LT (le w) p) (by omega) (by rw [z]; decide)
        rw [if_neg hne, hcf, Option.bind_some] at hfin
        cases hcl : m_cl le n (m_so (upd (upd so u o9) (64 + u) o14) u) w p with
        | true =>
          refine hfin 31 ?_ (fun i hi => ⟨fun _ _ _ => hcl, fun _ => by rw [m_b_31, decide_eq_true hi]⟩)
          rw [show (if m_calm (le w p) (m_b (upd (upd so u o9) (64 + u) o14 (64 * w + u)) p) (m_b (upd (upd so u o9) (64 + u) o14 (64 * w + u)) (p + 1)) (m_b (upd (upd so u o9) (64 + u) o14 (64 * w + u)) (m_E (le w) (n w) (p + 1))) = true then (1 : Int32) else 0) = 1 from if_pos hcl, if_neg m_n10]
        | false =>
          refine hfin _ (by rw [show (if m_calm (le w p) (m_b (upd (upd so u o9) (64 + u) o14 (64 * w + u)) p) (m_b (upd (upd so u o9) (64 + u) o14 (64 * w + u)) (p + 1)) (m_b (upd (upd so u o9) (64 + u) o14 (64 * w + u)) (m_E (le w) (n w) (p + 1))) = true then (1 : Int32) else 0) = 0 from if_neg (fun z => absurd (hcl.symm.trans z) (by decide)), if_pos rfl]) (fun i hi => ?_)
          rw [m_b_not _ (by omega), m_b_shl (by omega) (by omega)]
          by_cases hik : i = m_o le n w + m_LT (le w) p
          · rw [decide_eq_true hik]
            refine ⟨fun z => absurd z (by decide), fun z => ?_⟩
            have := z hlat hik.symm
            rw [hcl] at this
            cases this
          · rw [decide_eq_false hik]
            exact ⟨fun _ _ z => absurd z.symm hik, fun _ => rfl⟩
      · rw [m_ln0 hlat, if_pos rfl] at hfin
        exact hfin 31 rfl (fun i hi => ⟨fun _ z => absurd z hlat, fun _ => by rw [m_b_31, decide_eq_true hi]⟩))
    (n w) 0 m_N s (by omega) (by show _ < 5000; omega) ⟨fun _ _ => rfl, fun i => (hs i).trans ⟨fun z => ⟨z, fun q hq => by omega⟩, fun z => z.1⟩⟩
  exact ⟨s', h1, h2, h3⟩
/-- one node of the reference as it must be -/
def m_node (le : Nat → Nat → Int32) (n : Nat → Nat) (lab : Nat → Int32) (so meets : Nat → Int32) (u : Nat) : Prop := (∀ w, w < 2 → m_val (le w) (n w) (lab (u / 2 ^ m_G le n)) (fun p => (u % 2 ^ m_G le n).testBit (m_o le n w + m_LT (le w) p)) (m_so so u w)) ∧ ∀ i, m_b (meets u) i = true ↔ m_mt le n (m_so so u) i
theorem m_nodesL {le : Nat → Nat → Int32} {n : Nat → Nat} (hf : m_fs le n) {letter sizes lnum many : Nat → Int32} (hl : m_lays le n letter sizes lnum many) {P : Nat} (hP : P * 2 ^ m_G le n ≤ 64) (hP8 : P ≤ 8) (lab so meets : Nat → Int32) : ∃ so' meets', F_M_laysNodes m_N (nI (m_G le n)) (nI P) letter sizes lnum many lab so meets = some (nI (2 ^ m_G le n), 0, so', meets') ∧ ∀ u, u < P * 2 ^ m_G le n → m_node le n lab so' meets' u := by
  have hG := hf.2
  have h8 := m_p8 hG
  have hsh : g_ishl 1 (nI (m_G le n)) = nI (2 ^ m_G le n) := by
    have := m_ishl (a := 1) (k := m_G le n) (by show m_LT (le 0) (n 0) + m_LT (le 1) (n 1) < 32; omega) (by have : 2 ^ m_G le n ≤ 8 := h8.2; omega)
    rw [Nat.one_mul] at this
    exact this
  generalize hq : 2 ^ m_G le n = q at *
  have hq0 : 0 < q := h8.1
  have hq8 : q ≤ 8 := h8.2
  obtain ⟨s', h1, h2⟩ := m_it (fun m u (s : (Nat → Int32) × (Nat → Int32)) => M_laysNodes_l1 m_N (nI P) (nI (m_G le n)) letter sizes lnum many lab m (nI u) s.1 s.2) id (P * q) (fun u s => ∀ u', u' < u → m_node le n lab s.1 s.2 u')
    (fun m s _ => by
      simp (disch := omega) only [M_laysNodes_l1_s, hsh, pk_mul, m_le, if_pos, id])
    (fun m u s hu hI => by
      have hud : u / q < P := (m_lt_node hq0).mp hu
      have hum := Nat.mod_lt u hq0
      obtain ⟨o9, a1, a2, a3⟩ := m_parts (w := 0) (by omega) (hf.1 0 (by omega)) (hl 0 (by omega)) (m_o_le hf (w := 0) (by omega)).2 (lab (u / q)) (nI (u % q))
      obtain ⟨o14, b1, b2, b3⟩ := m_parts (w := 1) (by omega) (hf.1 1 (by omega)) (hl 1 (by omega)) (m_o_le hf (w := 1) (by omega)).2 (lab (u / q)) (nI (u % q))
      have hu64 : u < 64 := by omega
      obtain ⟨m1, c1, c2, c3⟩ := m_nodes3 hf hl hu64 s.1 o9 o14 (w := 0) (by omega) (fun i => i < 5) (fun _ h => h) (upd s.2 u 31) (fun i => by rw [pk_us, m_b_31]; exact decide_eq_true_iff)
      obtain ⟨m2, d1, d2, d3⟩ := m_nodes3 hf hl hu64 s.1 o9 o14 (w := 1) (by omega) _ (fun _ h => h.1) m1 c3
      have e2 : M_laysNodes_l2 m_N many (nI u) lnum letter sizes s.1 o9 o14 m_N 0 (upd s.2 u 31) = some m2 := by
        have z1 := M_laysNodes_l2_s m_N many (nI u) lnum letter sizes s.1 o9 o14 4999 0 (upd s.2 u 31)
        have z2 := M_laysNodes_l2_s m_N many (nI u) lnum letter sizes s.1 o9 o14 4998 1 m1
        have z3 := M_laysNodes_l2_s m_N many (nI u) lnum letter sizes s.1 o9 o14 4997 2 m2
        rw [if_neg (by decide), show M_laysNodes_l3 0 many (nI u) lnum letter sizes s.1 o9 o14 m_N 0 (upd s.2 u 31) = _ from c1, Option.bind_some] at z1
        rw [if_neg (by decide), show M_laysNodes_l3 1 many (nI u) lnum letter sizes s.1 o9 o14 m_N 0 m1 = _ from d1, Option.bind_some] at z2
        rw [if_pos (by decide)] at z3
        exact z1.trans (z2.trans z3)
      refine ⟨(upd (upd s.1 u o9) (64 + u) o14, m2), fun u' hu' => ?_, ?_⟩
      · have hso : ∀ w, u' ≠ u → m_so (upd (upd s.1 u o9) (64 + u) o14) u' w = m_so s.1 u' w := fun w hne => by
          funext p
          simp only [m_so]
          rw [pk_un (by omega), pk_un (by omega)]
        by_cases hne : u' = u
        · subst hne
          refine ⟨fun w hw => ?_, fun i => ?_⟩
          · rw [hq]
            have hg : ∀ j, m_b (nI (u' % q)) j = (u' % q).testBit j := fun j => m_b_nI j (by omega)
            rcases (show w = 0 ∨ w = 1 by omega) with rfl | rfl
            · have : m_so (upd (upd s.1 u' o9) (64 + u') o14) u' 0 = m_b o9 := by
                funext p
                simp only [m_so]
                rw [pk_un (by omega), show 64 * 0 + u' = u' by omega, pk_us]
              rw [this]
              simp only [hg] at a2
              exact a2
            · have : m_so (upd (upd s.1 u' o9) (64 + u') o14) u' 1 = m_b o14 := by
                funext p
                simp only [m_so]
                rw [show 64 * 1 + u' = 64 + u' by omega, pk_us]
              rw [this]
              simp only [hg] at b2
              exact b2
          · refine (d3 i).trans ⟨fun ⟨⟨z1, z2⟩, z3⟩ => ⟨z1, fun w hw => ?_⟩, fun ⟨z1, z2⟩ => ⟨⟨z1, z2 0 (by omega)⟩, z2 1 (by omega)⟩⟩
            rcases (show w = 0 ∨ w = 1 by omega) with rfl | rfl
            · exact z2
            · exact z3
        · obtain ⟨g1, g2⟩ := hI u' (by omega)
          have hfun : m_so (upd (upd s.1 u o9) (64 + u) o14) u' = m_so s.1 u' := funext fun w => hso w hne
          refine ⟨fun w hw => by dsimp only; rw [hfun]; exact g1 w hw, fun i => ?_⟩
          dsimp only
          rw [hfun, d2 u' hne, c2 u' hne, pk_un hne]
          exact g2 i
      · have hnz : (decide (¬ nI q = 0)) = true := decide_eq_true (by rw [m_0eq (by omega)]; omega)
        have hdv : nI u / nI q = nI (u / q) := pk_div (by omega) hq0 (by omega)
        have hrm : g_irem (nI u) (nI q) = nI (u % q) := pk_rem (by omega) hq0 (by omega)
        simp (disch := omega) only [M_laysNodes_l1_s, hsh, pk_mul, m_le, if_neg, hnz, m_chkT, hdv, hrm, m_inb, nI_clamp, nI_1, m_e64, nI_add]
        rw [show F_M_partsAt m_N letter sizes lnum many 0 (lab (u / q)) (nI (u % q)) = _ from a1, Option.bind_some, show F_M_partsAt m_N letter sizes lnum many 1 (lab (u / q)) (nI (u % q)) = _ from b1, Option.bind_some]
        rw [e2, Option.bind_some])
    (P * q) 0 m_N (so, meets) (by omega) (by show _ < 5000; omega) (fun u' hu' => by omega)
  refine ⟨s'.1, s'.2, ?_, h2⟩
  simp only [F_M_laysNodes, hsh]
  rw [show M_laysNodes_l1 m_N (nI P) (nI (m_G le n)) letter sizes lnum many lab m_N 0 so meets = _ from h1]
  rfl
