/-! a row's nodes that live are the true ones -/
theorem m_R_first {N : Nat} {E : Nat → Nat → Prop} (hE : ∀ u v, E u v → u < N ∧ v < N) : ∀ (j : Nat) {u v : Nat}, j ≤ N → m_Wk E j u v → ∃ b, E u b ∧ (b = v ∨ m_Wk E N b v)
  | 0, u, v, _, h => ⟨v, h, Or.inl rfl⟩
  | j + 1, u, v, hj, h => by
    rcases h with h | ⟨h1, h2⟩
    · exact m_R_first hE j (by omega) h
    · obtain ⟨b, b1, b2⟩ := m_R_first hE j (by omega) h1
      have h3 : m_Wk E N j v := m_Wk_mono (by omega) h2
      refine ⟨b, b1, Or.inr ?_⟩
      rcases b2 with rfl | b2
      · exact h3
      · exact m_Wk_tr N (by omega) b2 h3
theorem m_itr_add (nx : Nat → Nat) : ∀ a b i, m_itr nx (a + b) i = m_itr nx b (m_itr nx a i)
  | 0, b, i => by rw [Nat.zero_add]; rfl
  | a + 1, b, i => by
    rw [show a + 1 + b = a + b + 1 by omega]
    exact m_itr_add nx a b (nx i)
theorem m_itr_end {L k : Nat} : ∀ d i, i + d + 1 = L → m_itr (m_nx L k) d i = L - 1
  | 0, i, h => by show i = L - 1; omega
  | d + 1, i, h => by
    show m_itr (m_nx L k) d (m_nx L k i) = L - 1
    rw [show m_nx L k i = i + 1 by unfold m_nx; rw [if_pos (by omega)]]
    exact m_itr_end d (i + 1) (by omega)
theorem m_itr_k {L k i : Nat} (hi : i < L) : ∃ m, m_itr (m_nx L k) (m + 1) i = k := by
  refine ⟨L - 1 - i, ?_⟩
  rw [m_itr_add, m_itr_end (L - 1 - i) i (by omega)]
  show m_nx L k (L - 1) = k
  unfold m_nx
  rw [if_neg (by omega)]
section
variable {le : Nat → Int32} {n L k N q : Nat} {cv V : Nat → Nat → Bool} {X : Nat → Nat → Nat → Prop} {shown : Nat → Int32}
def m_cc (le : Nat → Int32) (n : Nat) (v : Nat → Bool) (p : Nat) : Bool := m_calm (le p) (v p) (v (p + 1)) (v (m_E le n (p + 1)))
def m_gg (le : Nat → Int32) (n : Nat) (v v' : Nat → Bool) (p : Nat) : Prop := m_go (le p) (v p) (v (p + 1)) (v (m_E le n (p + 1))) (v' p) (v' (p + 1)) = true
def m_MC (le : Nat → Int32) (n N : Nat) (cv : Nat → Nat → Bool) (X : Nat → Nat → Nat → Prop) (c : Nat) : Prop := ∀ p, p < n → m_lat (le p) → ¬ le p = 120 → ∃ v, v < N ∧ m_cls (m_R X N) c v ∧ m_cc le n (cv v) p = true
def m_LV (le : Nat → Int32) (n N : Nat) (cv : Nat → Nat → Bool) (X : Nat → Nat → Nat → Prop) (b : Nat) : Prop := ∃ c, (b = c ∨ m_R X N b c) ∧ m_R X N c c ∧ m_MC le n N cv X c
theorem m_lv_back (hXN : ∀ kk a b, X kk a b → kk < 3 ∧ a < N ∧ b < N) {u v : Nat} (h : m_R X N u v) (hv : m_LV le n N cv X v) : m_LV le n N cv X u := by
  obtain ⟨c, h1, h2⟩ := hv
  refine ⟨c, Or.inr ?_, h2⟩
  rcases h1 with rfl | h1
  · exact h
  · exact m_R_tr hXN _ _ _ h h1
theorem m_lv_next (hXN : ∀ kk a b, X kk a b → kk < 3 ∧ a < N ∧ b < N) {u : Nat} (hu : m_LV le n N cv X u) : ∃ kk b, X kk u b ∧ m_LV le n N cv X b := by
  obtain ⟨c, h1, h2, h3⟩ := hu
  have h4 : m_R X N u c := by
    rcases h1 with rfl | h1
    · exact h2
    · exact h1
  obtain ⟨b, ⟨kk, b1⟩, b2⟩ := m_R_first (fun u v ⟨kk, z⟩ => (hXN kk u v z).2) N (Nat.le_refl _) h4
  exact ⟨kk, b, b1, c, b2, h2, h3⟩
theorem m_lv_walk (hXN : ∀ kk a b, X kk a b → kk < 3 ∧ a < N ∧ b < N) (hXs : ∀ kk a b, X kk a b → b / q = m_nx L k (a / q)) : ∀ m a, m_LV le n N cv X a → ∃ v, m_LV le n N cv X v ∧ v / q = m_itr (m_nx L k) m (a / q) ∧ (v = a ∨ m_R X N a v)
  | 0, a, h => ⟨a, h, rfl, Or.inl rfl⟩
  | m + 1, a, h => by
    obtain ⟨kk, b, b1, b2⟩ := m_lv_next hXN h
    obtain ⟨v, v1, v2, v3⟩ := m_lv_walk hXN hXs m b b2
    have hab : m_R X N a b := m_Wk_mono (Nat.zero_le _) ⟨kk, b1⟩
    refine ⟨v, v1, ?_, Or.inr ?_⟩
    · rw [v2, hXs kk a b b1]
      rfl
    · rcases v3 with rfl | v3
      · exact hab
      · exact m_R_tr hXN _ _ _ hab v3
/-- where two values of a later part differ, the same within it -/
theorem m_diff {c : Int32} (hc : m_lat c) (x y f s x' y' f' : Bool) (h1 : m_go c x f s x' f' = true) (h2 : m_go c y f s y' f' = true) (hne : x ≠ y) : ¬ c = 120 ∧ x' = x ∧ y' = y ∧ m_calm c x f s = !m_calm c y f s ∧ m_calm c x f s = (if c = 103 then x else !x) := by
  rcases hc with rfl | rfl | rfl | rfl
  · exact absurd ((eq_of_beq h1).trans (eq_of_beq h2).symm) hne
  · have a1 : x = (f || x') := eq_of_beq h1
    have a2 : y = (f || y') := eq_of_beq h2
    revert a1 a2 hne
    show _ → _ → _ → _ ∧ _ ∧ _ ∧ (!x || f) = !(!y || f) ∧ (!x || f) = !x
    cases x <;> cases y <;> cases f <;> cases x' <;> cases y' <;> decide
  · have a1 : x = (f && x') := eq_of_beq h1
    have a2 : y = (f && y') := eq_of_beq h2
    revert a1 a2 hne
    show _ → _ → _ → _ ∧ _ ∧ _ ∧ (x || !f) = !(y || !f) ∧ (x || !f) = x
    cases x <;> cases y <;> cases f <;> cases x' <;> cases y' <;> decide
  · have a1 : x = (s || (f && x')) := eq_of_beq h1
    have a2 : y = (s || (f && y')) := eq_of_beq h2
    revert a1 a2 hne
    show _ → _ → _ → _ ∧ _ ∧ _ ∧ (!x || s) = !(!y || s) ∧ (!x || s) = !x
    cases x <;> cases y <;> cases s <;> cases f <;> cases x' <;> cases y' <;> decide
theorem m_lv_true (hw : m_WF le n) (hk : k < L) (hXN : ∀ kk a b, X kk a b → kk < 3 ∧ a < N ∧ b < N) (hdiv : ∀ a, a < N → a / q < L) (hXs : ∀ kk a b, X kk a b → b / q = m_nx L k (a / q) ∧ ∀ p, p < n → m_gg le n (cv a) (cv b) p) (hcv : ∀ a, a < N → ∃ gg, m_val le n (shown (a / q)) gg (cv a)) (hV : ∀ i, i < L → m_val le n (shown i) (V i) (V i)) (hg : ∀ p, p < n → m_lat (le p) → m_good le n L k V p) : ∀ d p, p + d = n → 0 < d → ∀ a, m_LV le n N cv X a → cv a p = V (a / q) p := by
  intro d
  induction d using Nat.strongRecOn with
  | ind d ih =>
    intro p hp hd a ha
    have hlt : ∀ {u}, m_LV le n N cv X u → u < N := fun {u} hu => by
      obtain ⟨kk, b, b1, -⟩ := m_lv_next hXN hu
      exact (hXN kk u b b1).2.1
    have hpn : p < n := by omega
    obtain ⟨h1, h2, h3⟩ := m_Es hw hpn
    have hf : 1 ≤ m_ar (le p) → ∀ u, m_LV le n N cv X u → cv u (p + 1) = V (u / q) (p + 1) := fun z u hu => by
      rcases h3 with ⟨b1, b2⟩ | ⟨b1, b2, b3⟩ | ⟨b1, b2, b3, b4, b5⟩
      · omega
      · exact ih (n - (p + 1)) (by omega) (p + 1) (by omega) (by omega) u hu
      · exact ih (n - (p + 1)) (by omega) (p + 1) (by omega) (by omega) u hu
    have hs : m_ar (le p) = 2 → ∀ u, m_LV le n N cv X u → cv u (m_E le n (p + 1)) = V (u / q) (m_E le n (p + 1)) := fun z u hu => by
      rcases h3 with ⟨b1, b2⟩ | ⟨b1, b2, b3⟩ | ⟨b1, b2, b3, b4, b5⟩
      · omega
      · omega
      · exact ih (n - m_E le n (p + 1)) (by omega) (m_E le n (p + 1)) (by omega) (by omega) u hu
    have hlet := m_letters (hw.1 p hpn).1
    by_cases hl : m_lat (le p)
    · have hl1 : 1 ≤ m_ar (le p) := by
        clear hf hs h3 hlet
        generalize le p = c at hl
        rcases hl with rfl | rfl | rfl | rfl <;> decide
      -- the same second part, where it matters
      have hgV : ∀ u b, m_LV le n N cv X u → m_LV le n N cv X b → b / q = m_nx L k (u / q) → m_go (le p) (V (u / q) p) (cv u (p + 1)) (cv u (m_E le n (p + 1))) (V (b / q) p) (cv b (p + 1)) = true ∧ m_calm (le p) (V (u / q) p) (cv u (p + 1)) (cv u (m_E le n (p + 1))) = m_cc le n (V (u / q)) p := fun u b hu hb hub => by
        have g1 := (hg p hpn hl (u / q) (hdiv u (hlt hu))).1
        rw [hf hl1 u hu, hf hl1 b hb, hub]
        unfold m_cc
        by_cases h2 : m_ar (le p) = 2
        · rw [hs h2 u hu]
          exact ⟨g1, rfl⟩
        · have hl' : le p = 120 ∨ le p = 102 ∨ le p = 103 ∨ le p = 117 := hl
          rcases hl' with z | z | z | z
          · rw [z] at g1 ⊢
            exact ⟨g1, rfl⟩
          · rw [z] at g1 ⊢
            exact ⟨g1, rfl⟩
          · rw [z] at g1 ⊢
            exact ⟨g1, rfl⟩
          · rw [z] at h2
            exact absurd (by decide) h2
      have hstep : ∀ u kk b, m_LV le n N cv X u → m_LV le n N cv X b → X kk u b → cv u p ≠ V (u / q) p → ¬ le p = 120 ∧ cv b p = cv u p ∧ V (b / q) p = V (u / q) p ∧ m_cc le n (cv u) p = !m_cc le n (V (u / q)) p ∧ m_cc le n (cv u) p = (if le p = 103 then cv u p else !cv u p) := fun u kk b hu hb hx hne => by
        obtain ⟨x1, x2⟩ := hXs kk u b hx
        obtain ⟨y1, y2⟩ := hgV u b hu hb x1
        have := m_diff hl _ _ _ _ _ _ _ (x2 p hpn) y1 hne
        rw [y2] at this
        exact this
      refine Classical.byContradiction fun hne => ?_
      obtain ⟨kk0, b0, e1, e2⟩ := m_lv_next hXN ha
      have h120 := (hstep a kk0 b0 ha e2 e1 hne).1
      -- the difference stays
      have hstay : ∀ v, m_R X N a v → m_LV le n N cv X v → cv v p = cv a p ∧ V (v / q) p = V (a / q) p := fun v hr hv => by
        have hT := m_Wk_min (E := m_Eg X) (T := fun u v => m_R X N u v ∧ (m_LV le n N cv X v → (cv u p = cv a p ∧ V (u / q) p = V (a / q) p) → (cv v p = cv a p ∧ V (v / q) p = V (a / q) p))) (fun u v ⟨kk, z⟩ => ⟨m_Wk_mono (Nat.zero_le _) ⟨kk, z⟩, fun hv ⟨z1, z2⟩ => by
          have huv : m_R X N u v := m_Wk_mono (Nat.zero_le _) ⟨kk, z⟩
          have := hstep u kk v (m_lv_back hXN huv hv) hv z (by rw [z1, z2]; exact hne)
          exact ⟨this.2.1.trans z1, this.2.2.1.trans z2⟩⟩) (fun u w v t1 t2 => ⟨m_R_tr hXN _ _ _ t1.1 t2.1, fun hv z => t2.2 hv (t1.2 (m_lv_back hXN t2.1 hv) z)⟩) N hr
        exact hT.2 hv ⟨rfl, rfl⟩
      have hcalm : ∀ v, (v = a ∨ m_R X N a v) → m_LV le n N cv X v → m_cc le n (cv v) p = (if le p = 103 then cv a p else !cv a p) ∧ m_cc le n (V (v / q)) p = !(if le p = 103 then cv a p else !cv a p) := fun v hv hlv => by
        obtain ⟨kk, b, f1, f2⟩ := m_lv_next hXN hlv
        have hsame : cv v p = cv a p ∧ V (v / q) p = V (a / q) p := by
          rcases hv with rfl | hv
          · exact ⟨rfl, rfl⟩
          · exact hstay v hv hlv
        have hh := hstep v kk b hlv f2 f1 (by rw [hsame.1, hsame.2]; exact hne)
        have h5 := hh.2.2.2.2
        rw [hsame.1] at h5
        have h4 := hh.2.2.2.1
        rw [h5] at h4
        refine ⟨h5, ?_⟩
        rw [h4]
        cases m_cc le n (V (v / q)) p <;> rfl
      by_cases hkk : (if le p = 103 then cv a p else !cv a p) = true
      · obtain ⟨m, hm⟩ := (hg p hpn hl (a / q) (hdiv a (hlt ha))).2
        obtain ⟨v, v1, v2, v3⟩ := m_lv_walk hXN (fun kk a b z => (hXs kk a b z).1) m a ha
        have := (hcalm v v3 v1).2
        rw [v2, hkk] at this
        rw [show m_cc le n (V (m_itr (m_nx L k) m (a / q))) p = true from hm] at this
        exact absurd this (by decide)
      · obtain ⟨c, c1, c2, c3⟩ := ha
        obtain ⟨v, v1, v2, v3⟩ := c3 p hpn hl h120
        have hvl : m_LV le n N cv X v := ⟨c, Or.inr v2.2, c2, c3⟩
        have hav : v = a ∨ m_R X N a v := by
          rcases c1 with rfl | c1
          · exact Or.inr v2.1
          · exact Or.inr (m_R_tr hXN _ _ _ c1 v2.1)
        have := (hcalm v hav hvl).1
        rw [v3] at this
        exact hkk this.symm
    · obtain ⟨gg, hgg⟩ := hcv a (hlt ha)
      have hal := hdiv a (hlt ha)
      rw [hgg p hpn, hV _ hal p hpn]
      have e1 : m_sem (le p) (shown (a / q)) (gg p) (cv a (p + 1)) (cv a (m_E le n (p + 1))) = m_sem (le p) (shown (a / q)) (gg p) (V (a / q) (p + 1)) (V (a / q) (m_E le n (p + 1))) := m_sem0 hlet _ _ _ _ _ _ (fun z => hf z a ha) (fun z => hs z a ha)
      rw [e1]
      clear e1 hf hs h3 hgg
      generalize le p = c at hl hlet
      rcases hlet with rfl | rfl | rfl | rfl | rfl | rfl | rfl | rfl | rfl | rfl | rfl | rfl
      · rfl
      · rfl
      · rfl
      · rfl
      · rfl
      · rfl
      · rfl
      · rfl
      · exact absurd (Or.inl rfl) hl
      · exact absurd (Or.inr (Or.inl rfl)) hl
      · exact absurd (Or.inr (Or.inr (Or.inl rfl))) hl
      · exact absurd (Or.inr (Or.inr (Or.inr rfl))) hl
theorem m_lv_of (hw : m_WF le n) (hk : k < L) (hXN : ∀ kk a b, X kk a b → kk < 3 ∧ a < N ∧ b < N) (hXe : ∀ a b, a < N → b < N → b / q = m_nx L k (a / q) → (∀ p, p < n → m_gg le n (cv a) (cv b) p) → X 2 a b) (hex : ∀ i, i < L → ∃ t, t < N ∧ t / q = i ∧ ∀ p, p < n → cv t p = V i p) (hg : ∀ p, p < n → m_lat (le p) → m_good le n L k V p) {t i : Nat} (hi : i < L) (ht : t < N) (hti : t / q = i) (htv : ∀ p, p < n → cv t p = V i p) : m_LV le n N cv X t := by
  have hedge : ∀ a b, a < N → b < N → a / q < L → b / q = m_nx L k (a / q) → (∀ p, p < n → cv a p = V (a / q) p) → (∀ p, p < n → cv b p = V (b / q) p) → m_R X N a b := fun a b ha hb hal hab va vb => by
    refine m_Wk_mono (Nat.zero_le _) ⟨2, hXe a b ha hb hab fun p hp => ?_⟩
    unfold m_gg
    rw [m_go_congr hw hp va vb]
    by_cases hl : m_lat (le p)
    · rw [hab]
      exact (hg p hp hl (a / q) hal).1
    · exact m_go_no hl _ _ _ _ _
  have hwalk : ∀ m a, a < N → a / q < L → (∀ p, p < n → cv a p = V (a / q) p) → ∀ b, b < N → b / q = m_itr (m_nx L k) (m + 1) (a / q) → (∀ p, p < n → cv b p = V (b / q) p) → m_R X N a b := by
    intro m
    induction m with
    | zero => exact fun a ha hal va b hb hab vb => hedge a b ha hb hal hab va vb
    | succ m ih =>
      intro a ha hal va b hb hab vb
      have hnl := m_nx_lt (i := a / q) hk
      obtain ⟨u, u1, u2, u3⟩ := hex (m_nx L k (a / q)) hnl
      have vu : ∀ p, p < n → cv u p = V (u / q) p := by rw [u2]; exact u3
      have r1 := hedge a u ha u1 hal u2 va vu
      have r2 := ih u u1 (by rw [u2]; exact hnl) vu b hb (by rw [u2]; exact hab) vb
      exact m_R_tr hXN _ _ _ r1 r2
  obtain ⟨c, c1, c2, c3⟩ := hex k hk
  have vc : ∀ p, p < n → cv c p = V (c / q) p := by rw [c2]; exact c3
  have vt : ∀ p, p < n → cv t p = V (t / q) p := by rw [hti]; exact htv
  obtain ⟨m1, hm1⟩ := m_itr_k (k := k) hi
  obtain ⟨m2, hm2⟩ := m_itr_k (k := k) hk
  have r1 : m_R X N t c := hwalk m1 t ht (by rw [hti]; exact hi) vt c c1 (by rw [hti, hm1]; exact c2) vc
  have r2 : m_R X N c c := hwalk m2 c c1 (by rw [c2]; exact hk) vc c c1 (by rw [c2, hm2]) vc
  refine ⟨c, Or.inr r1, r2, fun p hp hl _ => ?_⟩
  obtain ⟨m, hm⟩ := (hg p hp hl k hk).2
  have hml := m_itr_lt hk m k hk
  obtain ⟨u, u1, u2, u3⟩ := hex _ hml
  have vu : ∀ p, p < n → cv u p = V (u / q) p := by rw [u2]; exact u3
  obtain ⟨m3, hm3⟩ := m_itr_k (k := k) hml
  have r4 : m_R X N u c := hwalk m3 u u1 (by rw [u2]; exact hml) vu c c1 (by rw [u2, hm3]; exact c2) vc
  have r3 : m_R X N c u := by
    cases m with
    | zero =>
      have huc : u / q = k := u2
      exact hwalk m2 c c1 (by rw [c2]; exact hk) vc u u1 (by rw [c2, hm2, huc]) vu
    | succ m => exact hwalk m c c1 (by rw [c2]; exact hk) vc u u1 (by rw [c2]; exact u2) vu
  refine ⟨u, u1, ⟨r3, r4⟩, ?_⟩
  unfold m_cc
  rw [m_calm_congr hw hp u3]
  exact hm
end
