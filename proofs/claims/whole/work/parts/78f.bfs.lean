/-! gone through by steps -/
def m_Rc (Src : Nat → Prop) (Sc : Nat → Nat → Prop) : Nat → Nat → Prop
  | 0, x => Src x
  | l + 1, y => ∃ x, m_Rc Src Sc l x ∧ Sc x y
/-- a row of states come to, the first i gone on from; of the next one those in Dn are seen -/
def m_bf (Src : Nat → Prop) (Sc : Nat → Nat → Prop) (B i e : Nat) (Dn : Nat → Prop) (ln : Nat → Nat) (S : Nat → Bool) (r : Nat → Nat) : Prop := (∀ j, j < e → S (ln j) = true) ∧ (∀ x, S x = true → x < B ∧ ∃ j, j < e ∧ ln j = x) ∧ (∀ x, S x = true → m_Rc Src Sc (r x) x) ∧ (∀ j j', j ≤ j' → j' < e → r (ln j) ≤ r (ln j')) ∧ (i < e → ∀ j, j < e → r (ln j) ≤ r (ln i) + 1) ∧ (∀ j, j < i → ∀ y, Sc (ln j) y → S y = true ∧ r y ≤ r (ln j) + 1) ∧ (∀ x, Src x → S x = true ∧ r x = 0) ∧ e = m_cnt S B ∧ (∀ j, j < e → r (ln j) ≤ j) ∧ (∀ y, Dn y → S y = true ∧ r y ≤ r (ln i) + 1) ∧ i ≤ e
section
variable {Src : Nat → Prop} {Sc : Nat → Nat → Prop} {B i e : Nat} {Dn : Nat → Prop} {ln : Nat → Nat} {S : Nat → Bool} {r : Nat → Nat}
theorem m_bf_e (h : m_bf Src Sc B i e Dn ln S r) : e ≤ B := by
  have := m_cnt_le S B
  have := h.2.2.2.2.2.2.2.1
  omega
theorem m_bf_room (h : m_bf Src Sc B i e Dn ln S r) {y : Nat} (hy : y < B) (hS : S y = false) : e + 1 ≤ B := by
  have h1 := m_cnt_set S hS B hy
  have h2 := m_cnt_le (fun j => if j = y then true else S j) B
  have := h.2.2.2.2.2.2.2.1
  omega
theorem m_bf_seen (h : m_bf Src Sc B i e Dn ln S r) (hi : i < e) {y : Nat} (hS : S y = true) : r y ≤ r (ln i) + 1 := by
  obtain ⟨-, j, h1, h2⟩ := h.2.1 y hS
  rw [← h2]
  exact h.2.2.2.2.1 hi j h1
theorem m_bf_dn (h : m_bf Src Sc B i e Dn ln S r) (Dn' : Nat → Prop) (hD : ∀ y, Dn' y → Dn y ∨ (S y = true ∧ r y ≤ r (ln i) + 1)) : m_bf Src Sc B i e Dn' ln S r := by
  obtain ⟨b1, b2, b3, b4, b5, b6, b7, b8, b9, b10, b11⟩ := h
  refine ⟨b1, b2, b3, b4, b5, b6, b7, b8, b9, fun y hy => ?_, b11⟩
  rcases hD y hy with z | z
  · exact b10 y z
  · exact z
theorem m_bf_push (h : m_bf Src Sc B i e Dn ln S r) (hi : i < e) {y : Nat} (hy : y < B) (hS : S y = false) (hsc : Sc (ln i) y) : m_bf Src Sc B i (e + 1) (fun z => Dn z ∨ z = y) (fun j => if j = e then y else ln j) (fun x => if x = y then true else S x) (fun x => if x = y then r (ln i) + 1 else r x) := by
  obtain ⟨b1, b2, b3, b4, b5, b6, b7, b8, b9, b10, b11⟩ := h
  have hne : ∀ j, j < e → ¬ ln j = y := fun j hj z => by
    have := b1 j hj
    rw [z, hS] at this
    cases this
  have hln : ∀ j, j < e → (if j = e then y else ln j) = ln j := fun j hj => if_neg (by omega)
  have hrl : ∀ j, j < e → (if ln j = y then r (ln i) + 1 else r (ln j)) = r (ln j) := fun j hj => if_neg (hne j hj)
  have hSx : ∀ x, S x = true → (if x = y then true else S x) = true := fun x hx => by
    by_cases z : x = y
    · rw [if_pos z]
    · rw [if_neg z]
      exact hx
  have hrx : ∀ x, S x = true → (if x = y then r (ln i) + 1 else r x) = r x := fun x hx => if_neg fun z => by
    rw [z, hS] at hx
    cases hx
  refine ⟨fun j hj => ?_, fun x hx => ?_, fun x hx => ?_, fun j j' hj hj' => ?_, fun _ j hj => ?_, fun j hj z hz => ?_, fun x hx => ?_, ?_, fun j hj => ?_, fun z hz => ?_, by omega⟩
  · by_cases he : j = e
    · show (if (if j = e then y else ln j) = y then true else S (if j = e then y else ln j)) = true
      rw [if_pos he, if_pos rfl]
    · show (if (if j = e then y else ln j) = y then true else S (if j = e then y else ln j)) = true
      rw [hln j (by omega)]
      exact hSx _ (b1 j (by omega))
  · by_cases he : x = y
    · subst he
      exact ⟨hy, e, by omega, if_pos rfl⟩
    · have hx' : S x = true := by
        have : (if x = y then true else S x) = true := hx
        rw [if_neg he] at this
        exact this
      obtain ⟨z1, j, z2, z3⟩ := b2 x hx'
      exact ⟨z1, j, by omega, by show (if j = e then y else ln j) = x; rw [hln j z2]; exact z3⟩
  · by_cases he : x = y
    · subst he
      show m_Rc Src Sc (if x = x then r (ln i) + 1 else r x) x
      rw [if_pos rfl]
      exact ⟨ln i, b3 _ (b1 i hi), hsc⟩
    · have hx' : S x = true := by
        have : (if x = y then true else S x) = true := hx
        rw [if_neg he] at this
        exact this
      show m_Rc Src Sc (if x = y then r (ln i) + 1 else r x) x
      rw [if_neg he]
      exact b3 x hx'
  · show (if (if j = e then y else ln j) = y then r (ln i) + 1 else r (if j = e then y else ln j)) ≤ (if (if j' = e then y else ln j') = y then r (ln i) + 1 else r (if j' = e then y else ln j'))
    by_cases he' : j' = e
    · rw [if_pos he', if_pos rfl]
      by_cases he : j = e
      · rw [if_pos he, if_pos rfl]
        exact Nat.le_refl _
      · rw [hln j (by omega), hrl j (by omega)]
        exact b5 hi j (by omega)
    · rw [hln j (by omega), hrl j (by omega), hln j' (by omega), hrl j' (by omega)]
      exact b4 j j' hj (by omega)
  · show (if (if j = e then y else ln j) = y then r (ln i) + 1 else r (if j = e then y else ln j)) ≤ (if (if i = e then y else ln i) = y then r (ln i) + 1 else r (if i = e then y else ln i)) + 1
    rw [hln i hi, hrl i hi]
    by_cases he : j = e
    · rw [if_pos he, if_pos rfl]
      exact Nat.le_refl _
    · rw [hln j (by omega), hrl j (by omega)]
      exact b5 hi j (by omega)
  · have hz' : Sc (ln j) z := by
      have h9 : Sc (if j = e then y else ln j) z := hz
      rw [hln j (by omega)] at h9
      exact h9
    obtain ⟨z1, z2⟩ := b6 j hj z hz'
    refine ⟨hSx z z1, ?_⟩
    show (if z = y then r (ln i) + 1 else r z) ≤ (if (if j = e then y else ln j) = y then r (ln i) + 1 else r (if j = e then y else ln j)) + 1
    rw [hrx z z1, hln j (by omega), hrl j (by omega)]
    exact z2
  · obtain ⟨z1, z2⟩ := b7 x hx
    exact ⟨hSx x z1, by show (if x = y then r (ln i) + 1 else r x) = 0; rw [hrx x z1]; exact z2⟩
  · rw [m_cnt_set S hS B hy, b8]
  · show (if (if j = e then y else ln j) = y then r (ln i) + 1 else r (if j = e then y else ln j)) ≤ j
    by_cases he : j = e
    · rw [if_pos he, if_pos rfl]
      have := b9 i hi
      omega
    · rw [hln j (by omega), hrl j (by omega)]
      exact b9 j (by omega)
  · show (if z = y then true else S z) = true ∧ (if z = y then r (ln i) + 1 else r z) ≤ (if (if i = e then y else ln i) = y then r (ln i) + 1 else r (if i = e then y else ln i)) + 1
    rw [hln i hi, hrl i hi]
    by_cases he : z = y
    · rw [if_pos he, if_pos he]
      exact ⟨rfl, Nat.le_refl _⟩
    · rcases hz with hz | hz
      · obtain ⟨z1, z2⟩ := b10 z hz
        rw [hrx z z1]
        exact ⟨hSx z z1, z2⟩
      · exact absurd hz he
theorem m_bf_next (h : m_bf Src Sc B i e Dn ln S r) (hi : i < e) (hD : ∀ y, Sc (ln i) y → Dn y) : m_bf Src Sc B (i + 1) e (fun _ => False) ln S r := by
  obtain ⟨b1, b2, b3, b4, b5, b6, b7, b8, b9, b10, b11⟩ := h
  refine ⟨b1, b2, b3, b4, fun hie j hj => ?_, fun j hj y hy => ?_, b7, b8, b9, fun y hy => hy.elim, by omega⟩
  · have h1 := b5 hi j hj
    have h2 := b4 i (i + 1) (by omega) hie
    omega
  · by_cases he : j = i
    · subst he
      exact b10 y (hD y hy)
    · exact b6 j (by omega) y hy
theorem m_bf_le (h : m_bf Src Sc B i e Dn ln S r) (hi : i < e) : ∀ l x, m_Rc Src Sc l x → l ≤ r (ln i) → S x = true ∧ r x ≤ l
  | 0, x, hx, _ => by
    obtain ⟨z1, z2⟩ := h.2.2.2.2.2.2.1 x hx
    exact ⟨z1, by omega⟩
  | l + 1, x, ⟨y, hy, hs⟩, hl => by
    obtain ⟨z1, z2⟩ := m_bf_le h hi l y hy (by omega)
    obtain ⟨-, j, j1, j2⟩ := h.2.1 y z1
    have hji : j < i := by
      refine Nat.lt_of_not_le fun z => ?_
      have := h.2.2.2.1 i j z j1
      rw [j2] at this
      omega
    have := h.2.2.2.2.2.1 j hji x (by rw [j2]; exact hs)
    rw [j2] at this
    exact ⟨this.1, by omega⟩
theorem m_bf_end (h : m_bf Src Sc B i e Dn ln S r) (hi : e ≤ i) : ∀ l x, m_Rc Src Sc l x → S x = true ∧ r x ≤ l
  | 0, x, hx => by
    obtain ⟨z1, z2⟩ := h.2.2.2.2.2.2.1 x hx
    exact ⟨z1, by omega⟩
  | l + 1, x, ⟨y, hy, hs⟩ => by
    obtain ⟨z1, z2⟩ := m_bf_end h hi l y hy
    obtain ⟨-, j, j1, j2⟩ := h.2.1 y z1
    have := h.2.2.2.2.2.1 j (by omega) x (by rw [j2]; exact hs)
    rw [j2] at this
    exact ⟨this.1, by omega⟩
end
/-- the rows that hold it -/
def m_bfI (B e : Nat) (ln : Nat → Nat) (S : Nat → Bool) (r : Nat → Nat) (line rd : Nat → Int32) : Prop := (∀ j, j < e → line j = nI (ln j)) ∧ ∀ x, x < B → rd x = if S x = true then nI (r x) else -9
theorem m_bfI_push {B e : Nat} {ln : Nat → Nat} {S : Nat → Bool} {r : Nat → Nat} {line rd : Nat → Int32} (h : m_bfI B e ln S r line rd) (y d : Nat) : m_bfI B (e + 1) (fun j => if j = e then y else ln j) (fun x => if x = y then true else S x) (fun x => if x = y then d else r x) (upd line e (nI y)) (upd rd y (nI d)) := by
  refine ⟨fun j hj => ?_, fun x hx => ?_⟩
  · by_cases he : j = e
    · subst he
      rw [pk_us]
      show _ = nI (if j = j then y else ln j)
      rw [if_pos rfl]
    · rw [pk_un he]
      show _ = nI (if j = e then y else ln j)
      rw [if_neg he]
      exact h.1 j (by omega)
  · show upd rd y (nI d) x = if (if x = y then true else S x) = true then nI (if x = y then d else r x) else -9
    by_cases he : x = y
    · subst he
      rw [pk_us, if_pos rfl, if_pos rfl, if_pos rfl]
    · rw [pk_un he, if_neg he, if_neg he]
      exact h.2 x hx
theorem m_n9 {n : Nat} (h : n < 2 ^ 31) : ¬ nI n = -9 := fun z => nI_pos h (by rw [z]; decide)
theorem m_itE {σ ρ τ : Type} (L : Nat → Nat → σ → Option (ρ ⊕ τ)) (out : σ → τ) (B : Nat) (Inv : Nat → σ → Prop) (Ex : ρ → Prop) (hend : ∀ n s, Inv B s → L (n + 1) B s = some (.inr (out s))) (hstep : ∀ n i s, i < B → Inv i s → (∃ s', Inv (i + 1) s' ∧ L (n + 1) i s = L n (i + 1) s') ∨ ∃ x, Ex x ∧ L (n + 1) i s = some (.inl x)) : ∀ (d i n : Nat) (s : σ), i + d = B → d < n → Inv i s → (∃ s', L n i s = some (.inr (out s')) ∧ Inv B s') ∨ ∃ x, Ex x ∧ L n i s = some (.inl x)
  | 0, i, n + 1, s, h, _, hI => by
    have hi : i = B := by omega
    subst hi
    exact Or.inl ⟨s, hend n s hI, hI⟩
  | d + 1, i, n + 1, s, h, hn, hI => by
    rcases hstep n i s (by omega) hI with ⟨s', h1, h2⟩ | ⟨x, h1, h2⟩
    · rcases m_itE L out B Inv Ex hend hstep d (i + 1) n s' (by omega) (by omega) h1 with ⟨s2, h3, h4⟩ | ⟨x, h3, h4⟩
      · exact Or.inl ⟨s2, h2.trans h3, h4⟩
      · exact Or.inr ⟨x, h3, h2.trans h4⟩
    · exact Or.inr ⟨x, h1, h2⟩
