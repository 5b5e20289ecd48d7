/-! numbers, as the usual set of rules wants them -/
theorem m_e2 : (2 : Int32) = nI 2 := rfl
theorem m_e3 : (3 : Int32) = nI 3 := rfl
theorem m_e4 : (4 : Int32) = nI 4 := rfl
theorem m_e5 : (5 : Int32) = nI 5 := rfl
theorem m_e6 : (6 : Int32) = nI 6 := rfl
theorem m_e7 : (7 : Int32) = nI 7 := rfl
theorem m_e8 : (8 : Int32) = nI 8 := rfl
theorem m_e9 : (9 : Int32) = nI 9 := rfl
theorem m_e10 : (10 : Int32) = nI 10 := rfl
theorem m_e15 : (15 : Int32) = nI 15 := rfl
theorem m_e16 : (16 : Int32) = nI 16 := rfl
theorem m_e17 : (17 : Int32) = nI 17 := rfl
theorem m_e31 : (31 : Int32) = nI 31 := rfl
theorem m_e32 : (32 : Int32) = nI 32 := rfl
theorem m_e37 : (37 : Int32) = nI 37 := rfl
theorem m_e48 : (48 : Int32) = nI 48 := rfl
theorem m_e54 : (54 : Int32) = nI 54 := rfl
theorem m_e57 : (57 : Int32) = nI 57 := rfl
theorem m_e64 : (64 : Int32) = nI 64 := rfl
theorem m_e97 : (97 : Int32) = nI 97 := rfl
theorem m_e105 : (105 : Int32) = nI 105 := rfl
theorem m_e120 : (120 : Int32) = nI 120 := rfl
theorem m_e525 : (525 : Int32) = nI 525 := rfl
theorem m_e640 : (640 : Int32) = nI 640 := rfl
theorem m_e2048 : (2048 : Int32) = nI 2048 := rfl
theorem m_chkT {α : Type} {k : Option α} : g_chk true k = k := rfl
theorem m_0lt {a : Nat} (ha : a < 2 ^ 31) : (nI a < 0) = False := eq_false (nI_pos ha)
theorem m_0le {a : Nat} (ha : a < 2 ^ 31) : ((0 : Int32) ≤ nI a) = True := eq_true (nI_pos' ha)
theorem m_le0 {a : Nat} (ha : a < 2 ^ 31) : (nI a ≤ 0) = (a = 0) := propext ⟨fun h => Nat.eq_zero_of_not_pos fun z => nI_nle z ha h, fun h => by rw [h]; exact Int32.le_refl _⟩
theorem m_0eq {a : Nat} (ha : a < 2 ^ 31) : (nI a = 0) = (a = 0) := propext ⟨fun h => Nat.eq_zero_of_not_pos fun z => nI_ne0 z ha h, fun h => by rw [h]; rfl⟩
theorem m_pred {a : Nat} (h : 1 ≤ a) : nI a - 1 = nI (a - 1) := by
  obtain ⟨b, rfl⟩ : ∃ b, a = b + 1 := ⟨a - 1, by omega⟩
  exact nI_pred b
theorem m_1p (a : Nat) : (1 : Int32) + nI a = nI (1 + a) := nI_add 1 a
/-! rows that are copied -/
theorem m_loop (F : Nat → Int32 → (Nat → Int32) → Option (Nat → Int32)) (base e : Nat) (v : Nat → Int32) (hstep : ∀ n k A, k < e → F (n + 1) (nI k) A = F n (nI (k + 1)) (upd A (base + k) (v k))) (hend : ∀ n A, F (n + 1) (nI e) A = some A) : ∀ (d k n : Nat) (A : Nat → Int32), k + d = e → d < n → ∃ B, F n (nI k) A = some B ∧ ∀ j, B j = if base + k ≤ j ∧ j < base + e then v (j - base) else A j
  | 0, k, n + 1, A, h, _ => by
    have hk : k = e := by omega
    subst hk
    refine ⟨A, hend n A, fun j => ?_⟩
    rw [if_neg (by omega)]
  | d + 1, k, n + 1, A, h, hn => by
    obtain ⟨B, h1, h2⟩ := m_loop F base e v hstep hend d (k + 1) n (upd A (base + k) (v k)) (by omega) (by omega)
    refine ⟨B, by rw [hstep n k A (by omega)]; exact h1, fun j => ?_⟩
    rw [h2 j]
    by_cases hj : j = base + k
    · subst hj
      rw [if_neg (by omega), if_pos (by omega), pk_us, Nat.add_sub_cancel_left]
    · rw [pk_un hj]
      by_cases hr : base + (k + 1) ≤ j ∧ j < base + e
      · rw [if_pos hr, if_pos (by omega)]
      · rw [if_neg hr, if_neg (by omega)]
theorem m_shift (F : Nat → Int32 → (Nat → Int32) → Option (Nat → Int32)) (e sh : Nat) (hsh : 0 < sh) (P : (Nat → Int32) → Prop) (hP : ∀ k A x, P A → P (upd A (k + 7) x)) (lo : Nat) (hstep : ∀ n k A, lo ≤ k → k < e → P A → F (n + 1) (nI k) A = F n (nI (k + 1)) (upd A k (A (k + sh)))) (hend : ∀ n A, P A → F (n + 1) (nI e) A = some A) (hlo : 7 ≤ lo ∨ ∀ A, P A) : ∀ (d k n : Nat) (A : Nat → Int32), lo ≤ k → P A → k + d = e → d < n → ∃ B, F n (nI k) A = some B ∧ ∀ j, B j = if k ≤ j ∧ j < e then A (j + sh) else A j
  | 0, k, n + 1, A, _, hA, h, _ => by
    have hk : k = e := by omega
    subst hk
    refine ⟨A, hend n A hA, fun j => ?_⟩
    rw [if_neg (by omega)]
  | d + 1, k, n + 1, A, hk, hA, h, hn => by
    have hA2 : P (upd A k (A (k + sh))) := by
      rcases hlo with h7 | h7
      · have h8 := hP (k - 7) A (A (k + sh)) hA
        rw [show k - 7 + 7 = k by omega] at h8
        exact h8
      · exact h7 _
    obtain ⟨B, h1, h2⟩ := m_shift F e sh hsh P hP lo hstep hend hlo d (k + 1) n (upd A k (A (k + sh))) (by omega) hA2 (by omega) (by omega)
    refine ⟨B, by rw [hstep n k A hk (by omega) hA]; exact h1, fun j => ?_⟩
    rw [h2 j]
    by_cases hj : j = k
    · subst hj
      rw [if_neg (by omega), if_pos (by omega), pk_us]
    · by_cases hr : k + 1 ≤ j ∧ j < e
      · rw [if_pos hr, if_pos (by omega), pk_un (by omega)]
      · rw [if_neg hr, if_neg (by omega), pk_un hj]
theorem m_cpy {f g : Nat → Int32} {n j : Nat} (h : j < n) : va_cpy f g 0 0 n j = f j := by
  rw [pk_cpy_in (Nat.zero_le _) (by omega)]
  simp
theorem m_D_congr {le le2 : Nat → Int32} {n : Nat} (h : ∀ p, p < n → le p = le2 p) : ∀ p, p ≤ n → m_D le p = m_D le2 p
  | 0, _ => rfl
  | p + 1, hp => by
    simp only [m_D]
    rw [m_D_congr h p (by omega), h p (by omega)]
theorem m_LT_congr {le le2 : Nat → Int32} {n : Nat} (h : ∀ p, p < n → le p = le2 p) : ∀ p, p ≤ n → m_LT le p = m_LT le2 p
  | 0, _ => rfl
  | p + 1, hp => by
    simp only [m_LT]
    rw [m_LT_congr h p (by omega), h p (by omega)]
theorem m_WF_congr {le le2 : Nat → Int32} {n : Nat} (h : ∀ p, p < n → le p = le2 p) (hw : m_WF le n) : m_WF le2 n := by
  refine ⟨fun p hp => ?_, by rw [← m_D_congr h n (Nat.le_refl _)]; exact hw.2⟩
  rw [← h p hp, ← m_D_congr h p (by omega)]
  exact hw.1 p hp
/-- a formula that is copied, a row that is copied -/
theorem m_F.to {sz lt : Int32} {le le2 row row2 : Nat → Int32} (h : m_F sz lt le row) (h1 : ∀ p, p < 16 → le2 p = le p) (h2 : ∀ k, k < 17 → row2 k = row k) : m_F sz lt le2 row2 := by
  obtain ⟨n, a1, a2, a3, a4, a5, a6, a7, a8⟩ := h
  have hc : ∀ p, p < n → le p = le2 p := fun p hp => (h1 p (by omega)).symm
  refine ⟨n, a1, a2, a3, by rw [h2 0 (by omega)]; exact a4, fun p hp => ?_, m_WF_congr hc a6, ?_, ?_⟩
  · rw [h1 p (by omega), h2 (1 + p) (by omega)]
    exact a5 p hp
  · rw [← m_LT_congr hc n (Nat.le_refl _)]
    exact a7
  · rw [← m_LT_congr hc n (Nat.le_refl _)]
    exact a8
theorem m_W.to {states moveCount : Int32} {stateLabel moveActor moveFrom moveTo : Nat → Int32} {csz clt : Int32} {cle ssz slt : Nat → Int32} {sle : Nat → Nat → Int32} {row : Nat → Int32} (h : m_W states moveCount stateLabel moveActor moveFrom moveTo csz clt cle ssz slt sle row) {stateLabel2 moveActor2 moveFrom2 moveTo2 cle2 ssz2 slt2 : Nat → Int32} {sle2 : Nat → Nat → Int32} {row2 : Nat → Int32}
    (h1 : ∀ j, j < 5 → stateLabel2 j = stateLabel j) (h2 : ∀ j, j < 10 → moveActor2 j = moveActor j) (h3 : ∀ j, j < 10 → moveFrom2 j = moveFrom j) (h4 : ∀ j, j < 10 → moveTo2 j = moveTo j) (h5 : ∀ j, j < 16 → cle2 j = cle j) (h6 : ∀ i, i < 3 → ssz2 i = ssz i ∧ slt2 i = slt i ∧ ∀ j, j < 16 → sle2 i j = sle i j) (h7 : ∀ k, k < 105 → row2 k = row k) : m_W states moveCount stateLabel2 moveActor2 moveFrom2 moveTo2 csz clt cle2 ssz2 slt2 sle2 row2 := by
  obtain ⟨⟨s, b1, b2, b3, b4, mv, c1, c2, c3, c4⟩, d1, d2⟩ := h
  refine ⟨⟨s, b1, b2, by rw [h7 0 (by omega)]; exact b3, fun j hj => ?_, mv, c1, c2, by rw [h7 6 (by omega)]; exact c3, fun j hj => ?_⟩, d1.to h5 (fun k hk => h7 _ (by omega)), fun i hi => ?_⟩
  · rw [h1 j (by omega), h7 (1 + j) (by omega)]
    exact b4 j hj
  · rw [h2 j (by omega), h3 j (by omega), h4 j (by omega), h7 (7 + 3 * j) (by omega), h7 (7 + 3 * j + 1) (by omega), h7 (7 + 3 * j + 2) (by omega)]
    exact c4 j hj
  · rw [(h6 i hi).1, (h6 i hi).2.1]
    exact (d2 i hi).to (h6 i hi).2.2 (fun k hk => h7 _ (by omega))
set_option maxRecDepth 20000 in
theorem m_copy_l1 (x_ssz x_slt : Nat → Int32) (x_sle : Nat → Nat → Int32) (a b : Nat → Int32) (c : Nat → Nat → Int32) : W_copy_l1 x_ssz x_slt x_sle m_N 0 a b c = some (va_up (va_up (va_up a 0 (x_ssz 0)) 1 (x_ssz 1)) 2 (x_ssz 2), va_up (va_up (va_up b 0 (x_slt 0)) 1 (x_slt 1)) 2 (x_slt 2), va_up (va_up (va_up c 0 (va_cpy (x_sle 0) (c 0) 0 0 16)) 1 (va_cpy (x_sle 1) (c 1) 0 0 16)) 2 (va_cpy (x_sle 2) (c 2) 0 0 16)) := by
  rw [show m_N = 4996 + 1 + 1 + 1 + 1 from rfl, W_copy_l1_s, if_neg (by decide), m_chk (by decide), m_chk (by decide)]
  simp only [F_F_copy, Option.bind_some]
  rw [W_copy_l1_s, if_neg (by decide), m_chk (by decide), m_chk (by decide)]
  simp only [F_F_copy, Option.bind_some]
  rw [W_copy_l1_s, if_neg (by decide), m_chk (by decide), m_chk (by decide)]
  simp only [F_F_copy, Option.bind_some]
  rw [W_copy_l1_s, if_pos (by decide)]
  rfl
/-- World.copy -/
theorem m_copy {states moveCount : Int32} {stateLabel moveActor moveFrom moveTo : Nat → Int32} {csz clt : Int32} {cle ssz slt : Nat → Int32} {sle : Nat → Nat → Int32} {row : Nat → Int32} (h : m_W states moveCount stateLabel moveActor moveFrom moveTo csz clt cle ssz slt sle row) (sl ma mf mt le a b : Nat → Int32) (c : Nat → Nat → Int32) : ∃ o, F_W_copy m_N sl ma mf mt le a b c states moveCount stateLabel moveActor moveFrom moveTo csz clt cle ssz slt sle = some o ∧ o.1 = states ∧ m_W o.1 o.2.1 o.2.2.1 o.2.2.2.1 o.2.2.2.2.1 o.2.2.2.2.2.1 o.2.2.2.2.2.2.1 o.2.2.2.2.2.2.2.1 o.2.2.2.2.2.2.2.2.1 o.2.2.2.2.2.2.2.2.2.1 o.2.2.2.2.2.2.2.2.2.2.1 o.2.2.2.2.2.2.2.2.2.2.2 row := by
  refine ⟨(states, moveCount, va_cpy stateLabel sl 0 0 5, va_cpy moveActor ma 0 0 10, va_cpy moveFrom mf 0 0 10, va_cpy moveTo mt 0 0 10, csz, clt, va_cpy cle le 0 0 16, va_up (va_up (va_up a 0 (ssz 0)) 1 (ssz 1)) 2 (ssz 2), va_up (va_up (va_up b 0 (slt 0)) 1 (slt 1)) 2 (slt 2), va_up (va_up (va_up c 0 (va_cpy (sle 0) (c 0) 0 0 16)) 1 (va_cpy (sle 1) (c 1) 0 0 16)) 2 (va_cpy (sle 2) (c 2) 0 0 16)), by simp only [F_W_copy, F_W_copySystem, F_F_copy, Option.bind_some, m_copy_l1], rfl, ?_⟩
  refine h.to (fun j hj => m_cpy hj) (fun j hj => m_cpy hj) (fun j hj => m_cpy hj) (fun j hj => m_cpy hj) (fun j hj => m_cpy hj) (fun i hi => ?_) (fun k _ => rfl)
  rcases (show i = 0 ∨ i = 1 ∨ i = 2 by omega) with rfl | rfl | rfl
  · exact ⟨rfl, rfl, fun j hj => m_cpy hj⟩
  · exact ⟨rfl, rfl, fun j hj => m_cpy hj⟩
  · exact ⟨rfl, rfl, fun j hj => m_cpy hj⟩
/-- the reference's undo, keep, back: rows of 105 -/
theorem m_undo_l1 (u : Nat) (hu : 1 ≤ u ∧ u ≤ 6) (past now : Nat → Int32) : ∃ B, M_undo_l1 (nI u) past m_N 0 now = some B ∧ ∀ j, j < 105 → B j = past (105 * (u - 1) + j) := by
  have hs : ∀ n k A, k < 105 → M_undo_l1 (nI u) past (n + 1) (nI k) A = M_undo_l1 (nI u) past n (nI (k + 1)) (upd A (0 + k) (past (105 * (u - 1) + k))) := fun n k A hk => by
    simp (disch := omega) only [M_undo_l1_s, Nat.zero_add, if_true, if_false, m_lt, m_le, m_eq, m_0lt, m_0le, m_le0, m_0eq, if_pos, if_neg, pk_mul, nI_add, nI_1, m_1p, m_pred, m_inb, m_chkT, nI_clamp, Option.bind_some, decide_true, m_e2, m_e3, m_e4, m_e5, m_e6, m_e7, m_e8, m_e9, m_e10, m_e15, m_e16, m_e17, m_e31, m_e32, m_e37, m_e48, m_e54, m_e57, m_e64, m_e97, m_e105, m_e120, m_e525, m_e640, m_e2048]
  have he : ∀ n A, M_undo_l1 (nI u) past (n + 1) (nI 105) A = some A := fun n A => by
    rw [M_undo_l1_s, if_pos (by decide)]
  obtain ⟨B, h1, h2⟩ := m_loop (M_undo_l1 (nI u) past) 0 105 (fun k => past (105 * (u - 1) + k)) hs he 105 0 m_N now rfl (by decide)
  exact ⟨B, h1, fun j hj => by rw [h2 j, if_pos (by omega)]; rfl⟩
theorem m_keep_l1 (i : Nat) (hi : i < 2) (now images : Nat → Int32) : ∃ B, M_keep_l1 (nI i) now m_N 0 images = some B ∧ ∀ j, B j = if 105 * i ≤ j ∧ j < 105 * i + 105 then now (j - 105 * i) else images j := by
  have hs : ∀ n k A, k < 105 → M_keep_l1 (nI i) now (n + 1) (nI k) A = M_keep_l1 (nI i) now n (nI (k + 1)) (upd A (105 * i + k) (now k)) := fun n k A hk => by
    simp (disch := omega) only [M_keep_l1_s, Nat.zero_add, if_true, if_false, m_lt, m_le, m_eq, m_0lt, m_0le, m_le0, m_0eq, if_pos, if_neg, pk_mul, nI_add, nI_1, m_1p, m_pred, m_inb, m_chkT, nI_clamp, Option.bind_some, decide_true, m_e2, m_e3, m_e4, m_e5, m_e6, m_e7, m_e8, m_e9, m_e10, m_e15, m_e16, m_e17, m_e31, m_e32, m_e37, m_e48, m_e54, m_e57, m_e64, m_e97, m_e105, m_e120, m_e525, m_e640, m_e2048]
  have he : ∀ n A, M_keep_l1 (nI i) now (n + 1) (nI 105) A = some A := fun n A => by
    rw [M_keep_l1_s, if_pos (by decide)]
  obtain ⟨B, h1, h2⟩ := m_loop (M_keep_l1 (nI i) now) (105 * i) 105 now hs he 105 0 m_N images rfl (by decide)
  exact ⟨B, h1, fun j => by rw [h2 j]; rfl⟩
theorem m_back_l1 (i : Nat) (hi : i < 2) (images now : Nat → Int32) : ∃ B, M_back_l1 (nI i) images m_N 0 now = some B ∧ ∀ j, j < 105 → B j = images (105 * i + j) := by
  have hs : ∀ n k A, k < 105 → M_back_l1 (nI i) images (n + 1) (nI k) A = M_back_l1 (nI i) images n (nI (k + 1)) (upd A (0 + k) (images (105 * i + k))) := fun n k A hk => by
    simp (disch := omega) only [M_back_l1_s, Nat.zero_add, if_true, if_false, m_lt, m_le, m_eq, m_0lt, m_0le, m_le0, m_0eq, if_pos, if_neg, pk_mul, nI_add, nI_1, m_1p, m_pred, m_inb, m_chkT, nI_clamp, Option.bind_some, decide_true, m_e2, m_e3, m_e4, m_e5, m_e6, m_e7, m_e8, m_e9, m_e10, m_e15, m_e16, m_e17, m_e31, m_e32, m_e37, m_e48, m_e54, m_e57, m_e64, m_e97, m_e105, m_e120, m_e525, m_e640, m_e2048]
  have he : ∀ n A, M_back_l1 (nI i) images (n + 1) (nI 105) A = some A := fun n A => by
    rw [M_back_l1_s, if_pos (by decide)]
  obtain ⟨B, h1, h2⟩ := m_loop (M_back_l1 (nI i) images) 0 105 (fun k => images (105 * i + k)) hs he 105 0 m_N now rfl (by decide)
  exact ⟨B, h1, fun j hj => by rw [h2 j, if_pos (by omega)]; rfl⟩
