/-! numbers -/
abbrev m_N : Nat := 5000
theorem m_inb {n N : Nat} (h : n < N) (hN : N < 2 ^ 31) : g_inb (nI n) N = true := by
  simp only [g_inb, Bool.and_eq_true, Bool.not_eq_true', decide_eq_false_iff_not, decide_eq_true_eq]
  exact ⟨nI_pos (by omega), by rw [nI_clamp (by omega)]; exact h⟩
theorem m_chk {α : Type} {b : Bool} {k : Option α} (h : b = true) : g_chk b k = k := by rw [h]; rfl
theorem m_neg {x : Int32} (h : ¬ x < 0) : ∃ j : Nat, j < 2 ^ 31 ∧ x = nI j := nI_of h
/-- an int below zero, or a number -/
theorem m_case (x : Int32) : x < 0 ∨ ∃ j : Nat, j < 2 ^ 31 ∧ x = nI j := by
  by_cases h : x < 0
  · exact Or.inl h
  · exact Or.inr (nI_of h)
theorem m_ltn {x : Int32} (h : x < 0) {n : Nat} (hn : n < 2 ^ 31) : ¬ nI n ≤ x := fun z => by
  have h1 := Int32.lt_iff_toInt_lt.mp h
  have h2 := Int32.le_iff_toInt_le.mp z
  rw [nI_toInt hn] at h2
  have h3 : (0 : Int32).toInt = 0 := rfl
  rw [h3] at h1
  omega
theorem m_ne {x : Int32} (h : x < 0) {n : Nat} (hn : n < 2 ^ 31) : ¬ x = nI n := fun z => m_ltn h hn (by rw [z]; exact Int32.le_refl _)
theorem m_lt {a b : Nat} (ha : a < 2 ^ 31) (hb : b < 2 ^ 31) : (nI a < nI b) = (a < b) := propext (nI_ltI ha hb)
theorem m_le {a b : Nat} (ha : a < 2 ^ 31) (hb : b < 2 ^ 31) : (nI a ≤ nI b) = (a ≤ b) := propext (nI_leI ha hb)
theorem m_eq {a b : Nat} (ha : a < 2 ^ 31) (hb : b < 2 ^ 31) : (nI a = nI b) = (a = b) := propext (nI_eq ha hb)
theorem m_bt {f : Nat → Int32} {k : Nat} {x : Int32} : upd f k x k = x := pk_us
/-- what a formula's letter is: how many parts stand in it; -1: no letter -/
def m_ar (c : Int32) : Int := if c = 48 ∨ c = 49 ∨ c = 97 ∨ c = 98 ∨ c = 99 then 0 else if c = 110 ∨ c = 120 ∨ c = 102 ∨ c = 103 then 1 else if c = 107 ∨ c = 111 ∨ c = 117 then 2 else -1
def m_lat (c : Int32) : Prop := c = 120 ∨ c = 102 ∨ c = 103 ∨ c = 117
/-- how many parts are still due ahead of letter p -/
def m_D (le : Nat → Int32) : Nat → Int
  | 0 => 1
  | p + 1 => m_D le p + m_ar (le p) - 1
/-- how many later ones stand ahead of p -/
def m_LT (le : Nat → Int32) : Nat → Nat
  | 0 => 0
  | p + 1 => m_LT le p + (if (le p = 120 ∨ le p = 102 ∨ le p = 103 ∨ le p = 117) then 1 else 0)
def m_WF (le : Nat → Int32) (n : Nat) : Prop := (∀ p, p < n → 0 ≤ m_ar (le p) ∧ 1 ≤ m_D le p) ∧ m_D le n = 0
/-- a formula: of the class (size, laters, letters), of the reference (a row: size, letters) -/
def m_F (sz lt : Int32) (le : Nat → Int32) (row : Nat → Int32) : Prop := ∃ n : Nat, 1 ≤ n ∧ n ≤ 16 ∧ sz = nI n ∧ row 0 = nI n ∧ (∀ p, p < n → le p = row (1 + p)) ∧ m_WF le n ∧ lt = nI (m_LT le n) ∧ m_LT le n ≤ 3
def m_W (states moveCount : Int32) (stateLabel moveActor moveFrom moveTo : Nat → Int32) (csz clt : Int32) (cle : Nat → Int32) (ssz slt : Nat → Int32) (sle : Nat → Nat → Int32) (row : Nat → Int32) : Prop :=
  (∃ s : Nat, s ≤ 5 ∧ states = nI s ∧ row 0 = nI s ∧ (∀ j, j < s → stateLabel j = row (1 + j) ∧ ∃ c : Nat, c ≤ 7 ∧ row (1 + j) = nI c) ∧
    ∃ mv : Nat, mv ≤ 10 ∧ moveCount = nI mv ∧ row 6 = nI mv ∧ ∀ j, j < mv → moveActor j = row (7 + 3 * j) ∧ moveFrom j = row (7 + 3 * j + 1) ∧ moveTo j = row (7 + 3 * j + 2) ∧ (∃ c : Nat, c ≤ 1 ∧ row (7 + 3 * j) = nI c) ∧ (∃ c : Nat, c < s ∧ row (7 + 3 * j + 1) = nI c) ∧ ∃ c : Nat, c < s ∧ row (7 + 3 * j + 2) = nI c) ∧
  m_F csz clt cle (fun k => row (37 + k)) ∧ ∀ i, i < 3 → m_F (ssz i) (slt i) (sle i) (fun k => row (54 + 17 * i + k))
def m_IT (typed : Nat → Int32) (cnt letters : Int32) (text : Nat → Int32) : Prop := ∃ n : Nat, n ≤ 120 ∧ cnt = nI n ∧ letters = nI n ∧ ∀ j, j < n → typed j = text j ∧ ∃ c : Nat, c ≤ 255 ∧ text j = nI c
def m_IS (shown : Nat → Int32) (cnt showing : Int32) (shown2 : Nat → Int32) : Prop := ∃ n : Nat, n ≤ 8 ∧ cnt = nI n ∧ showing = nI n ∧ ∀ j, j < n → shown j = shown2 j ∧ ∃ c : Nat, c ≤ 7 ∧ shown2 j = nI c
def m_IP (ix : Nat → Nat) (states moveCount : Nat → Int32) (stateLabel moveActor moveFrom moveTo : Nat → Nat → Int32) (csz clt : Nat → Int32) (cle : Nat → Nat → Int32) (ssz slt : Nat → Nat → Int32) (sle : Nat → Nat → Nat → Int32) (cnt undone : Int32) (past : Nat → Int32) : Prop := ∃ u : Nat, u ≤ 6 ∧ cnt = nI u ∧ undone = nI u ∧ (∀ j, j < 6 → ix j < 6) ∧ (∀ i j, i < 6 → j < 6 → ix i = ix j → i = j) ∧ ∀ j, j < u → m_W (states (ix j)) (moveCount (ix j)) (stateLabel (ix j)) (moveActor (ix j)) (moveFrom (ix j)) (moveTo (ix j)) (csz (ix j)) (clt (ix j)) (cle (ix j)) (ssz (ix j)) (slt (ix j)) (sle (ix j)) (fun k => past (105 * j + k))
def m_II (kept : Nat → Int32) (states moveCount : Nat → Int32) (stateLabel moveActor moveFrom moveTo : Nat → Nat → Int32) (csz clt : Nat → Int32) (cle : Nat → Nat → Int32) (ssz slt : Nat → Nat → Int32) (sle : Nat → Nat → Nat → Int32) (isKept images : Nat → Int32) : Prop := ∀ i, i < 2 → (kept i = 0 ∧ isKept i = 0) ∨ (kept i = 1 ∧ isKept i = 1 ∧ m_W (states i) (moveCount i) (stateLabel i) (moveActor i) (moveFrom i) (moveTo i) (csz i) (clt i) (cle i) (ssz i) (slt i) (sle i) (fun k => images (105 * i + k)))
def m_Rel (hl hm : List g_E) : Prop := ∃ (l_typed : Nat → Int32) (l_shown : Nat → Int32) (l_kept : Nat → Int32) (r_length : Int32) (r_place : Int32) (r_start : Int32) (r_kind : Int32) (r_value : Int32) (d_label : Nat → Int32) (d_tg : Nat → Nat → Int32) (d_places : Int32) (t_guesses : Int32) (t_nodes : Int32) (t_all : Int64) (t_np0 : Int64) (t_so : Nat → Int64) (t_laters : Int32) (t_waiting : Nat → Int64) (t_meanwhile : Nat → Int64) (t_goal : Nat → Int64) (t_atNext : Nat → Int32) (t_steps : Nat → Nat → Int64) (t_due : Int32) (t_met : Nat → Int32) (t_mbs : Nat → Int32) (t_reach : Nat → Int64) (t_ring : Nat → Int64) (t_core : Int64) (t_live : Int64) (s_length : Int32) (s_entry : Int32) (s_entryPlace : Int32) (s_seen : Nat → Int64) (s_front : Nat → Int64) (s_next : Nat → Int64) (n_states : Int32) (n_moveCount : Int32) (n_stateLabel : Nat → Int32) (n_moveActor : Nat → Int32) (n_moveFrom : Nat → Int32) (n_moveTo : Nat → Int32) (n_csz : Int32) (n_clt : Int32) (n_cle : Nat → Int32) (n_ssz : Nat → Int32) (n_slt : Nat → Int32) (n_sle : Nat → Nat → Int32) (z_states : Int32) (z_moveCount : Int32) (z_stateLabel : Nat → Int32) (z_moveActor : Nat → Int32) (z_moveFrom : Nat → Int32) (z_moveTo : Nat → Int32) (z_csz : Int32) (z_clt : Int32) (z_cle : Nat → Int32) (z_ssz : Nat → Int32) (z_slt : Nat → Int32) (z_sle : Nat → Nat → Int32) (p_ix : Nat → Nat) (p_states : Nat → Int32) (p_moveCount : Nat → Int32) (p_stateLabel : Nat → Nat → Int32) (p_moveActor : Nat → Nat → Int32) (p_moveFrom : Nat → Nat → Int32) (p_moveTo : Nat → Nat → Int32) (p_csz : Nat → Int32) (p_clt : Nat → Int32) (p_cle : Nat → Nat → Int32) (p_ssz : Nat → Nat → Int32) (p_slt : Nat → Nat → Int32) (p_sle : Nat → Nat → Nat → Int32) (i_states : Nat → Int32) (i_moveCount : Nat → Int32) (i_stateLabel : Nat → Nat → Int32) (i_moveActor : Nat → Nat → Int32) (i_moveFrom : Nat → Nat → Int32) (i_moveTo : Nat → Nat → Int32) (i_csz : Nat → Int32) (i_clt : Nat → Int32) (i_cle : Nat → Nat → Int32) (i_ssz : Nat → Nat → Int32) (i_slt : Nat → Nat → Int32) (i_sle : Nat → Nat → Nat → Int32) (l_typedCount : Int32) (l_shownCount : Int32) (l_pastCount : Int32) (f_undone : Int32) (f_letters : Int32) (f_showing : Int32) (f_spot : Int32) (f_tokenAt : Int32) (f_value : Int32) (f_laters : Int32) (f_places : Int32) (f_guesses : Int32) (f_ways : Int32) (f_now : Nat → Int32) (f_past : Nat → Int32) (f_images : Nat → Int32) (f_isKept : Nat → Int32) (f_text : Nat → Int32) (f_shown : Nat → Int32) (f_read : Nat → Int32) (f_letter : Nat → Int32) (f_sizes : Nat → Int32) (f_laterNumber : Nat → Int32) (f_many : Nat → Int32) (f_labelAt : Nat → Int32) (f_soAt : Nat → Int32) (f_meets : Nat → Int32) (f_wayFrom : Nat → Int32) (f_wayTo : Nat → Int32) (f_wayBy : Nat → Int32) (f_reach : Nat → Int64) (f_goesOn : Nat → Int32) (f_far : Nat → Int32) (f_round : Nat → Int32) (f_line : Nat → Int32) (f_guessAt : Nat → Int32), hl = HL l_typed l_shown l_kept r_length r_place r_start r_kind r_value d_label d_tg d_places t_guesses t_nodes t_all t_np0 t_so t_laters t_waiting t_meanwhile t_goal t_atNext t_steps t_due t_met t_mbs t_reach t_ring t_core t_live s_length s_entry s_entryPlace s_seen s_front s_next n_states n_moveCount n_stateLabel n_moveActor n_moveFrom n_moveTo n_csz n_clt n_cle n_ssz n_slt n_sle z_states z_moveCount z_stateLabel z_moveActor z_moveFrom z_moveTo z_csz z_clt z_cle z_ssz z_slt z_sle p_ix p_states p_moveCount p_stateLabel p_moveActor p_moveFrom p_moveTo p_csz p_clt p_cle p_ssz p_slt p_sle i_states i_moveCount i_stateLabel i_moveActor i_moveFrom i_moveTo i_csz i_clt i_cle i_ssz i_slt i_sle l_typedCount l_shownCount l_pastCount ∧ hm = HM f_undone f_letters f_showing f_spot f_tokenAt f_value f_laters f_places f_guesses f_ways f_now f_past f_images f_isKept f_text f_shown f_read f_letter f_sizes f_laterNumber f_many f_labelAt f_soAt f_meets f_wayFrom f_wayTo f_wayBy f_reach f_goesOn f_far f_round f_line f_guessAt ∧ m_IT l_typed l_typedCount f_letters f_text ∧ m_IS l_shown l_shownCount f_showing f_shown ∧ m_W n_states n_moveCount n_stateLabel n_moveActor n_moveFrom n_moveTo n_csz n_clt n_cle n_ssz n_slt n_sle f_now ∧ m_IP p_ix p_states p_moveCount p_stateLabel p_moveActor p_moveFrom p_moveTo p_csz p_clt p_cle p_ssz p_slt p_sle l_pastCount f_undone f_past ∧ m_II l_kept i_states i_moveCount i_stateLabel i_moveActor i_moveFrom i_moveTo i_csz i_clt i_cle i_ssz i_slt i_sle f_isKept f_images
theorem m_relok : g_relok m_Rel := by
  intro hl hm h
  obtain ⟨v0, v1, v2, v3, v4, v5, v6, v7, v8, v9, v10, v11, v12, v13, v14, v15, v16, v17, v18, v19, v20, v21, v22, v23, v24, v25, v26, v27, v28, v29, v30, v31, v32, v33, v34, v35, v36, v37, v38, v39, v40, v41, v42, v43, v44, v45, v46, v47, v48, v49, v50, v51, v52, v53, v54, v55, v56, v57, v58, v59, v60, v61, v62, v63, v64, v65, v66, v67, v68, v69, v70, v71, v72, v73, v74, v75, v76, v77, v78, v79, v80, v81, v82, v83, v84, v85, v86, u0, u1, u2, u3, u4, u5, u6, u7, u8, u9, u10, u11, u12, u13, u14, u15, u16, u17, u18, u19, u20, u21, u22, u23, u24, u25, u26, u27, u28, u29, u30, u31, u32, rfl, rfl, -⟩ := h
  exact ⟨rfl, rfl, ⟨_, rfl⟩, ⟨_, rfl⟩⟩
