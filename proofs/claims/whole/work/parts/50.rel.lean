/-! numbers -/
abbrev m_N : Nat := 5000
theorem m_inb {n N : Nat} (h : n < N) (hN : N < 2 ^ 31) : g_inb (nI n) N = true := by
  simp only [g_inb, Bool.and_eq_true, Bool.not_eq_true', decide_eq_false_iff_not, decide_eq_true_eq]
  exact ⟨nI_pos (by omega), by rw [nI_clamp (by omega)]; exact h⟩
theorem m_chk {α : Type} {b : Bool} {k : Option α} (h : b = true) : g_chk b k = k := by rw [h]; rfl
theorem m_neg {x : Int32} (h : ¬ x < 0) : ∃ j : Nat, j < 2 ^ 31 ∧ x = nI j := nI_of h
/-- an int below zero, or a number -/
theorem m_case (x : Int32) : x < 0 ∨ ∃ j : Nat, j < 2 ^ 31 ∧ x = nI j := by
  by_cases h : x < 0
  · exact Or.inl h
  · exact Or.inr (nI_of h)
theorem m_ltn {x : Int32} (h : x < 0) {n : Nat} (hn : n < 2 ^ 31) : ¬ nI n ≤ x := fun z => by
  have h1 := Int32.lt_iff_toInt_lt.mp h
  have h2 := Int32.le_iff_toInt_le.mp z
  rw [nI_toInt hn] at h2
  have h3 : (0 : Int32).toInt = 0 := rfl
  rw [h3] at h1
  omega
theorem m_ne {x : Int32} (h : x < 0) {n : Nat} (hn : n < 2 ^ 31) : ¬ x = nI n := fun z => m_ltn h hn (by rw [z]; exact Int32.le_refl _)
theorem m_lt {a b : Nat} (ha : a < 2 ^ 31) (hb : b < 2 ^ 31) : (nI a < nI b) = (a < b) := propext (nI_ltI ha hb)
theorem m_le {a b : Nat} (ha : a < 2 ^ 31) (hb : b < 2 ^ 31) : (nI a ≤ nI b) = (a ≤ b) := propext (nI_leI ha hb)
theorem m_eq {a b : Nat} (ha : a < 2 ^ 31) (hb : b < 2 ^ 31) : (nI a = nI b) = (a = b) := propext (nI_eq ha hb)
theorem m_bt {f : Nat → Int32} {k : Nat} {x : Int32} : upd f k x k = x := pk_us
/-- what a formula's letter is: how many parts stand in it; -1: no letter -/
def m_ar (c : Int32) : Int := if c = 48 ∨ c = 49 ∨ c = 97 ∨ c = 98 ∨ c = 99 then 0 else if c = 110 ∨ c = 120 ∨ c = 102 ∨ c = 103 then 1 else if c = 107 ∨ c = 111 ∨ c = 117 then 2 else -1
def m_lat (c : Int32) : Prop := c = 120 ∨ c = 102 ∨ c = 103 ∨ c = 117
/-- how many parts are still due ahead of letter p -/
def m_D (le : Nat → Int32) : Nat → Int
  | 0 => 1
  | p + 1 => m_D le p + m_ar (le p) - 1
/-- how many later ones stand ahead of p -/
def m_LT (le : Nat → Int32) : Nat → Nat
  | 0 => 0
  | p + 1 => m_LT le p + (if (le p = 120 ∨ le p = 102 ∨ le p = 103 ∨ le p = 117) then 1 else 0)
def m_WF (le : Nat → Int32) (n : Nat) : Prop := (∀ p, p < n → 0 ≤ m_ar (le p) ∧ 1 ≤ m_D le p) ∧ m_D le n = 0
/-- a formula: of the class (size, laters, letters), of the reference (a row: size, letters) -/
def m_F (sz lt : Int32) (le : Nat → Int32) (row : Nat → Int32) : Prop := ∃ n : Nat, 1 ≤ n ∧ n ≤ 16 ∧ sz = nI n ∧ row 0 = nI n ∧ (∀ p, p < n → le p = row (1 + p)) ∧ m_WF le n ∧ lt = nI (m_LT le n) ∧ m_LT le n ≤ 3
def m_W (states moveCount : Int32) (stateLabel moveActor moveFrom moveTo : Nat → Int32) (csz clt : Int32) (cle : Nat → Int32) (ssz slt : Nat → Int32) (sle : Nat → Nat → Int32) (row : Nat → Int32) : Prop :=
  (∃ s : Nat, s ≤ 5 ∧ states = nI s ∧ row 0 = nI s ∧ (∀ j, j < s → stateLabel j = row (1 + j) ∧ ∃ c : Nat, c ≤ 7 ∧ row (1 + j) = nI c) ∧
    ∃ mv : Nat, mv ≤ 10 ∧ moveCount = nI mv ∧ row 6 = nI mv ∧ ∀ j, j < mv → moveActor j = row (7 + 3 * j) ∧ moveFrom j = row (7 + 3 * j + 1) ∧ moveTo j = row (7 + 3 * j + 2) ∧ (∃ c : Nat, c ≤ 1 ∧ row (7 + 3 * j) = nI c) ∧ (∃ c : Nat, c < s ∧ row (7 + 3 * j + 1) = nI c) ∧ ∃ c : Nat, c < s ∧ row (7 + 3 * j + 2) = nI c) ∧
  m_F csz clt cle (fun k => row (37 + k)) ∧ ∀ i, i < 3 → m_F (ssz i) (slt i) (sle i) (fun k => row (54 + 17 * i + k))
def m_IT (typed : Nat → Int32) (cnt letters : Int32) (text : Nat → Int32) : Prop := ∃ n : Nat, n ≤ 120 ∧ cnt = nI n ∧ letters = nI n ∧ ∀ j, j < n → typed j = text j ∧ ∃ c : Nat, c ≤ 255 ∧ text j = nI c
def m_IS (shown : Nat → Int32) (cnt showing : Int32) (shown2 : Nat → Int32) : Prop := ∃ n : Nat, n ≤ 8 ∧ cnt = nI n ∧ showing = nI n ∧ ∀ j, j < n → shown j = shown2 j ∧ ∃ c : Nat, c ≤ 7 ∧ shown2 j = nI c
def m_IP (ix : Nat → Nat) (states moveCount : Nat → Int32) (stateLabel moveActor moveFrom moveTo : Nat → Nat → Int32) (csz clt : Nat → Int32) (cle : Nat → Nat → Int32) (ssz slt : Nat → Nat → Int32) (sle : Nat → Nat → Nat → Int32) (cnt undone : Int32) (past : Nat → Int32) : Prop := ∃ u : Nat, u ≤ 6 ∧ cnt = nI u ∧ undone = nI u ∧ (∀ j, j < 6 → ix j < 6) ∧ (∀ i j, i < 6 → j < 6 → ix i = ix j → i = j) ∧ ∀ j, j < u → m_W (states (ix j)) (moveCount (ix j)) (stateLabel (ix j)) (moveActor (ix j)) (moveFrom (ix j)) (moveTo (ix j)) (csz (ix j)) (clt (ix j)) (cle (ix j)) (ssz (ix j)) (slt (ix j)) (sle (ix j)) (fun k => past (105 * j + k))
def m_II (kept : Nat → Int32) (states moveCount : Nat → Int32) (stateLabel moveActor moveFrom moveTo : Nat → Nat → Int32) (csz clt : Nat → Int32) (cle : Nat → Nat → Int32) (ssz slt : Nat → Nat → Int32) (sle : Nat → Nat → Nat → Int32) (isKept images : Nat → Int32) : Prop := ∀ i, i < 2 → (kept i = 0 ∧ isKept i = 0) ∨ (kept i = 1 ∧ isKept i = 1 ∧ m_W (states i) (moveCount i) (stateLabel i) (moveActor i) (moveFrom i) (moveTo i) (csz i) (clt i) (cle i) (ssz i) (slt i) (sle i) (fun k => images (105 * i + k)))
abbrev m_Tgt : Type := (Nat → Int32) × Int32
abbrev m_Tgs : Type := (Nat → Int32) × Int32
abbrev m_Tgr : Type := (Nat → Int32) × Int32 × Int32 × Int32 × Int32 × Int32
abbrev m_Tgd : Type := (Nat → Int32) × (Nat → Nat → Int32) × Int32
abbrev m_Tga : Type := Int32 × Int32 × Int64 × Int64 × (Nat → Int64) × Int32 × (Nat → Int64) × (Nat → Int64) × (Nat → Int64)
abbrev m_Tgb : Type := (Nat → Int32) × (Nat → Nat → Int64) × Int32 × (Nat → Int32) × (Nat → Int32) × (Nat → Int64) × (Nat → Int64) × Int64 × Int64
abbrev m_Tgq : Type := Int32 × Int32 × Int32 × (Nat → Int64) × (Nat → Int64) × (Nat → Int64)
abbrev m_Tgw : Type := Int32 × Int32 × (Nat → Int32) × (Nat → Int32) × (Nat → Int32) × (Nat → Int32) × Int32 × Int32 × (Nat → Int32) × (Nat → Int32) × (Nat → Int32) × (Nat → Nat → Int32)
abbrev m_Tgz : Type := Int32 × Int32 × (Nat → Int32) × (Nat → Int32) × (Nat → Int32) × (Nat → Int32) × Int32 × Int32 × (Nat → Int32) × (Nat → Int32) × (Nat → Int32) × (Nat → Nat → Int32)
abbrev m_Tgp : Type := (Nat → Nat) × (Nat → Int32) × (Nat → Int32) × (Nat → Nat → Int32) × (Nat → Nat → Int32) × (Nat → Nat → Int32) × (Nat → Nat → Int32) × (Nat → Int32) × (Nat → Int32) × (Nat → Nat → Int32) × (Nat → Nat → Int32) × (Nat → Nat → Int32) × (Nat → Nat → Nat → Int32) × Int32
abbrev m_Tgi : Type := (Nat → Int32) × (Nat → Int32) × (Nat → Int32) × (Nat → Nat → Int32) × (Nat → Nat → Int32) × (Nat → Nat → Int32) × (Nat → Nat → Int32) × (Nat → Int32) × (Nat → Int32) × (Nat → Nat → Int32) × (Nat → Nat → Int32) × (Nat → Nat → Int32) × (Nat → Nat → Nat → Int32)
abbrev m_Tgm : Type := Int32 × Int32 × Int32 × (Nat → Int32) × (Nat → Int32) × (Nat → Int32) × (Nat → Int32) × (Nat → Int32) × (Nat → Int32)
abbrev m_Tgn : Type := Int32 × Int32 × Int32 × Int32 × Int32 × Int32 × Int32
abbrev m_Tgo : Type := (Nat → Int32) × (Nat → Int32) × (Nat → Int32) × (Nat → Int32) × (Nat → Int32) × (Nat → Int32) × (Nat → Int32) × (Nat → Int32)
abbrev m_Tgu : Type := (Nat → Int32) × (Nat → Int32) × (Nat → Int32) × (Nat → Int64) × (Nat → Int32) × (Nat → Int32) × (Nat → Int32) × (Nat → Int32) × (Nat → Int32)
def m_Rel (hl hm : List g_E) : Prop := ∃ (gt : m_Tgt) (gs : m_Tgs) (gr : m_Tgr) (gd : m_Tgd) (ga : m_Tga) (gb : m_Tgb) (gq : m_Tgq) (gw : m_Tgw) (gz : m_Tgz) (gp : m_Tgp) (gi : m_Tgi) (gm : m_Tgm) (gn : m_Tgn) (go : m_Tgo) (gu : m_Tgu), hl = HL gt.1 gs.1 gi.1 gr.1 gr.2.1 gr.2.2.1 gr.2.2.2.1 gr.2.2.2.2.1 gr.2.2.2.2.2 gd.1 gd.2.1 gd.2.2 ga.1 ga.2.1 ga.2.2.1 ga.2.2.2.1 ga.2.2.2.2.1 ga.2.2.2.2.2.1 ga.2.2.2.2.2.2.1 ga.2.2.2.2.2.2.2.1 ga.2.2.2.2.2.2.2.2 gb.1 gb.2.1 gb.2.2.1 gb.2.2.2.1 gb.2.2.2.2.1 gb.2.2.2.2.2.1 gb.2.2.2.2.2.2.1 gb.2.2.2.2.2.2.2.1 gb.2.2.2.2.2.2.2.2 gq.1 gq.2.1 gq.2.2.1 gq.2.2.2.1 gq.2.2.2.2.1 gq.2.2.2.2.2 gw.1 gw.2.1 gw.2.2.1 gw.2.2.2.1 gw.2.2.2.2.1 gw.2.2.2.2.2.1 gw.2.2.2.2.2.2.1 gw.2.2.2.2.2.2.2.1 gw.2.2.2.2.2.2.2.2.1 gw.2.2.2.2.2.2.2.2.2.1 gw.2.2.2.2.2.2.2.2.2.2.1 gw.2.2.2.2.2.2.2.2.2.2.2 gz.1 gz.2.1 gz.2.2.1 gz.2.2.2.1 gz.2.2.2.2.1 gz.2.2.2.2.2.1 gz.2.2.2.2.2.2.1 gz.2.2.2.2.2.2.2.1 gz.2.2.2.2.2.2.2.2.1 gz.2.2.2.2.2.2.2.2.2.1 gz.2.2.2.2.2.2.2.2.2.2.1 gz.2.2.2.2.2.2.2.2.2.2.2 gp.1 gp.2.1 gp.2.2.1 gp.2.2.2.1 gp.2.2.2.2.1 gp.2.2.2.2.2.1 gp.2.2.2.2.2.2.1 gp.2.2.2.2.2.2.2.1 gp.2.2.2.2.2.2.2.2.1 gp.2.2.2.2.2.2.2.2.2.1 gp.2.2.2.2.2.2.2.2.2.2.1 gp.2.2.2.2.2.2.2.2.2.2.2.1 gp.2.2.2.2.2.2.2.2.2.2.2.2.1 gi.2.1 gi.2.2.1 gi.2.2.2.1 gi.2.2.2.2.1 gi.2.2.2.2.2.1 gi.2.2.2.2.2.2.1 gi.2.2.2.2.2.2.2.1 gi.2.2.2.2.2.2.2.2.1 gi.2.2.2.2.2.2.2.2.2.1 gi.2.2.2.2.2.2.2.2.2.2.1 gi.2.2.2.2.2.2.2.2.2.2.2.1 gi.2.2.2.2.2.2.2.2.2.2.2.2 gt.2 gs.2 gp.2.2.2.2.2.2.2.2.2.2.2.2.2 ∧ hm = HM gm.1 gm.2.1 gm.2.2.1 gn.1 gn.2.1 gn.2.2.1 gn.2.2.2.1 gn.2.2.2.2.1 gn.2.2.2.2.2.1 gn.2.2.2.2.2.2 gm.2.2.2.1 gm.2.2.2.2.1 gm.2.2.2.2.2.1 gm.2.2.2.2.2.2.1 gm.2.2.2.2.2.2.2.1 gm.2.2.2.2.2.2.2.2 go.1 go.2.1 go.2.2.1 go.2.2.2.1 go.2.2.2.2.1 go.2.2.2.2.2.1 go.2.2.2.2.2.2.1 go.2.2.2.2.2.2.2 gu.1 gu.2.1 gu.2.2.1 gu.2.2.2.1 gu.2.2.2.2.1 gu.2.2.2.2.2.1 gu.2.2.2.2.2.2.1 gu.2.2.2.2.2.2.2.1 gu.2.2.2.2.2.2.2.2 ∧ m_IT gt.1 gt.2 gm.2.1 gm.2.2.2.2.2.2.2.1 ∧ m_IS gs.1 gs.2 gm.2.2.1 gm.2.2.2.2.2.2.2.2 ∧ m_W gw.1 gw.2.1 gw.2.2.1 gw.2.2.2.1 gw.2.2.2.2.1 gw.2.2.2.2.2.1 gw.2.2.2.2.2.2.1 gw.2.2.2.2.2.2.2.1 gw.2.2.2.2.2.2.2.2.1 gw.2.2.2.2.2.2.2.2.2.1 gw.2.2.2.2.2.2.2.2.2.2.1 gw.2.2.2.2.2.2.2.2.2.2.2 gm.2.2.2.1 ∧ m_IP gp.1 gp.2.1 gp.2.2.1 gp.2.2.2.1 gp.2.2.2.2.1 gp.2.2.2.2.2.1 gp.2.2.2.2.2.2.1 gp.2.2.2.2.2.2.2.1 gp.2.2.2.2.2.2.2.2.1 gp.2.2.2.2.2.2.2.2.2.1 gp.2.2.2.2.2.2.2.2.2.2.1 gp.2.2.2.2.2.2.2.2.2.2.2.1 gp.2.2.2.2.2.2.2.2.2.2.2.2.1 gp.2.2.2.2.2.2.2.2.2.2.2.2.2 gm.1 gm.2.2.2.2.1 ∧ m_II gi.1 gi.2.1 gi.2.2.1 gi.2.2.2.1 gi.2.2.2.2.1 gi.2.2.2.2.2.1 gi.2.2.2.2.2.2.1 gi.2.2.2.2.2.2.2.1 gi.2.2.2.2.2.2.2.2.1 gi.2.2.2.2.2.2.2.2.2.1 gi.2.2.2.2.2.2.2.2.2.2.1 gi.2.2.2.2.2.2.2.2.2.2.2.1 gi.2.2.2.2.2.2.2.2.2.2.2.2 gm.2.2.2.2.2.2.1 gm.2.2.2.2.2.1
theorem m_relok : g_relok m_Rel := by
  intro hl hm h
  obtain ⟨gt, gs, gr, gd, ga, gb, gq, gw, gz, gp, gi, gm, gn, go, gu, rfl, rfl, -⟩ := h
  exact ⟨rfl, rfl, ⟨_, rfl⟩, ⟨_, rfl⟩⟩
