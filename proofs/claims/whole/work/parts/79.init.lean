theorem m_F1 {sz lt : Int32} {le row : Nat → Int32} (h1 : sz = 1) (h2 : lt = 0) (h3 : le 0 = 49) (h4 : row 0 = 1) (h5 : row 1 = 49) : m_F sz lt le row := by
  have ha : m_ar (le 0) = 0 := by rw [h3]; decide
  refine ⟨1, by omega, by omega, h1, h4, fun p hp => ?_, ⟨fun p hp => ?_, ?_⟩, ?_, ?_⟩
  · have : p = 0 := by omega
    subst this
    rw [h3]
    exact h5.symm
  · have : p = 0 := by omega
    subst this
    exact ⟨by rw [ha]; omega, by simp [m_D]⟩
  · simp [m_D, ha]
  · simp [m_LT, h3, h2]
    decide
  · simp [m_LT, h3]
theorem m_init : m_Rel HL0 HM0 := by
  refine ⟨((fun _ => 0), (0 : Int32)), ((fun _ => 0), (0 : Int32)), ((fun _ => 0), (0 : Int32), (0 : Int32), (0 : Int32), (0 : Int32), (0 : Int32)), ((fun _ => 0), (fun _ => (fun _ => 0)), (0 : Int32)), ((0 : Int32), (0 : Int32), (0 : Int64), (0 : Int64), (fun _ => 0), (0 : Int32), (fun _ => 0), (fun _ => 0), (fun _ => 0)), ((fun _ => 0), (fun _ => (fun _ => 0)), (0 : Int32), (fun _ => 0), (fun _ => 0), (fun _ => 0), (fun _ => 0), (0 : Int64), (0 : Int64)), ((0 : Int32), (0 : Int32), (0 : Int32), (fun _ => 0), (fun _ => 0), (fun _ => 0)), ((0 : Int32), (0 : Int32), (fun _ => 0), (fun _ => 0), (fun _ => 0), (fun _ => 0), (1 : Int32), (0 : Int32), (upd (fun _ => 0) 0 (49 : Int32)), (fun _ => (1 : Int32)), (fun _ => (0 : Int32)), (fun _ => (upd (fun _ => 0) 0 (49 : Int32)))), ((0 : Int32), (0 : Int32), (fun _ => 0), (fun _ => 0), (fun _ => 0), (fun _ => 0), (1 : Int32), (0 : Int32), (upd (fun _ => 0) 0 (49 : Int32)), (fun _ => (1 : Int32)), (fun _ => (0 : Int32)), (fun _ => (upd (fun _ => 0) 0 (49 : Int32)))), ((fun j => j), (fun _ => (0 : Int32)), (fun _ => (0 : Int32)), (fun _ => (fun _ => 0)), (fun _ => (fun _ => 0)), (fun _ => (fun _ => 0)), (fun _ => (fun _ => 0)), (fun _ => (1 : Int32)), (fun _ => (0 : Int32)), (fun _ => (upd (fun _ => 0) 0 (49 : Int32))), (fun _ => (fun _ => (1 : Int32))), (fun _ => (fun _ => (0 : Int32))), (fun _ => (fun _ => (upd (fun _ => 0) 0 (49 : Int32)))), (0 : Int32)), ((fun _ => 0), (fun _ => (0 : Int32)), (fun _ => (0 : Int32)), (fun _ => (fun _ => 0)), (fun _ => (fun _ => 0)), (fun _ => (fun _ => 0)), (fun _ => (fun _ => 0)), (fun _ => (1 : Int32)), (fun _ => (0 : Int32)), (fun _ => (upd (fun _ => 0) 0 (49 : Int32))), (fun _ => (fun _ => (1 : Int32))), (fun _ => (fun _ => (0 : Int32))), (fun _ => (fun _ => (upd (fun _ => 0) 0 (49 : Int32))))), ((0 : Int32), (0 : Int32), (0 : Int32), (upd (upd (upd (upd (upd (upd (upd (upd (fun _ => 0) 37 (1 : Int32)) 38 (49 : Int32)) 54 (1 : Int32)) 55 (49 : Int32)) 71 (1 : Int32)) 72 (49 : Int32)) 88 (1 : Int32)) 89 (49 : Int32)), (fun _ => 0), (fun _ => 0), (fun _ => 0), (fun _ => 0), (fun _ => 0)), ((0 : Int32), (0 : Int32), (0 : Int32), (0 : Int32), (0 : Int32), (0 : Int32), (0 : Int32)), ((fun _ => 0), (fun _ => 0), (fun _ => 0), (fun _ => 0), (fun _ => 0), (fun _ => 0), (fun _ => 0), (fun _ => 0)), ((fun _ => 0), (fun _ => 0), (fun _ => 0), (fun _ => 0), (fun _ => 0), (fun _ => 0), (fun _ => 0), (fun _ => 0), (fun _ => 0)), rfl, rfl, ?_, ?_, ?_, ?_, ?_⟩
  · exact ⟨0, by omega, rfl, rfl, fun j hj => by omega⟩
  · exact ⟨0, by omega, rfl, rfl, fun j hj => by omega⟩
  · refine ⟨⟨0, by omega, rfl, by decide +kernel, fun j hj => by omega, 0, by omega, rfl, by decide +kernel, fun j hj => by omega⟩, m_F1 rfl rfl (by decide +kernel) (by decide +kernel) (by decide +kernel), fun i hi => ?_⟩
    rcases (show i = 0 ∨ i = 1 ∨ i = 2 by omega) with rfl | rfl | rfl
    · exact m_F1 rfl rfl (by decide +kernel) (by decide +kernel) (by decide +kernel)
    · exact m_F1 rfl rfl (by decide +kernel) (by decide +kernel) (by decide +kernel)
    · exact m_F1 rfl rfl (by decide +kernel) (by decide +kernel) (by decide +kernel)
  · exact ⟨0, by omega, rfl, rfl, fun j hj => hj, fun i j _ _ h => h, fun j hj => by omega⟩
  · exact fun i hi => Or.inl ⟨rfl, rfl⟩
