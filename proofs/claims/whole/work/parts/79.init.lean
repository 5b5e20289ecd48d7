theorem m_init : m_Rel HL0 HM0 := by
  sorry
