theorem okM_all : ∀ m, m < 211 → okM m = true := by sorry
theorem okW_all : ∀ m, m < 211 → m ≠ m_L_law → okW m (isSt m) = true := by sorry
