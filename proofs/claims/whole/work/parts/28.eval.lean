/-! the constructors' outcome, reckoned -/
set_option maxRecDepth 1000000 in
theorem x_St_some : x_St.isSome = true := by
  delta x_St m_iD m_iTerms
  rw [mL_fil_eq]
  decide +kernel
