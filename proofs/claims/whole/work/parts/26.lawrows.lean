/-! THE CHECK OF THE LAW'S ROWS -/
set_option maxRecDepth 100000 in
theorem m_ck420 : m_tck 420 m_t420 = true := by decide +kernel
