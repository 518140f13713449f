/-! ROWS ARE BROUGHT IN AND TAKEN OUT, OF THE CLASS -/
section Ml4
variable {F G : MF} {X Y : Nat → List Int} {og s t t' : Nat → Int} {g a n r b k : Nat}
theorem d_i2 : 111 ∈ m_I2 := by decide
end Ml4
