theorem t_books (x1 x2 x3 x4 : Int32) (μ : Mem) (h : Inv μ) : ∃ (r : Int32) (μ1 μ2 : Mem), f_X4_books x1 x2 x3 x4 μ = some (r, μ1) ∧ f_X5_books x1 x2 x3 x4 μ1 = some (r, μ2) ∧ Inv μ2 := by
  sorry
