/-! 10b: the words of the law among those of the tables -/
theorem wsL_in_x1 : ∀ w ∈ wsX10, w ∈ lw_tbl := by decide +kernel
