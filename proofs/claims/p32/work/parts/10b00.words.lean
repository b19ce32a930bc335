/-! 10b: the words of the law among those of the tables -/
theorem wsL_in_r1 : ∀ w ∈ wsL_law0_r1, w ∈ lw_tbl := fun w h => (goodIn_p wsL_law0_r1 [423, 359, 35, 38] (by decide +kernel) (by decide +kernel) w h).1
theorem wsL_in_r2 : ∀ w ∈ wsL_law0_r2, w ∈ lw_tbl := fun w h => (goodIn_p wsL_law0_r2 [43, 54] (by decide +kernel) (by decide +kernel) w h).1
theorem wsL_in_r3 : ∀ w ∈ wsL_law0_r3, w ∈ lw_tbl := fun w h => (goodIn_p wsL_law0_r3 [82, 616, 621, 492] (by decide +kernel) (by decide +kernel) w h).1
theorem wsL_in_r4 : ∀ w ∈ wsL_law0_r4, w ∈ lw_tbl := fun w h => (goodIn_p wsL_law0_r4 [499, 496, 504, 121, 507] (by decide +kernel) (by decide +kernel) w h).1
