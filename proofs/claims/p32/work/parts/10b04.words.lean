/-! 10b: the words of the law among those of the tables -/
theorem wsL_in_r17 : ∀ w ∈ wsL_law0_r17, w ∈ lw_tbl := fun w h => (goodIn_p wsL_law0_r17 [367, 371, 391, 363, 395] (by decide +kernel) (by decide +kernel) w h).1
theorem wsL_in_r18 : ∀ w ∈ wsL_law0_r18, w ∈ lw_tbl := fun w h => (goodIn_p wsL_law0_r18 [399, 403, 407, 415, 433, 437] (by decide +kernel) (by decide +kernel) w h).1
theorem wsL_in_r19 : ∀ w ∈ wsL_law0_r19, w ∈ lw_tbl := fun w h => (goodIn_p wsL_law0_r19 [446, 450, 454, 463, 468] (by decide +kernel) (by decide +kernel) w h).1
theorem wsL_in_r20 : ∀ w ∈ wsL_law0_r20, w ∈ lw_tbl := fun w h => (goodIn_p wsL_law0_r20 [477] (by decide +kernel) (by decide +kernel) w h).1
