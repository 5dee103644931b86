theorem in_r1 : ∀ w ∈ wsL_law_r1, w ∈ lw_tbl := by decide +kernel
theorem in_r2 : ∀ w ∈ wsL_law_r2, w ∈ lw_tbl := by decide +kernel
