theorem ap_in {a b c : List Cond} (ha : ∀ w ∈ a, w ∈ c) (hb : ∀ w ∈ b, w ∈ c) : ∀ w ∈ a ++ b, w ∈ c := fun w h => (List.mem_append.mp h).elim (ha w) (hb w)
theorem inX0 : ∀ w ∈ wsX00, w ∈ lw_tbl := by decide +kernel
theorem inX1 : ∀ w ∈ wsX10, w ∈ lw_tbl := by decide +kernel
theorem wsL_law_in : ∀ w ∈ wsL_law, w ∈ lw_tbl := ap_in (ap_in (ap_in (ap_in wsL_law_r1_in (ap_in wsL_law_r2_in (ap_in wsL_law_r3_in (ap_in wsL_law_r4_in (ap_in wsL_law_r5_in (ap_in wsL_law_r6_in (ap_in wsL_law_r7_in (ap_in wsL_law_r8_in (ap_in wsL_law_r9_in (ap_in wsL_law_r10_in (ap_in wsL_law_r11_in (ap_in wsL_law_r12_in (ap_in wsL_law_r13_in (ap_in wsL_law_r14_in (ap_in wsL_law_r15_in wsL_law_r16_in))))))))))))))) inX0) inX1) (fun w h => absurd h List.not_mem_nil)
theorem inlX0 : ∀ w ∈ wsX00, w ∈ wsL_law := fun _ h => List.mem_append_left _ (List.mem_append_left _ (List.mem_append_right _ h))
theorem inlX1 : ∀ w ∈ wsX10, w ∈ wsL_law := fun _ h => List.mem_append_left _ (List.mem_append_right _ h)
