set_option maxRecDepth 100000 in
set_option maxHeartbeats 4000000 in
theorem tb_x : ∀ w ∈ (vx_at0 RX11 196 "java/util/NoSuchElementException" ["java/lang/RuntimeException", "java/lang/Exception"]).filter goodWord, w ∈ lw_tbl := by decide +kernel
theorem tb_law : ∀ w ∈ wsL_law, w ∈ lw_tbl := fun w h => (List.mem_append.mp h).elim (fun h => tb_law0 w h) (fun h => tb_x w h)
