/-! the words of the throws in the tables -/
theorem txW_in2 : ∀ w ∈ txS RX2 13 17 zISE, w ∈ lw_tbl := by decide +kernel
theorem txW_in3 : ∀ w ∈ txS RX3 13 17 zISE, w ∈ lw_tbl := by decide +kernel
theorem txW_in9 : ∀ w ∈ txS RX9 19 23 zISE, w ∈ lw_tbl := by decide +kernel
theorem txW_inA : ∀ w ∈ txS RX10 257 261 zIAE, w ∈ lw_tbl := by decide +kernel
theorem txW_inS : ∀ w ∈ txS RX10 267 271 zISE, w ∈ lw_tbl := by decide +kernel
theorem txW_inC : ∀ w ∈ [Cond.castable zISE zISE, Cond.castable zIAE zIAE], w ∈ lw_tbl := by decide +kernel
theorem txW_in : ∀ w ∈ txW, w ∈ lw_tbl := fun w h => (List.mem_append.mp h).elim (txW_in2 w) (fun h => (List.mem_append.mp h).elim (txW_in3 w) (fun h => (List.mem_append.mp h).elim (txW_in9 w) (fun h => (List.mem_append.mp h).elim (txW_inA w) (fun h => (List.mem_append.mp h).elim (txW_inS w) (txW_inC w)))))
