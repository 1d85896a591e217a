theorem s_open_x : (f_X_open 300 mu0x).map Prod.fst = some 0 := by decide +kernel
theorem s_open_m : (f_Mo_open 300 mu0m).map Prod.fst = some 0 := by decide +kernel
theorem s_flush_x : (f_X_flush 300 (fun _ => none) mu0x).map Prod.fst = some (-1) := by decide +kernel
theorem s_flush_m : (f_Mo_flush 300 mu0m).map Prod.fst = some (-1) := by decide +kernel
theorem s_add_m : (f_Mo_add 300 mu0m).map Prod.fst = some (-1) := by decide +kernel
theorem s_nodes_m : (f_Mo_nodes 300 mu0m).map Prod.fst = some 0 := by decide +kernel
theorem s_cost_x : (f_X_cost 1000 mu0x).map Prod.fst = some 0 := by decide +kernel
theorem s_cost_m : (f_Mo_cost 1000 mu0m).map Prod.fst = some 0 := by decide +kernel
theorem s_paths_x : (f_X_paths 1000 mu0x).map Prod.fst = some 1 := by decide +kernel
theorem s_paths_m : (f_Mo_paths 1000 mu0m).map Prod.fst = some 1 := by decide +kernel
theorem s_nodes_x : (f_X_nodes 1000 mu0x).map Prod.fst = some 0 := by decide +kernel
theorem s_tokens_x : (f_X_tokens 1000 mu0x).map Prod.fst = some 0 := by decide +kernel
theorem s_tokens_m : (f_Mo_tokens 1000 mu0m).map Prod.fst = some 0 := by decide +kernel
theorem s_an_x : (f_X_analyse 1000 mu0x).map (fun μ => (μ.1 35 7, μ.1 41 1, μ.1 1 1)) = some (0, 0, 0) := by decide +kernel
theorem s_cut_m : (f_Mo_cut 1000 mu0m).map (fun μ => (μ.1 0 37, μ.1 0 50)) = some (0, 0) := by decide +kernel
