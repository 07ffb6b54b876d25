set_option maxRecDepth 100000 in
theorem kb_L_1 : ((t_L_law.2.drop 60).take 60).all (fun q => ev_okB cL_law q.1 q.2) = true := by decide +kernel
