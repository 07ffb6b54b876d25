set_option maxRecDepth 100000 in
theorem kb_L_cell : t_L_cell.2.all (fun q => ev_okB t_L_cell.1.2.2.1 q.1 q.2) = true := by decide +kernel
set_option maxRecDepth 100000 in
set_option maxHeartbeats 4000000 in
theorem kw_L_cell : ∀ q ∈ t_L_cell.2, ev_okW tbs t_L_cell.1.1 t_L_cell.1.2.1.name q.2.2.2.1 q.2.2.2.2.1 q.2.2.2.2.2.1 q.2.2.2.2.2.2 q.2.1 := List.forall_mem_cons.mpr ⟨trivial, List.forall_mem_cons.mpr ⟨trivial, List.forall_mem_cons.mpr ⟨trivial, List.forall_mem_cons.mpr ⟨trivial, List.forall_mem_cons.mpr ⟨trivial, List.forall_mem_cons.mpr ⟨trivial, List.forall_mem_cons.mpr ⟨trivial, List.forall_mem_cons.mpr ⟨trivial, List.forall_mem_cons.mpr ⟨trivial, List.forall_mem_cons.mpr ⟨trivial, fun _ h => absurd h List.not_mem_nil⟩⟩⟩⟩⟩⟩⟩⟩⟩⟩
theorem ok_L_cell : ev_ok tbs t_L_cell := ⟨rfl, by decide +kernel, fun q hq => ⟨List.all_eq_true.mp kb_L_cell q hq, kw_L_cell q hq⟩⟩
