/-! the law's own poke and buffer, as tables (printed by wip/whole/gen89.py) -/
def t_L_poke : e_M := ((RL, yL_poke, cL_poke, 4, (some FieldType.int)), [(0, .aload_n 0, 1, 0, 0, .null, []),
  (1, .iload_n 1, 2, 1, 0, .null, []),
  (2, .iload_n 2, 3, 2, 0, .null, []),
  (3, .invokevirtual 7, 6, 35, 2, .null, [4]),
  (6, .goto 6, 9, 12, 0, .null, []),
  (9, .astore_n 3, 10, 3, 0, .null, []),
  (10, .iconst 1, 11, 0, 0, .int 1, []),
  (11, .ireturn, 12, 0, 0, .null, []),
  (12, .iconst 0, 13, 0, 0, .int 0, []),
  (13, .ireturn, 14, 0, 0, .null, [])])
theorem kb_L_poke : t_L_poke.2.all (fun q => ev_okB t_L_poke.1.2.2.1 q.1 q.2) = true := by decide +kernel
set_option maxRecDepth 100000 in
theorem kw_L_poke : ∀ q ∈ t_L_poke.2, ev_okW tbs t_L_poke.1.1 t_L_poke.1.2.1.name q.2.2.2.1 q.2.2.2.2.1 q.2.2.2.2.2.1 q.2.2.2.2.2.2 q.2.1 := List.forall_mem_cons.mpr ⟨trivial, List.forall_mem_cons.mpr ⟨trivial, List.forall_mem_cons.mpr ⟨trivial, List.forall_mem_cons.mpr ⟨⟨_, 4, _, rfl, rfl, rfl, rfl, ⟨Or.inl (gm2 205 rfl rfl), gm1 1 rfl rfl, gm2 208 rfl rfl, ⟨by decide +kernel, by decide +kernel, by decide +kernel⟩, by decide⟩, gm2 206 rfl rfl, gm2 207 rfl rfl⟩, List.forall_mem_cons.mpr ⟨trivial, List.forall_mem_cons.mpr ⟨trivial, List.forall_mem_cons.mpr ⟨trivial, List.forall_mem_cons.mpr ⟨trivial, List.forall_mem_cons.mpr ⟨trivial, List.forall_mem_cons.mpr ⟨trivial, fun _ h => absurd h List.not_mem_nil⟩⟩⟩⟩⟩⟩⟩⟩⟩⟩
theorem ok_L_poke : ev_ok tbs t_L_poke := ⟨rfl, by decide +kernel, fun q hq => ⟨List.all_eq_true.mp kb_L_poke q hq, kw_L_poke q hq⟩⟩
def t_L_buffer : e_M := ((RL, yL_buffer, cL_buffer, 4, (some FieldType.int)), [(0, .aload_n 2, 1, 2, 0, .null, []),
  (1, .iconst 0, 2, 0, 0, .int 0, []),
  (2, .aload_n 0, 3, 0, 0, .null, []),
  (3, .iload_n 1, 4, 1, 0, .null, []),
  (4, .invokevirtual 15, 7, 36, 1, .null, [4]),
  (7, .i2l, 8, 0, 0, .null, []),
  (8, .lastore, 9, 0, 0, .null, []),
  (9, .goto 6, 12, 15, 0, .null, []),
  (12, .astore_n 3, 13, 3, 0, .null, []),
  (13, .iconst 1, 14, 0, 0, .int 1, []),
  (14, .ireturn, 15, 0, 0, .null, []),
  (15, .iconst 0, 16, 0, 0, .int 0, []),
  (16, .ireturn, 17, 0, 0, .null, [])])
theorem kb_L_buffer : t_L_buffer.2.all (fun q => ev_okB t_L_buffer.1.2.2.1 q.1 q.2) = true := by decide +kernel
set_option maxRecDepth 100000 in
theorem kw_L_buffer : ∀ q ∈ t_L_buffer.2, ev_okW tbs t_L_buffer.1.1 t_L_buffer.1.2.1.name q.2.2.2.1 q.2.2.2.2.1 q.2.2.2.2.2.1 q.2.2.2.2.2.2 q.2.1 := List.forall_mem_cons.mpr ⟨trivial, List.forall_mem_cons.mpr ⟨trivial, List.forall_mem_cons.mpr ⟨trivial, List.forall_mem_cons.mpr ⟨trivial, List.forall_mem_cons.mpr ⟨⟨_, 4, _, rfl, rfl, rfl, rfl, ⟨Or.inl (gm3 38 rfl rfl), gm1 1 rfl rfl, gm3 41 rfl rfl, ⟨by decide +kernel, by decide +kernel, by decide +kernel⟩, by decide⟩, gm3 39 rfl rfl, gm3 40 rfl rfl⟩, List.forall_mem_cons.mpr ⟨trivial, List.forall_mem_cons.mpr ⟨trivial, List.forall_mem_cons.mpr ⟨trivial, List.forall_mem_cons.mpr ⟨trivial, List.forall_mem_cons.mpr ⟨trivial, List.forall_mem_cons.mpr ⟨trivial, List.forall_mem_cons.mpr ⟨trivial, List.forall_mem_cons.mpr ⟨trivial, fun _ h => absurd h List.not_mem_nil⟩⟩⟩⟩⟩⟩⟩⟩⟩⟩⟩⟩⟩
theorem ok_L_buffer : ev_ok tbs t_L_buffer := ⟨rfl, by decide +kernel, fun q hq => ⟨List.all_eq_true.mp kb_L_buffer q hq, kw_L_buffer q hq⟩⟩
theorem in_cw_L_poke : Cond.codeWith yL_poke cL_poke 4 (some .int) [(0, 6, 9, 13)] ∈ ev_GW := gm2 203 rfl rfl
theorem in_st_L_poke : Cond.static yL_poke ∈ ev_GW := gm2 202 rfl rfl
theorem in_ml_L_poke : Cond.methodLink RL 31 yL_poke ∈ ev_GW := gm2 201 rfl rfl
theorem in_cw_L_buffer : Cond.codeWith yL_buffer cL_buffer 4 (some .int) [(0, 9, 12, 13)] ∈ ev_GW := gm3 37 rfl rfl
theorem in_st_L_buffer : Cond.static yL_buffer ∈ ev_GW := gm3 36 rfl rfl
theorem in_ml_L_buffer : Cond.methodLink RL 39 yL_buffer ∈ ev_GW := gm3 35 rfl rfl
theorem in_ini_L : Cond.initialized RL ∈ ev_GW := gm1 0 rfl rfl
theorem in_ini_X : Cond.initialized "java/lang/IndexOutOfBoundsException" ∈ ev_GW := gm1 11 rfl rfl
theorem in_cl_X4 : Cond.classLink RX4 50 "java/lang/IndexOutOfBoundsException" ∈ ev_GW := gm2 209 rfl rfl
theorem in_cl_L : Cond.classLink RL 13 "java/lang/IndexOutOfBoundsException" ∈ ev_GW := gm2 204 rfl rfl
theorem in_ini_X4 : Cond.initialized RX4 ∈ ev_GW := gm1 1 rfl rfl
theorem in_code_poke : Cond.code yX4_poke cX4_poke 3 none ∈ ev_GW := gm2 208 rfl rfl
theorem in_mlX_poke : Cond.methodLink RL 7 yX4_poke ∈ ev_GW := gm2 205 rfl rfl
theorem in_ins_poke : Cond.instanceMethod yX4_poke ∈ ev_GW := gm2 206 rfl rfl
theorem in_sel_poke : Cond.selects RX4 yX4_poke yX4_poke ∈ ev_GW := gm2 207 rfl rfl
theorem in_code_buffer : Cond.code yX4_buffer cX4_buffer 2 (some .int) ∈ ev_GW := gm3 41 rfl rfl
theorem in_mlX_buffer : Cond.methodLink RL 15 yX4_buffer ∈ ev_GW := gm3 38 rfl rfl
theorem in_ins_buffer : Cond.instanceMethod yX4_buffer ∈ ev_GW := gm3 39 rfl rfl
theorem in_sel_buffer : Cond.selects RX4 yX4_buffer yX4_buffer ∈ ev_GW := gm3 40 rfl rfl
