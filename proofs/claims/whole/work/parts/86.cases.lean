/-! The law's cases. -/
section LWC
variable {bs : Nat} {sa : Nat → Nat} {B P z M sc n : Nat} {key mark I K sf : Nat → Int32}
set_option maxHeartbeats 1000000 in
set_option maxRecDepth 100000 in
theorem lw_create (hO : lwO bs B P z M sc sa) (s : zS) (hI : Iv P s) (H : e_H) (hK : lwK B P z M sc n sa key mark I K sf s (mS M P key mark I K s) H) (i : Nat) (hi : i + 5 ≤ n) (hn : n ≤ 2562) (l5 l6 : Option Value) (E : e_C ⊕ (Option Value × e_H) → Prop)
    (hE : ∀ s' H', Iv P s' → lwK B P z M sc n sa key mark I K sf s' (mS M P key mark I K s') H' → H'.2 = H.2 → ev_E tbs bs sa 7 t_L_law E (857, [some (.ref sc), some (.ref B), some (.ref M), some (.ref (M + 19)), some (.int (nI i)), l5, l6], [], H')) : ev_E tbs bs sa 7 t_L_law E (252, [some (.ref sc), some (.ref B), some (.ref M), some (.ref (M + 19)), some (.int (nI i)), l5, l6], [], H) := by
  have hsc := hK.2.2.2
  have hbM : bs ≤ M := by have := hO.2.2.1; have := hO.2.1; have := hO.2.2.2.1.2.2.1; omega
  obtain ⟨fs, hx⟩ := hK.x hO
  obtain ⟨H1, hr1, hK1, e1⟩ := lw_cl hO hK (v := some (.int (q_create P (sf (i + 1)) s).1)) (s1' := (q_create P (sf (i + 1)) s).2) (fun h hS => c_create 4 B P z hO.1 key mark I K hO.2.2.2.1 s hI h H hS (sf (i + 1)))
  have hsc1 := hK1.2.2.2
  obtain ⟨fs1, hm1⟩ := hK1.m hO
  obtain ⟨H2, hr2, hK2, e2⟩ := lw_mo hO hK1 (v := some (.int (q_create P (sf (i + 1)) s).1)) (Mo' := mS M P key mark I K (q_create P (sf (i + 1)) s).2) (fun o ho => m_create 5 M P hO.1 key mark I K hbM hO.2.2.2.2.1 s hI o ho (sf (i + 1))) (fun o h => h.ok)
  repeat refine EV.s rfl rfl rfl ?_
  refine EV.iald (j := i + 1) rfl hsc (nI_add i 1) (by omega) (by omega) ?_
  refine EV.cv rfl rfl (hx) (Nat.le_of_ble_eq_true rfl) (Nat.le_of_ble_eq_true rfl) (hr1) ?_
  repeat refine EV.s rfl rfl rfl ?_
  refine EV.iald (j := i + 1) rfl hsc1 (nI_add i 1) (by omega) (by omega) ?_
  refine EV.cv rfl rfl (hm1) (Nat.le_of_ble_eq_true rfl) (Nat.le_of_ble_eq_true rfl) (hr2) ?_
  refine EV.icT rfl (decide_eq_true rfl) ?_
  exact hE _ _ (Iv_create hO.1 (sf (i + 1)) s hI) hK2 (e2.trans e1)
set_option maxHeartbeats 1000000 in
set_option maxRecDepth 100000 in
theorem lw_thread (hO : lwO bs B P z M sc sa) (s : zS) (hI : Iv P s) (H : e_H) (hK : lwK B P z M sc n sa key mark I K sf s (mS M P key mark I K s) H) (i : Nat) (hi : i + 5 ≤ n) (hn : n ≤ 2562) (l5 l6 : Option Value) (E : e_C ⊕ (Option Value × e_H) → Prop)
    (hE : ∀ s' H', Iv P s' → lwK B P z M sc n sa key mark I K sf s' (mS M P key mark I K s') H' → H'.2 = H.2 → ev_E tbs bs sa 7 t_L_law E (857, [some (.ref sc), some (.ref B), some (.ref M), some (.ref (M + 19)), some (.int (nI i)), l5, l6], [], H')) : ev_E tbs bs sa 7 t_L_law E (277, [some (.ref sc), some (.ref B), some (.ref M), some (.ref (M + 19)), some (.int (nI i)), l5, l6], [], H) := by
  have hsc := hK.2.2.2
  have hbM : bs ≤ M := by have := hO.2.2.1; have := hO.2.1; have := hO.2.2.2.1.2.2.1; omega
  obtain ⟨fs, hx⟩ := hK.x hO
  obtain ⟨H1, hr1, hK1, e1⟩ := lw_cl hO hK (v := some (.int (q_thread P K I (sf (i + 1)) (sf (i + 2)) (sf (i + 3)) s).1)) (s1' := (q_thread P K I (sf (i + 1)) (sf (i + 2)) (sf (i + 3)) s).2) (fun h hS => c_thread 2 B P z hO.1 key mark I K hO.2.2.2.1 s hI h H hS (sf (i + 1)) (sf (i + 2)) (sf (i + 3)))
  have hsc1 := hK1.2.2.2
  obtain ⟨fs1, hm1⟩ := hK1.m hO
  obtain ⟨H2, hr2, hK2, e2⟩ := lw_mo hO hK1 (v := some (.int (q_thread P K I (sf (i + 1)) (sf (i + 2)) (sf (i + 3)) s).1)) (Mo' := mS M P key mark I K (q_thread P K I (sf (i + 1)) (sf (i + 2)) (sf (i + 3)) s).2) (fun o ho => m_thread 2 M P hO.1 key mark I K hbM hO.2.2.2.2.1 s hI o ho (sf (i + 1)) (sf (i + 2)) (sf (i + 3))) (fun o h => h.ok)
  repeat refine EV.s rfl rfl rfl ?_
  refine EV.iald (j := i + 1) rfl hsc (nI_add i 1) (by omega) (by omega) ?_
  repeat refine EV.s rfl rfl rfl ?_
  refine EV.iald (j := i + 2) rfl hsc (nI_add i 2) (by omega) (by omega) ?_
  repeat refine EV.s rfl rfl rfl ?_
  refine EV.iald (j := i + 3) rfl hsc (nI_add i 3) (by omega) (by omega) ?_
  refine EV.cv rfl rfl (hx) (Nat.le_of_ble_eq_true rfl) (Nat.le_of_ble_eq_true rfl) (hr1) ?_
  repeat refine EV.s rfl rfl rfl ?_
  refine EV.iald (j := i + 1) rfl hsc1 (nI_add i 1) (by omega) (by omega) ?_
  repeat refine EV.s rfl rfl rfl ?_
  refine EV.iald (j := i + 2) rfl hsc1 (nI_add i 2) (by omega) (by omega) ?_
  repeat refine EV.s rfl rfl rfl ?_
  refine EV.iald (j := i + 3) rfl hsc1 (nI_add i 3) (by omega) (by omega) ?_
  refine EV.cv rfl rfl (hm1) (Nat.le_of_ble_eq_true rfl) (Nat.le_of_ble_eq_true rfl) (hr2) ?_
  refine EV.icT rfl (decide_eq_true rfl) ?_
  exact hE _ _ (Iv_thread hO.1 K I (sf (i + 1)) (sf (i + 2)) (sf (i + 3)) s hI) hK2 (e2.trans e1)
set_option maxHeartbeats 1000000 in
set_option maxRecDepth 100000 in
theorem lw_data (hO : lwO bs B P z M sc sa) (s : zS) (hI : Iv P s) (H : e_H) (hK : lwK B P z M sc n sa key mark I K sf s (mS M P key mark I K s) H) (i : Nat) (hi : i + 5 ≤ n) (hn : n ≤ 2562) (l5 l6 : Option Value) (E : e_C ⊕ (Option Value × e_H) → Prop)
    (hE : ∀ s' H', Iv P s' → lwK B P z M sc n sa key mark I K sf s' (mS M P key mark I K s') H' → H'.2 = H.2 → ev_E tbs bs sa 7 t_L_law E (857, [some (.ref sc), some (.ref B), some (.ref M), some (.ref (M + 19)), some (.int (nI i)), l5, l6], [], H')) : ev_E tbs bs sa 7 t_L_law E (326, [some (.ref sc), some (.ref B), some (.ref M), some (.ref (M + 19)), some (.int (nI i)), l5, l6], [], H) := by
  have hsc := hK.2.2.2
  have hbM : bs ≤ M := by have := hO.2.2.1; have := hO.2.1; have := hO.2.2.2.1.2.2.1; omega
  obtain ⟨fs, hx⟩ := hK.x hO
  obtain ⟨H1, hr1, hK1, e1⟩ := lw_cl hO hK (v := some (.int (q_data P K I (sf (i + 1)) (sf (i + 2)) (sf (i + 3)) (sf (i + 4)) s).1)) (s1' := (q_data P K I (sf (i + 1)) (sf (i + 2)) (sf (i + 3)) (sf (i + 4)) s).2) (fun h hS => c_data 2 B P z hO.1 key mark I K hO.2.2.2.1 s hI h H hS (sf (i + 1)) (sf (i + 2)) (sf (i + 3)) (sf (i + 4)))
  have hsc1 := hK1.2.2.2
  obtain ⟨fs1, hm1⟩ := hK1.m hO
  obtain ⟨H2, hr2, hK2, e2⟩ := lw_mo hO hK1 (v := some (.int (q_data P K I (sf (i + 1)) (sf (i + 2)) (sf (i + 3)) (sf (i + 4)) s).1)) (Mo' := mS M P key mark I K (q_data P K I (sf (i + 1)) (sf (i + 2)) (sf (i + 3)) (sf (i + 4)) s).2) (fun o ho => m_data 2 M P hO.1 key mark I K hbM hO.2.2.2.2.1 s hI o ho (sf (i + 1)) (sf (i + 2)) (sf (i + 3)) (sf (i + 4))) (fun o h => h.ok)
  repeat refine EV.s rfl rfl rfl ?_
  refine EV.iald (j := i + 1) rfl hsc (nI_add i 1) (by omega) (by omega) ?_
  repeat refine EV.s rfl rfl rfl ?_
  refine EV.iald (j := i + 2) rfl hsc (nI_add i 2) (by omega) (by omega) ?_
  repeat refine EV.s rfl rfl rfl ?_
  refine EV.iald (j := i + 3) rfl hsc (nI_add i 3) (by omega) (by omega) ?_
  repeat refine EV.s rfl rfl rfl ?_
  refine EV.iald (j := i + 4) rfl hsc (nI_add i 4) (by omega) (by omega) ?_
  refine EV.cv rfl rfl (hx) (Nat.le_of_ble_eq_true rfl) (Nat.le_of_ble_eq_true rfl) (hr1) ?_
  repeat refine EV.s rfl rfl rfl ?_
  refine EV.iald (j := i + 1) rfl hsc1 (nI_add i 1) (by omega) (by omega) ?_
  repeat refine EV.s rfl rfl rfl ?_
  refine EV.iald (j := i + 2) rfl hsc1 (nI_add i 2) (by omega) (by omega) ?_
  repeat refine EV.s rfl rfl rfl ?_
  refine EV.iald (j := i + 3) rfl hsc1 (nI_add i 3) (by omega) (by omega) ?_
  repeat refine EV.s rfl rfl rfl ?_
  refine EV.iald (j := i + 4) rfl hsc1 (nI_add i 4) (by omega) (by omega) ?_
  refine EV.cv rfl rfl (hm1) (Nat.le_of_ble_eq_true rfl) (Nat.le_of_ble_eq_true rfl) (hr2) ?_
  refine EV.icT rfl (decide_eq_true rfl) ?_
  exact hE _ _ (Iv_data hO.1 K I (sf (i + 1)) (sf (i + 2)) (sf (i + 3)) (sf (i + 4)) s hI) hK2 (e2.trans e1)
set_option maxHeartbeats 1000000 in
set_option maxRecDepth 100000 in
theorem lw_versions (hO : lwO bs B P z M sc sa) (s : zS) (hI : Iv P s) (H : e_H) (hK : lwK B P z M sc n sa key mark I K sf s (mS M P key mark I K s) H) (i : Nat) (hi : i + 5 ≤ n) (hn : n ≤ 2562) (l5 l6 : Option Value) (E : e_C ⊕ (Option Value × e_H) → Prop)
    (hE : ∀ s' H', Iv P s' → lwK B P z M sc n sa key mark I K sf s' (mS M P key mark I K s') H' → H'.2 = H.2 → ev_E tbs bs sa 7 t_L_law E (857, [some (.ref sc), some (.ref B), some (.ref M), some (.ref (M + 19)), some (.int (nI i)), l5, l6], [], H')) : ev_E tbs bs sa 7 t_L_law E (387, [some (.ref sc), some (.ref B), some (.ref M), some (.ref (M + 19)), some (.int (nI i)), l5, l6], [], H) := by
  have hsc := hK.2.2.2
  have hbM : bs ≤ M := by have := hO.2.2.1; have := hO.2.1; have := hO.2.2.2.1.2.2.1; omega
  obtain ⟨fs, hx⟩ := hK.x hO
  obtain ⟨H1, hr1, hK1, e1⟩ := lw_cl hO hK (v := some (.int (q_versions P (sf (i + 1)) s).1)) (s1' := (q_versions P (sf (i + 1)) s).2) (fun h hS => c_versions 4 B P z hO.1 key mark I K hO.2.2.2.1 s hI h H hS (sf (i + 1)))
  have hsc1 := hK1.2.2.2
  obtain ⟨fs1, hm1⟩ := hK1.m hO
  obtain ⟨H2, hr2, hK2, e2⟩ := lw_mo hO hK1 (v := some (.int (q_versions P (sf (i + 1)) s).1)) (Mo' := mS M P key mark I K (q_versions P (sf (i + 1)) s).2) (fun o ho => m_versions 5 M P hO.1 key mark I K hbM hO.2.2.2.2.1 s hI o ho (sf (i + 1))) (fun o h => h.ok)
  repeat refine EV.s rfl rfl rfl ?_
  refine EV.iald (j := i + 1) rfl hsc (nI_add i 1) (by omega) (by omega) ?_
  refine EV.cv rfl rfl (hx) (Nat.le_of_ble_eq_true rfl) (Nat.le_of_ble_eq_true rfl) (hr1) ?_
  repeat refine EV.s rfl rfl rfl ?_
  refine EV.iald (j := i + 1) rfl hsc1 (nI_add i 1) (by omega) (by omega) ?_
  refine EV.cv rfl rfl (hm1) (Nat.le_of_ble_eq_true rfl) (Nat.le_of_ble_eq_true rfl) (hr2) ?_
  refine EV.icT rfl (decide_eq_true rfl) ?_
  exact hE _ _ (Iv_versions hO.1 (sf (i + 1)) s hI) hK2 (e2.trans e1)
set_option maxHeartbeats 1000000 in
set_option maxRecDepth 100000 in
theorem lw_finalise (hO : lwO bs B P z M sc sa) (s : zS) (hI : Iv P s) (H : e_H) (hK : lwK B P z M sc n sa key mark I K sf s (mS M P key mark I K s) H) (i : Nat) (hi : i + 5 ≤ n) (hn : n ≤ 2562) (l5 l6 : Option Value) (E : e_C ⊕ (Option Value × e_H) → Prop)
    (hE : ∀ s' H', Iv P s' → lwK B P z M sc n sa key mark I K sf s' (mS M P key mark I K s') H' → H'.2 = H.2 → ev_E tbs bs sa 7 t_L_law E (857, [some (.ref sc), some (.ref B), some (.ref M), some (.ref (M + 19)), some (.int (nI i)), l5, l6], [], H')) : ev_E tbs bs sa 7 t_L_law E (412, [some (.ref sc), some (.ref B), some (.ref M), some (.ref (M + 19)), some (.int (nI i)), l5, l6], [], H) := by
  have hsc := hK.2.2.2
  have hbM : bs ≤ M := by have := hO.2.2.1; have := hO.2.1; have := hO.2.2.2.1.2.2.1; omega
  obtain ⟨fs, hx⟩ := hK.x hO
  obtain ⟨H1, hr1, hK1, e1⟩ := lw_cl hO hK (v := some (.int (q_finalise P K I (sf (i + 1)) s).1)) (s1' := (q_finalise P K I (sf (i + 1)) s).2) (fun h hS => c_finalise 3 B P z hO.1 key mark I K hO.2.2.2.1 s hI h H hS (sf (i + 1)))
  have hsc1 := hK1.2.2.2
  obtain ⟨fs1, hm1⟩ := hK1.m hO
  obtain ⟨H2, hr2, hK2, e2⟩ := lw_mo hO hK1 (v := some (.int (q_finalise P K I (sf (i + 1)) s).1)) (Mo' := mS M P key mark I K (q_finalise P K I (sf (i + 1)) s).2) (fun o ho => m_finalise 3 M P hO.1 key mark I K hbM hO.2.2.2.2.1 s hI o ho (sf (i + 1))) (fun o h => h.ok)
  repeat refine EV.s rfl rfl rfl ?_
  refine EV.iald (j := i + 1) rfl hsc (nI_add i 1) (by omega) (by omega) ?_
  refine EV.cv rfl rfl (hx) (Nat.le_of_ble_eq_true rfl) (Nat.le_of_ble_eq_true rfl) (hr1) ?_
  repeat refine EV.s rfl rfl rfl ?_
  refine EV.iald (j := i + 1) rfl hsc1 (nI_add i 1) (by omega) (by omega) ?_
  refine EV.cv rfl rfl (hm1) (Nat.le_of_ble_eq_true rfl) (Nat.le_of_ble_eq_true rfl) (hr2) ?_
  refine EV.icT rfl (decide_eq_true rfl) ?_
  exact hE _ _ (Iv_finalise hO.1 K I (sf (i + 1)) s hI) hK2 (e2.trans e1)
set_option maxHeartbeats 1000000 in
set_option maxRecDepth 100000 in
theorem lw_stop (hO : lwO bs B P z M sc sa) (s : zS) (hI : Iv P s) (H : e_H) (hK : lwK B P z M sc n sa key mark I K sf s (mS M P key mark I K s) H) (i : Nat) (hi : i + 5 ≤ n) (hn : n ≤ 2562) (l5 l6 : Option Value) (E : e_C ⊕ (Option Value × e_H) → Prop)
    (hE : ∀ s' H', Iv P s' → lwK B P z M sc n sa key mark I K sf s' (mS M P key mark I K s') H' → H'.2 = H.2 → ev_E tbs bs sa 7 t_L_law E (857, [some (.ref sc), some (.ref B), some (.ref M), some (.ref (M + 19)), some (.int (nI i)), l5, l6], [], H')) : ev_E tbs bs sa 7 t_L_law E (437, [some (.ref sc), some (.ref B), some (.ref M), some (.ref (M + 19)), some (.int (nI i)), l5, l6], [], H) := by
  have hsc := hK.2.2.2
  have hbM : bs ≤ M := by have := hO.2.2.1; have := hO.2.1; have := hO.2.2.2.1.2.2.1; omega
  obtain ⟨fs, hx⟩ := hK.x hO
  obtain ⟨H1, hr1, hK1, e1⟩ := lw_cl hO hK (v := some (.int (q_stop P (sf (i + 1)) s).1)) (s1' := (q_stop P (sf (i + 1)) s).2) (fun h hS => c_stop 3 B P z hO.1 key mark I K hO.2.2.2.1 s hI h H hS (sf (i + 1)))
  have hsc1 := hK1.2.2.2
  obtain ⟨fs1, hm1⟩ := hK1.m hO
  obtain ⟨H2, hr2, hK2, e2⟩ := lw_mo hO hK1 (v := some (.int (q_stop P (sf (i + 1)) s).1)) (Mo' := mS M P key mark I K (q_stop P (sf (i + 1)) s).2) (fun o ho => m_stop 5 M P hO.1 key mark I K hbM hO.2.2.2.2.1 s hI o ho (sf (i + 1))) (fun o h => h.ok)
  repeat refine EV.s rfl rfl rfl ?_
  refine EV.iald (j := i + 1) rfl hsc (nI_add i 1) (by omega) (by omega) ?_
  refine EV.cv rfl rfl (hx) (Nat.le_of_ble_eq_true rfl) (Nat.le_of_ble_eq_true rfl) (hr1) ?_
  repeat refine EV.s rfl rfl rfl ?_
  refine EV.iald (j := i + 1) rfl hsc1 (nI_add i 1) (by omega) (by omega) ?_
  refine EV.cv rfl rfl (hm1) (Nat.le_of_ble_eq_true rfl) (Nat.le_of_ble_eq_true rfl) (hr2) ?_
  refine EV.icT rfl (decide_eq_true rfl) ?_
  exact hE _ _ (Iv_stop hO.1 (sf (i + 1)) s hI) hK2 (e2.trans e1)
set_option maxHeartbeats 1000000 in
set_option maxRecDepth 100000 in
theorem lw_remove (hO : lwO bs B P z M sc sa) (s : zS) (hI : Iv P s) (H : e_H) (hK : lwK B P z M sc n sa key mark I K sf s (mS M P key mark I K s) H) (i : Nat) (hi : i + 5 ≤ n) (hn : n ≤ 2562) (l5 l6 : Option Value) (E : e_C ⊕ (Option Value × e_H) → Prop)
    (hE : ∀ s' H', Iv P s' → lwK B P z M sc n sa key mark I K sf s' (mS M P key mark I K s') H' → H'.2 = H.2 → ev_E tbs bs sa 7 t_L_law E (857, [some (.ref sc), some (.ref B), some (.ref M), some (.ref (M + 19)), some (.int (nI i)), l5, l6], [], H')) : ev_E tbs bs sa 7 t_L_law E (462, [some (.ref sc), some (.ref B), some (.ref M), some (.ref (M + 19)), some (.int (nI i)), l5, l6], [], H) := by
  have hsc := hK.2.2.2
  have hbM : bs ≤ M := by have := hO.2.2.1; have := hO.2.1; have := hO.2.2.2.1.2.2.1; omega
  obtain ⟨fs, hx⟩ := hK.x hO
  obtain ⟨H1, hr1, hK1, e1⟩ := lw_cl hO hK (v := some (.int (q_remove P (sf (i + 1)) s).1)) (s1' := (q_remove P (sf (i + 1)) s).2) (fun h hS => c_remove 2 B P z hO.1 key mark I K hO.2.2.2.1 s hI h H hS (sf (i + 1)))
  have hsc1 := hK1.2.2.2
  obtain ⟨fs1, hm1⟩ := hK1.m hO
  obtain ⟨H2, hr2, hK2, e2⟩ := lw_mo hO hK1 (v := some (.int (q_remove P (sf (i + 1)) s).1)) (Mo' := mS M P key mark I K (q_remove P (sf (i + 1)) s).2) (fun o ho => m_remove 5 M P hO.1 key mark I K hbM hO.2.2.2.2.1 s hI o ho (sf (i + 1))) (fun o h => h.ok)
  repeat refine EV.s rfl rfl rfl ?_
  refine EV.iald (j := i + 1) rfl hsc (nI_add i 1) (by omega) (by omega) ?_
  refine EV.cv rfl rfl (hx) (Nat.le_of_ble_eq_true rfl) (Nat.le_of_ble_eq_true rfl) (hr1) ?_
  repeat refine EV.s rfl rfl rfl ?_
  refine EV.iald (j := i + 1) rfl hsc1 (nI_add i 1) (by omega) (by omega) ?_
  refine EV.cv rfl rfl (hm1) (Nat.le_of_ble_eq_true rfl) (Nat.le_of_ble_eq_true rfl) (hr2) ?_
  refine EV.icT rfl (decide_eq_true rfl) ?_
  exact hE _ _ (Iv_remove hO.1 (sf (i + 1)) s hI) hK2 (e2.trans e1)
set_option maxHeartbeats 1000000 in
set_option maxRecDepth 100000 in
theorem lw_enter (hO : lwO bs B P z M sc sa) (s : zS) (hI : Iv P s) (H : e_H) (hK : lwK B P z M sc n sa key mark I K sf s (mS M P key mark I K s) H) (i : Nat) (hi : i + 5 ≤ n) (hn : n ≤ 2562) (l5 l6 : Option Value) (E : e_C ⊕ (Option Value × e_H) → Prop)
    (hE : ∀ s' H', Iv P s' → lwK B P z M sc n sa key mark I K sf s' (mS M P key mark I K s') H' → H'.2 = H.2 → ev_E tbs bs sa 7 t_L_law E (857, [some (.ref sc), some (.ref B), some (.ref M), some (.ref (M + 19)), some (.int (nI i)), l5, l6], [], H')) : ev_E tbs bs sa 7 t_L_law E (487, [some (.ref sc), some (.ref B), some (.ref M), some (.ref (M + 19)), some (.int (nI i)), l5, l6], [], H) := by
  have hsc := hK.2.2.2
  have hbM : bs ≤ M := by have := hO.2.2.1; have := hO.2.1; have := hO.2.2.2.1.2.2.1; omega
  obtain ⟨fs, hx⟩ := hK.x hO
  obtain ⟨H1, hr1, hK1, e1⟩ := lw_cl hO hK (v := some (.int (q_enter P (sf (i + 1)) (sf (i + 2)) (sf (i + 3)) (sf (i + 4)) s).1)) (s1' := (q_enter P (sf (i + 1)) (sf (i + 2)) (sf (i + 3)) (sf (i + 4)) s).2) (fun h hS => c_enter 0 B P z hO.1 key mark I K hO.2.2.2.1 s hI h H hS (sf (i + 1)) (sf (i + 2)) (sf (i + 3)) (sf (i + 4)))
  have hsc1 := hK1.2.2.2
  obtain ⟨fs1, hm1⟩ := hK1.m hO
  obtain ⟨H2, hr2, hK2, e2⟩ := lw_mo hO hK1 (v := some (.int (q_enter P (sf (i + 1)) (sf (i + 2)) (sf (i + 3)) (sf (i + 4)) s).1)) (Mo' := mS M P key mark I K (q_enter P (sf (i + 1)) (sf (i + 2)) (sf (i + 3)) (sf (i + 4)) s).2) (fun o ho => m_enter 2 M P hO.1 key mark I K hbM hO.2.2.2.2.1 s hI o ho (sf (i + 1)) (sf (i + 2)) (sf (i + 3)) (sf (i + 4))) (fun o h => h.ok)
  repeat refine EV.s rfl rfl rfl ?_
  refine EV.iald (j := i + 1) rfl hsc (nI_add i 1) (by omega) (by omega) ?_
  repeat refine EV.s rfl rfl rfl ?_
  refine EV.iald (j := i + 2) rfl hsc (nI_add i 2) (by omega) (by omega) ?_
  repeat refine EV.s rfl rfl rfl ?_
  refine EV.iald (j := i + 3) rfl hsc (nI_add i 3) (by omega) (by omega) ?_
  repeat refine EV.s rfl rfl rfl ?_
  refine EV.iald (j := i + 4) rfl hsc (nI_add i 4) (by omega) (by omega) ?_
  refine EV.cv rfl rfl (hx) (Nat.le_of_ble_eq_true rfl) (Nat.le_of_ble_eq_true rfl) (hr1) ?_
  repeat refine EV.s rfl rfl rfl ?_
  refine EV.iald (j := i + 1) rfl hsc1 (nI_add i 1) (by omega) (by omega) ?_
  repeat refine EV.s rfl rfl rfl ?_
  refine EV.iald (j := i + 2) rfl hsc1 (nI_add i 2) (by omega) (by omega) ?_
  repeat refine EV.s rfl rfl rfl ?_
  refine EV.iald (j := i + 3) rfl hsc1 (nI_add i 3) (by omega) (by omega) ?_
  repeat refine EV.s rfl rfl rfl ?_
  refine EV.iald (j := i + 4) rfl hsc1 (nI_add i 4) (by omega) (by omega) ?_
  refine EV.cv rfl rfl (hm1) (Nat.le_of_ble_eq_true rfl) (Nat.le_of_ble_eq_true rfl) (hr2) ?_
  refine EV.icT rfl (decide_eq_true rfl) ?_
  exact hE _ _ (Iv_enter hO.1 (sf (i + 1)) (sf (i + 2)) (sf (i + 3)) (sf (i + 4)) s hI) hK2 (e2.trans e1)
set_option maxHeartbeats 1000000 in
set_option maxRecDepth 100000 in
theorem lw_resume (hO : lwO bs B P z M sc sa) (s : zS) (hI : Iv P s) (H : e_H) (hK : lwK B P z M sc n sa key mark I K sf s (mS M P key mark I K s) H) (i : Nat) (hi : i + 5 ≤ n) (hn : n ≤ 2562) (l5 l6 : Option Value) (E : e_C ⊕ (Option Value × e_H) → Prop)
    (hE : ∀ s' H', Iv P s' → lwK B P z M sc n sa key mark I K sf s' (mS M P key mark I K s') H' → H'.2 = H.2 → ev_E tbs bs sa 7 t_L_law E (857, [some (.ref sc), some (.ref B), some (.ref M), some (.ref (M + 19)), some (.int (nI i)), l5, l6], [], H')) : ev_E tbs bs sa 7 t_L_law E (548, [some (.ref sc), some (.ref B), some (.ref M), some (.ref (M + 19)), some (.int (nI i)), l5, l6], [], H) := by
  have hsc := hK.2.2.2
  have hbM : bs ≤ M := by have := hO.2.2.1; have := hO.2.1; have := hO.2.2.2.1.2.2.1; omega
  obtain ⟨fs, hx⟩ := hK.x hO
  obtain ⟨H1, hr1, hK1, e1⟩ := lw_cl hO hK (v := some (.int (q_resume P (sf (i + 1)) (sf (i + 2)) s).1)) (s1' := (q_resume P (sf (i + 1)) (sf (i + 2)) s).2) (fun h hS => c_resume 0 B P z hO.1 key mark I K hO.2.2.2.1 s hI h H hS (sf (i + 1)) (sf (i + 2)))
  have hsc1 := hK1.2.2.2
  obtain ⟨fs1, hm1⟩ := hK1.m hO
  obtain ⟨H2, hr2, hK2, e2⟩ := lw_mo hO hK1 (v := some (.int (q_resume P (sf (i + 1)) (sf (i + 2)) s).1)) (Mo' := mS M P key mark I K (q_resume P (sf (i + 1)) (sf (i + 2)) s).2) (fun o ho => m_resume 2 M P hO.1 key mark I K hbM hO.2.2.2.2.1 s hI o ho (sf (i + 1)) (sf (i + 2))) (fun o h => h.ok)
  repeat refine EV.s rfl rfl rfl ?_
  refine EV.iald (j := i + 1) rfl hsc (nI_add i 1) (by omega) (by omega) ?_
  repeat refine EV.s rfl rfl rfl ?_
  refine EV.iald (j := i + 2) rfl hsc (nI_add i 2) (by omega) (by omega) ?_
  refine EV.cv rfl rfl (hx) (Nat.le_of_ble_eq_true rfl) (Nat.le_of_ble_eq_true rfl) (hr1) ?_
  repeat refine EV.s rfl rfl rfl ?_
  refine EV.iald (j := i + 1) rfl hsc1 (nI_add i 1) (by omega) (by omega) ?_
  repeat refine EV.s rfl rfl rfl ?_
  refine EV.iald (j := i + 2) rfl hsc1 (nI_add i 2) (by omega) (by omega) ?_
  refine EV.cv rfl rfl (hm1) (Nat.le_of_ble_eq_true rfl) (Nat.le_of_ble_eq_true rfl) (hr2) ?_
  refine EV.icT rfl (decide_eq_true rfl) ?_
  exact hE _ _ (Iv_resume hO.1 (sf (i + 1)) (sf (i + 2)) s hI) hK2 (e2.trans e1)
set_option maxHeartbeats 1000000 in
set_option maxRecDepth 100000 in
theorem lw_told (hO : lwO bs B P z M sc sa) (s : zS) (hI : Iv P s) (H : e_H) (hK : lwK B P z M sc n sa key mark I K sf s (mS M P key mark I K s) H) (i : Nat) (hi : i + 5 ≤ n) (hn : n ≤ 2562) (l5 l6 : Option Value) (E : e_C ⊕ (Option Value × e_H) → Prop)
    (hE : ∀ s' H', Iv P s' → lwK B P z M sc n sa key mark I K sf s' (mS M P key mark I K s') H' → H'.2 = H.2 → ev_E tbs bs sa 7 t_L_law E (857, [some (.ref sc), some (.ref B), some (.ref M), some (.ref (M + 19)), some (.int (nI i)), l5, l6], [], H')) : ev_E tbs bs sa 7 t_L_law E (585, [some (.ref sc), some (.ref B), some (.ref M), some (.ref (M + 19)), some (.int (nI i)), l5, l6], [], H) := by
  have hsc := hK.2.2.2
  have hbM : bs ≤ M := by have := hO.2.2.1; have := hO.2.1; have := hO.2.2.2.1.2.2.1; omega
  obtain ⟨fs, hx⟩ := hK.x hO
  obtain ⟨H1, hr1, hK1, e1⟩ := lw_cl hO hK (v := some (.int (q_told  (sf (i + 1)) s))) (s1' := s) (fun h hS => c_told 6 B P z hO.1 key mark I K hO.2.2.2.1 s hI h H hS (sf (i + 1)))
  have hsc1 := hK1.2.2.2
  obtain ⟨fs1, hm1⟩ := hK1.m hO
  obtain ⟨H2, hr2, hK2, e2⟩ := lw_mo hO hK1 (v := some (.int (q_told  (sf (i + 1)) s))) (Mo' := mS M P key mark I K s) (fun o ho => m_told 6 M P hO.1 key mark I K hbM hO.2.2.2.2.1 s hI o ho (sf (i + 1))) (fun o h => h.ok)
  repeat refine EV.s rfl rfl rfl ?_
  refine EV.iald (j := i + 1) rfl hsc (nI_add i 1) (by omega) (by omega) ?_
  refine EV.cv rfl rfl (hx) (Nat.le_of_ble_eq_true rfl) (Nat.le_of_ble_eq_true rfl) (hr1) ?_
  repeat refine EV.s rfl rfl rfl ?_
  refine EV.iald (j := i + 1) rfl hsc1 (nI_add i 1) (by omega) (by omega) ?_
  refine EV.cv rfl rfl (hm1) (Nat.le_of_ble_eq_true rfl) (Nat.le_of_ble_eq_true rfl) (hr2) ?_
  refine EV.icT rfl (decide_eq_true rfl) ?_
  exact hE _ _ hI hK2 (e2.trans e1)
set_option maxHeartbeats 1000000 in
set_option maxRecDepth 100000 in
theorem lw_evict (hO : lwO bs B P z M sc sa) (s : zS) (hI : Iv P s) (H : e_H) (hK : lwK B P z M sc n sa key mark I K sf s (mS M P key mark I K s) H) (i : Nat) (hi : i + 5 ≤ n) (hn : n ≤ 2562) (l5 l6 : Option Value) (E : e_C ⊕ (Option Value × e_H) → Prop)
    (hE : ∀ s' H', Iv P s' → lwK B P z M sc n sa key mark I K sf s' (mS M P key mark I K s') H' → H'.2 = H.2 → ev_E tbs bs sa 7 t_L_law E (857, [some (.ref sc), some (.ref B), some (.ref M), some (.ref (M + 19)), some (.int (nI i)), l5, l6], [], H')) : ev_E tbs bs sa 7 t_L_law E (610, [some (.ref sc), some (.ref B), some (.ref M), some (.ref (M + 19)), some (.int (nI i)), l5, l6], [], H) := by
  have hsc := hK.2.2.2
  have hbM : bs ≤ M := by have := hO.2.2.1; have := hO.2.1; have := hO.2.2.2.1.2.2.1; omega
  obtain ⟨fs, hx⟩ := hK.x hO
  obtain ⟨H1, hr1, hK1, e1⟩ := lw_cl hO hK (v := some (.int (q_evict P K I key mark (sf (i + 1)) (sf (i + 2)) (sf (i + 3)) s).1)) (s1' := (q_evict P K I key mark (sf (i + 1)) (sf (i + 2)) (sf (i + 3)) s).2) (fun h hS => c_evict 1 B P z hO.1 key mark I K hO.2.2.2.1 s hI h H hS (sf (i + 1)) (sf (i + 2)) (sf (i + 3)))
  have hsc1 := hK1.2.2.2
  obtain ⟨fs1, hm1⟩ := hK1.m hO
  obtain ⟨H2, hr2, hK2, e2⟩ := lw_mo hO hK1 (v := some (.int (q_evict P K I key mark (sf (i + 1)) (sf (i + 2)) (sf (i + 3)) s).1)) (Mo' := mS M P key mark I K (q_evict P K I key mark (sf (i + 1)) (sf (i + 2)) (sf (i + 3)) s).2) (fun o ho => m_evict 2 M P hO.1 key mark I K hbM hO.2.2.2.2.1 s hI o ho (sf (i + 1)) (sf (i + 2)) (sf (i + 3))) (fun o h => h.ok)
  repeat refine EV.s rfl rfl rfl ?_
  refine EV.iald (j := i + 1) rfl hsc (nI_add i 1) (by omega) (by omega) ?_
  repeat refine EV.s rfl rfl rfl ?_
  refine EV.iald (j := i + 2) rfl hsc (nI_add i 2) (by omega) (by omega) ?_
  repeat refine EV.s rfl rfl rfl ?_
  refine EV.iald (j := i + 3) rfl hsc (nI_add i 3) (by omega) (by omega) ?_
  refine EV.cv rfl rfl (hx) (Nat.le_of_ble_eq_true rfl) (Nat.le_of_ble_eq_true rfl) (hr1) ?_
  repeat refine EV.s rfl rfl rfl ?_
  refine EV.iald (j := i + 1) rfl hsc1 (nI_add i 1) (by omega) (by omega) ?_
  repeat refine EV.s rfl rfl rfl ?_
  refine EV.iald (j := i + 2) rfl hsc1 (nI_add i 2) (by omega) (by omega) ?_
  repeat refine EV.s rfl rfl rfl ?_
  refine EV.iald (j := i + 3) rfl hsc1 (nI_add i 3) (by omega) (by omega) ?_
  refine EV.cv rfl rfl (hm1) (Nat.le_of_ble_eq_true rfl) (Nat.le_of_ble_eq_true rfl) (hr2) ?_
  refine EV.icT rfl (decide_eq_true rfl) ?_
  exact hE _ _ (Iv_evict hO.1 K I key mark (sf (i + 1)) (sf (i + 2)) (sf (i + 3)) s hI) hK2 (e2.trans e1)
set_option maxHeartbeats 1000000 in
set_option maxRecDepth 100000 in
theorem lw_reload (hO : lwO bs B P z M sc sa) (s : zS) (hI : Iv P s) (H : e_H) (hK : lwK B P z M sc n sa key mark I K sf s (mS M P key mark I K s) H) (i : Nat) (hi : i + 5 ≤ n) (hn : n ≤ 2562) (l5 l6 : Option Value) (E : e_C ⊕ (Option Value × e_H) → Prop)
    (hE : ∀ s' H', Iv P s' → lwK B P z M sc n sa key mark I K sf s' (mS M P key mark I K s') H' → H'.2 = H.2 → ev_E tbs bs sa 7 t_L_law E (857, [some (.ref sc), some (.ref B), some (.ref M), some (.ref (M + 19)), some (.int (nI i)), l5, l6], [], H')) : ev_E tbs bs sa 7 t_L_law E (659, [some (.ref sc), some (.ref B), some (.ref M), some (.ref (M + 19)), some (.int (nI i)), l5, l6], [], H) := by
  have hsc := hK.2.2.2
  have hbM : bs ≤ M := by have := hO.2.2.1; have := hO.2.1; have := hO.2.2.2.1.2.2.1; omega
  obtain ⟨fs, hx⟩ := hK.x hO
  obtain ⟨H1, hr1, hK1, e1⟩ := lw_cl hO hK (v := some (.int (q_reload P K I key mark (sf (i + 1)) (sf (i + 2)) (sf (i + 3)) (sf (i + 4)) s).1)) (s1' := (q_reload P K I key mark (sf (i + 1)) (sf (i + 2)) (sf (i + 3)) (sf (i + 4)) s).2) (fun h hS => c_reload 0 B P z hO.1 key mark I K hO.2.2.2.1 s hI h H hS (sf (i + 1)) (sf (i + 2)) (sf (i + 3)) (sf (i + 4)))
  have hsc1 := hK1.2.2.2
  obtain ⟨fs1, hm1⟩ := hK1.m hO
  obtain ⟨H2, hr2, hK2, e2⟩ := lw_mo hO hK1 (v := some (.int (q_reload P K I key mark (sf (i + 1)) (sf (i + 2)) (sf (i + 3)) (sf (i + 4)) s).1)) (Mo' := mS M P key mark I K (q_reload P K I key mark (sf (i + 1)) (sf (i + 2)) (sf (i + 3)) (sf (i + 4)) s).2) (fun o ho => m_reload 2 M P hO.1 key mark I K hbM hO.2.2.2.2.1 s hI o ho (sf (i + 1)) (sf (i + 2)) (sf (i + 3)) (sf (i + 4))) (fun o h => h.ok)
  repeat refine EV.s rfl rfl rfl ?_
  refine EV.iald (j := i + 1) rfl hsc (nI_add i 1) (by omega) (by omega) ?_
  repeat refine EV.s rfl rfl rfl ?_
  refine EV.iald (j := i + 2) rfl hsc (nI_add i 2) (by omega) (by omega) ?_
  repeat refine EV.s rfl rfl rfl ?_
  refine EV.iald (j := i + 3) rfl hsc (nI_add i 3) (by omega) (by omega) ?_
  repeat refine EV.s rfl rfl rfl ?_
  refine EV.iald (j := i + 4) rfl hsc (nI_add i 4) (by omega) (by omega) ?_
  refine EV.cv rfl rfl (hx) (Nat.le_of_ble_eq_true rfl) (Nat.le_of_ble_eq_true rfl) (hr1) ?_
  repeat refine EV.s rfl rfl rfl ?_
  refine EV.iald (j := i + 1) rfl hsc1 (nI_add i 1) (by omega) (by omega) ?_
  repeat refine EV.s rfl rfl rfl ?_
  refine EV.iald (j := i + 2) rfl hsc1 (nI_add i 2) (by omega) (by omega) ?_
  repeat refine EV.s rfl rfl rfl ?_
  refine EV.iald (j := i + 3) rfl hsc1 (nI_add i 3) (by omega) (by omega) ?_
  repeat refine EV.s rfl rfl rfl ?_
  refine EV.iald (j := i + 4) rfl hsc1 (nI_add i 4) (by omega) (by omega) ?_
  refine EV.cv rfl rfl (hm1) (Nat.le_of_ble_eq_true rfl) (Nat.le_of_ble_eq_true rfl) (hr2) ?_
  refine EV.icT rfl (decide_eq_true rfl) ?_
  exact hE _ _ (Iv_reload hO.1 K I key mark (sf (i + 1)) (sf (i + 2)) (sf (i + 3)) (sf (i + 4)) s hI) hK2 (e2.trans e1)
set_option maxHeartbeats 1000000 in
set_option maxRecDepth 100000 in
theorem lw_page (hO : lwO bs B P z M sc sa) (s : zS) (hI : Iv P s) (H : e_H) (hK : lwK B P z M sc n sa key mark I K sf s (mS M P key mark I K s) H) (i : Nat) (hi : i + 5 ≤ n) (hn : n ≤ 2562) (l5 l6 : Option Value) (E : e_C ⊕ (Option Value × e_H) → Prop)
    (hE : ∀ s' H', Iv P s' → lwK B P z M sc n sa key mark I K sf s' (mS M P key mark I K s') H' → H'.2 = H.2 → ev_E tbs bs sa 7 t_L_law E (857, [some (.ref sc), some (.ref B), some (.ref M), some (.ref (M + 19)), some (.int (nI i)), l5, l6], [], H')) : ev_E tbs bs sa 7 t_L_law E (720, [some (.ref sc), some (.ref B), some (.ref M), some (.ref (M + 19)), some (.int (nI i)), l5, l6], [], H) := by
  have hsc := hK.2.2.2
  have hbM : bs ≤ M := by have := hO.2.2.1; have := hO.2.1; have := hO.2.2.2.1.2.2.1; omega
  obtain ⟨fs, hx⟩ := hK.x hO
  obtain ⟨H1, hr1, hK1, e1⟩ := lw_cl hO hK (v := some (.int (q_page P (sf (i + 1)) (sf (i + 2)) s))) (s1' := s) (fun h hS => c_page 3 B P z hO.1 key mark I K hO.2.2.2.1 s hI h H hS (sf (i + 1)) (sf (i + 2)))
  have hsc1 := hK1.2.2.2
  obtain ⟨fs1, hm1⟩ := hK1.m hO
  obtain ⟨H2, hr2, hK2, e2⟩ := lw_mo hO hK1 (v := some (.int (q_page P (sf (i + 1)) (sf (i + 2)) s))) (Mo' := mS M P key mark I K s) (fun o ho => m_page 5 M P hO.1 key mark I K hbM hO.2.2.2.2.1 s hI o ho (sf (i + 1)) (sf (i + 2))) (fun o h => h.ok)
  repeat refine EV.s rfl rfl rfl ?_
  refine EV.iald (j := i + 1) rfl hsc (nI_add i 1) (by omega) (by omega) ?_
  repeat refine EV.s rfl rfl rfl ?_
  refine EV.iald (j := i + 2) rfl hsc (nI_add i 2) (by omega) (by omega) ?_
  refine EV.cv rfl rfl (hx) (Nat.le_of_ble_eq_true rfl) (Nat.le_of_ble_eq_true rfl) (hr1) ?_
  repeat refine EV.s rfl rfl rfl ?_
  refine EV.iald (j := i + 1) rfl hsc1 (nI_add i 1) (by omega) (by omega) ?_
  repeat refine EV.s rfl rfl rfl ?_
  refine EV.iald (j := i + 2) rfl hsc1 (nI_add i 2) (by omega) (by omega) ?_
  refine EV.cv rfl rfl (hm1) (Nat.le_of_ble_eq_true rfl) (Nat.le_of_ble_eq_true rfl) (hr2) ?_
  refine EV.icT rfl (decide_eq_true rfl) ?_
  exact hE _ _ hI hK2 (e2.trans e1)
set_option maxHeartbeats 1000000 in
set_option maxRecDepth 100000 in
theorem lw_measure (hO : lwO bs B P z M sc sa) (s : zS) (hI : Iv P s) (H : e_H) (hK : lwK B P z M sc n sa key mark I K sf s (mS M P key mark I K s) H) (i : Nat) (hi : i + 5 ≤ n) (hn : n ≤ 2562) (l5 l6 : Option Value) (E : e_C ⊕ (Option Value × e_H) → Prop)
    (hE : ∀ s' H', Iv P s' → lwK B P z M sc n sa key mark I K sf s' (mS M P key mark I K s') H' → H'.2 = H.2 → ev_E tbs bs sa 7 t_L_law E (857, [some (.ref sc), some (.ref B), some (.ref M), some (.ref (M + 19)), some (.int (nI i)), l5, l6], [], H')) : ev_E tbs bs sa 7 t_L_law E (757, [some (.ref sc), some (.ref B), some (.ref M), some (.ref (M + 19)), some (.int (nI i)), l5, l6], [], H) := by
  have hsc := hK.2.2.2
  have hbM : bs ≤ M := by have := hO.2.2.1; have := hO.2.1; have := hO.2.2.2.1.2.2.1; omega
  obtain ⟨fs, hx⟩ := hK.x hO
  obtain ⟨H1, hr1, hK1, e1⟩ := lw_cl hO hK (v := some (.int (q_measure P (sf (i + 1)) (sf (i + 2)) s))) (s1' := s) (fun h hS => c_measure 4 B P z hO.1 key mark I K hO.2.2.2.1 s hI h H hS (sf (i + 1)) (sf (i + 2)))
  have hsc1 := hK1.2.2.2
  obtain ⟨fs1, hm1⟩ := hK1.m hO
  obtain ⟨H2, hr2, hK2, e2⟩ := lw_mo hO hK1 (v := some (.int (q_measure P (sf (i + 1)) (sf (i + 2)) s))) (Mo' := mS M P key mark I K s) (fun o ho => m_measure 5 M P hO.1 key mark I K hbM hO.2.2.2.2.1 s hI o ho (sf (i + 1)) (sf (i + 2))) (fun o h => h.ok)
  repeat refine EV.s rfl rfl rfl ?_
  refine EV.iald (j := i + 1) rfl hsc (nI_add i 1) (by omega) (by omega) ?_
  repeat refine EV.s rfl rfl rfl ?_
  refine EV.iald (j := i + 2) rfl hsc (nI_add i 2) (by omega) (by omega) ?_
  refine EV.cv rfl rfl (hx) (Nat.le_of_ble_eq_true rfl) (Nat.le_of_ble_eq_true rfl) (hr1) ?_
  repeat refine EV.s rfl rfl rfl ?_
  refine EV.iald (j := i + 1) rfl hsc1 (nI_add i 1) (by omega) (by omega) ?_
  repeat refine EV.s rfl rfl rfl ?_
  refine EV.iald (j := i + 2) rfl hsc1 (nI_add i 2) (by omega) (by omega) ?_
  refine EV.cv rfl rfl (hm1) (Nat.le_of_ble_eq_true rfl) (Nat.le_of_ble_eq_true rfl) (hr2) ?_
  refine EV.icT rfl (decide_eq_true rfl) ?_
  exact hE _ _ hI hK2 (e2.trans e1)
set_option maxHeartbeats 1000000 in
set_option maxRecDepth 100000 in
theorem lw_slot (hO : lwO bs B P z M sc sa) (s : zS) (hI : Iv P s) (H : e_H) (hK : lwK B P z M sc n sa key mark I K sf s (mS M P key mark I K s) H) (i : Nat) (hi : i + 5 ≤ n) (hn : n ≤ 2562) (l5 l6 : Option Value) (E : e_C ⊕ (Option Value × e_H) → Prop)
    (hE : ∀ s' H', Iv P s' → lwK B P z M sc n sa key mark I K sf s' (mS M P key mark I K s') H' → H'.2 = H.2 → ev_E tbs bs sa 7 t_L_law E (857, [some (.ref sc), some (.ref B), some (.ref M), some (.ref (M + 19)), some (.int (nI i)), l5, l6], [], H')) : ev_E tbs bs sa 7 t_L_law E (794, [some (.ref sc), some (.ref B), some (.ref M), some (.ref (M + 19)), some (.int (nI i)), l5, l6], [], H) := by
  have hsc := hK.2.2.2
  have hbM : bs ≤ M := by have := hO.2.2.1; have := hO.2.1; have := hO.2.2.2.1.2.2.1; omega
  obtain ⟨fs, hx⟩ := hK.x hO
  obtain ⟨H1, hr1, hK1, e1⟩ := lw_cl hO hK (v := some (.long (q_slot P (sf (i + 1)) (sf (i + 2)) s))) (s1' := s) (fun h hS => c_slot 4 B P z hO.1 key mark I K hO.2.2.2.1 s hI h H hS (sf (i + 1)) (sf (i + 2)))
  have hsc1 := hK1.2.2.2
  obtain ⟨fs1, hm1⟩ := hK1.m hO
  obtain ⟨H2, hr2, hK2, e2⟩ := lw_mo hO hK1 (v := some (.long (q_slot P (sf (i + 1)) (sf (i + 2)) s))) (Mo' := mS M P key mark I K s) (fun o ho => m_slot 5 M P hO.1 key mark I K hbM hO.2.2.2.2.1 s hI o ho (sf (i + 1)) (sf (i + 2))) (fun o h => h.ok)
  repeat refine EV.s rfl rfl rfl ?_
  refine EV.iald (j := i + 1) rfl hsc (nI_add i 1) (by omega) (by omega) ?_
  repeat refine EV.s rfl rfl rfl ?_
  refine EV.iald (j := i + 2) rfl hsc (nI_add i 2) (by omega) (by omega) ?_
  refine EV.cv rfl rfl (hx) (Nat.le_of_ble_eq_true rfl) (Nat.le_of_ble_eq_true rfl) (hr1) ?_
  repeat refine EV.s rfl rfl rfl ?_
  refine EV.iald (j := i + 1) rfl hsc1 (nI_add i 1) (by omega) (by omega) ?_
  repeat refine EV.s rfl rfl rfl ?_
  refine EV.iald (j := i + 2) rfl hsc1 (nI_add i 2) (by omega) (by omega) ?_
  refine EV.cv rfl rfl (hm1) (Nat.le_of_ble_eq_true rfl) (Nat.le_of_ble_eq_true rfl) (hr2) ?_
  repeat refine EV.s rfl rfl rfl ?_
  refine EV.ifT rfl (decide_eq_true ((lg_cmp_eq _ _).mpr rfl)) ?_
  exact hE _ _ hI hK2 (e2.trans e1)
set_option maxHeartbeats 1000000 in
set_option maxRecDepth 100000 in
theorem lw_count (hO : lwO bs B P z M sc sa) (s : zS) (hI : Iv P s) (H : e_H) (hK : lwK B P z M sc n sa key mark I K sf s (mS M P key mark I K s) H) (i : Nat) (hi : i + 5 ≤ n) (hn : n ≤ 2562) (l5 l6 : Option Value) (E : e_C ⊕ (Option Value × e_H) → Prop)
    (hE : ∀ s' H', Iv P s' → lwK B P z M sc n sa key mark I K sf s' (mS M P key mark I K s') H' → H'.2 = H.2 → ev_E tbs bs sa 7 t_L_law E (857, [some (.ref sc), some (.ref B), some (.ref M), some (.ref (M + 19)), some (.int (nI i)), l5, l6], [], H')) : ev_E tbs bs sa 7 t_L_law E (832, [some (.ref sc), some (.ref B), some (.ref M), some (.ref (M + 19)), some (.int (nI i)), l5, l6], [], H) := by
  have hsc := hK.2.2.2
  have hbM : bs ≤ M := by have := hO.2.2.1; have := hO.2.1; have := hO.2.2.2.1.2.2.1; omega
  obtain ⟨fs, hx⟩ := hK.x hO
  obtain ⟨H1, hr1, hK1, e1⟩ := lw_cl hO hK (v := some (.int (q_count P (sf (i + 1)) s))) (s1' := s) (fun h hS => c_count 5 B P z hO.1 key mark I K hO.2.2.2.1 s hI h H hS (sf (i + 1)))
  have hsc1 := hK1.2.2.2
  obtain ⟨fs1, hm1⟩ := hK1.m hO
  obtain ⟨H2, hr2, hK2, e2⟩ := lw_mo hO hK1 (v := some (.int (q_count P (sf (i + 1)) s))) (Mo' := mS M P key mark I K s) (fun o ho => m_count 6 M P hO.1 key mark I K hbM hO.2.2.2.2.1 s hI o ho (sf (i + 1))) (fun o h => h.ok)
  repeat refine EV.s rfl rfl rfl ?_
  refine EV.iald (j := i + 1) rfl hsc (nI_add i 1) (by omega) (by omega) ?_
  refine EV.cv rfl rfl (hx) (Nat.le_of_ble_eq_true rfl) (Nat.le_of_ble_eq_true rfl) (hr1) ?_
  repeat refine EV.s rfl rfl rfl ?_
  refine EV.iald (j := i + 1) rfl hsc1 (nI_add i 1) (by omega) (by omega) ?_
  refine EV.cv rfl rfl (hm1) (Nat.le_of_ble_eq_true rfl) (Nat.le_of_ble_eq_true rfl) (hr2) ?_
  refine EV.icT rfl (decide_eq_true rfl) ?_
  exact hE _ _ hI hK2 (e2.trans e1)
end LWC
