/-! The law's loop, a round of it. -/
def lwl (sc B M i : Nat) (l5 l6 : Option Value) : e_L := [some (.ref sc), some (.ref B), some (.ref M), some (.ref (M + 19)), some (.int (nI i)), l5, l6]
section LWL
variable {bs : Nat} {sa : Nat → Nat} {B P z M sc n : Nat} {key mark I K sf : Nat → Int32} {E : e_C ⊕ (Option Value × e_H) → Prop}
set_option maxHeartbeats 1000000 in
set_option maxRecDepth 100000 in
theorem lw_next {H : e_H} {i : Nat} {l5 l6 : Option Value} (k : ev_E tbs bs sa 7 t_L_law E (45, lwl sc B M (i + 5) l5 l6, [], H)) : ev_E tbs bs sa 7 t_L_law E (857, lwl sc B M i l5 l6, [], H) := by
  have e : nI i + 5 = nI (i + 5) := nI_add i 5
  unfold lwl at k ⊢
  rw [← e] at k
  refine EV.s rfl rfl rfl ?_
  refine EV.s rfl rfl rfl ?_
  exact k
theorem lw_sub {n i : Nat} (hn : n ≤ 2562) (hi : i ≤ 3000) : (nI n - 5 < nI i) ↔ n < i + 5 := by
  by_cases c : 5 ≤ n
  · have e : nI n - 5 = nI (n - 5) := by
      have q : nI (n - 5) + 5 = nI n := by
        have := nI_add (n - 5) 5
        rw [show n - 5 + 5 = n by omega] at this
        exact this
      rw [← q, Int32.add_sub_cancel]
    rw [e]
    constructor
    · intro h
      by_cases c2 : n < i + 5
      · exact c2
      · exact absurd h (Int32.not_lt.mpr (nI_le (by omega) (by omega)))
    · intro h
      exact nI_lt (by omega) (by omega)
  · refine ⟨fun _ => by omega, fun _ => ?_⟩
    have h0 : (0 : Int32) ≤ nI i := nI_pos' (by omega)
    have hn4 : n = 0 ∨ n = 1 ∨ n = 2 ∨ n = 3 ∨ n = 4 := by omega
    have : nI n - 5 < 0 := by rcases hn4 with rfl | rfl | rfl | rfl | rfl <;> decide
    exact Int32.lt_of_lt_of_le this h0
set_option maxHeartbeats 1000000 in
set_option maxRecDepth 100000 in
theorem lw_head {H : e_H} {i : Nat} {l5 l6 : Option Value} (hn : n ≤ 2562) (hi : i + 5 ≤ n) (hsc : H.1 sc = some (.inr (.inl (n, sf)))) (k : ev_E tbs bs sa 7 t_L_law E (61, lwl sc B M i l5 l6, [.int (sf i &&& 31)], H)) : ev_E tbs bs sa 7 t_L_law E (45, lwl sc B M i l5 l6, [], H) := by
  unfold lwl at k ⊢
  repeat refine EV.s rfl rfl rfl ?_
  refine EV.alen (n := n) rfl (by simp [ev_len, hsc]) ?_
  repeat refine EV.s rfl rfl rfl ?_
  refine EV.icF rfl (decide_eq_false (fun q => absurd ((lw_sub hn (by omega)).mp q) (by omega))) ?_
  repeat refine EV.s rfl rfl rfl ?_
  refine EV.iald (j := i) rfl hsc rfl (by omega) (by omega) ?_
  repeat refine EV.s rfl rfl rfl ?_
  exact k
set_option maxHeartbeats 1000000 in
set_option maxRecDepth 100000 in
theorem lw_exit {H : e_H} {i : Nat} {l5 l6 : Option Value} (hn : n ≤ 2562) (hi3 : i ≤ 3000) (hi : n < i + 5) (hsc : H.1 sc = some (.inr (.inl (n, sf)))) : ev_E tbs bs sa 7 t_L_law (fun x => x = .inl (864, lwl sc B M i l5 l6, [.int 1], H)) (45, lwl sc B M i l5 l6, [], H) := by
  unfold lwl
  repeat refine EV.s rfl rfl rfl ?_
  refine EV.alen (n := n) rfl (by simp [ev_len, hsc]) ?_
  repeat refine EV.s rfl rfl rfl ?_
  refine EV.icT rfl (decide_eq_true ((lw_sub hn hi3).mpr hi)) ?_
  repeat refine EV.s rfl rfl rfl ?_
  exact EV.fin rfl
def opx (x : Int32) : Nat := x.toBitVec.toNat % 2 ^ 5
theorem opx_eq (x : Int32) : x &&& 31 = nI (opx x) := pk_and x 5 (by decide)
theorem opx_lt (x : Int32) : opx x < 32 := Nat.mod_lt _ (by decide)
set_option maxHeartbeats 2000000 in
set_option maxRecDepth 100000 in
theorem lw_iter (hO : lwO bs B P z M sc sa) (s : zS) (hI : Iv P s) (H : e_H) (hK : lwK B P z M sc n sa key mark I K sf s (mS M P key mark I K s) H) (i : Nat) (hi : i + 5 ≤ n) (hn : n ≤ 2562) (l5 l6 : Option Value) (h0 : opx (sf i) ≠ 0) (h1 : opx (sf i) ≠ 1)
    (hE : ∀ s' H', Iv P s' → lwK B P z M sc n sa key mark I K sf s' (mS M P key mark I K s') H' → H'.2 = H.2 → E (.inl (45, lwl sc B M (i + 5) l5 l6, [], H'))) : ev_E tbs bs sa 7 t_L_law E (45, lwl sc B M i l5 l6, [], H) := by
  have hE2 : ∀ s' H', Iv P s' → lwK B P z M sc n sa key mark I K sf s' (mS M P key mark I K s') H' → H'.2 = H.2 → ev_E tbs bs sa 7 t_L_law E (857, lwl sc B M i l5 l6, [], H') := fun s' H' a b c => lw_next (EV.fin (hE s' H' a b c))
  refine lw_head hn hi hK.2.2.2 ?_
  have hlt := opx_lt (sf i)
  have hx := opx_eq (sf i)
  generalize opx (sf i) = k at h0 h1 hlt hx
  have hk : k = 2 ∨ k = 3 ∨ k = 4 ∨ k = 5 ∨ k = 6 ∨ k = 7 ∨ k = 8 ∨ k = 9 ∨ k = 10 ∨ k = 11 ∨ k = 12 ∨ k = 13 ∨ k = 14 ∨ k = 15 ∨ k = 16 ∨ k = 17 ∨ ∃ q, k = q + 18 := by
    by_cases c : k < 18
    · omega
    · exact Or.inr (Or.inr (Or.inr (Or.inr (Or.inr (Or.inr (Or.inr (Or.inr (Or.inr (Or.inr (Or.inr (Or.inr (Or.inr (Or.inr (Or.inr (Or.inr ⟨k - 18, by omega⟩)))))))))))))))
  rcases hk with rfl | rfl | rfl | rfl | rfl | rfl | rfl | rfl | rfl | rfl | rfl | rfl | rfl | rfl | rfl | rfl | ⟨q, rfl⟩
  · refine EV.tsw 2 ⟨_, rfl, fun _ _ _ => rfl⟩ hx (by decide) ?_
    exact lw_create hO s hI H hK i hi hn l5 l6 E hE2
  · refine EV.tsw 3 ⟨_, rfl, fun _ _ _ => rfl⟩ hx (by decide) ?_
    exact lw_thread hO s hI H hK i hi hn l5 l6 E hE2
  · refine EV.tsw 4 ⟨_, rfl, fun _ _ _ => rfl⟩ hx (by decide) ?_
    exact lw_data hO s hI H hK i hi hn l5 l6 E hE2
  · refine EV.tsw 5 ⟨_, rfl, fun _ _ _ => rfl⟩ hx (by decide) ?_
    exact lw_versions hO s hI H hK i hi hn l5 l6 E hE2
  · refine EV.tsw 6 ⟨_, rfl, fun _ _ _ => rfl⟩ hx (by decide) ?_
    exact lw_finalise hO s hI H hK i hi hn l5 l6 E hE2
  · refine EV.tsw 7 ⟨_, rfl, fun _ _ _ => rfl⟩ hx (by decide) ?_
    exact lw_stop hO s hI H hK i hi hn l5 l6 E hE2
  · refine EV.tsw 8 ⟨_, rfl, fun _ _ _ => rfl⟩ hx (by decide) ?_
    exact lw_remove hO s hI H hK i hi hn l5 l6 E hE2
  · refine EV.tsw 9 ⟨_, rfl, fun _ _ _ => rfl⟩ hx (by decide) ?_
    exact lw_enter hO s hI H hK i hi hn l5 l6 E hE2
  · refine EV.tsw 10 ⟨_, rfl, fun _ _ _ => rfl⟩ hx (by decide) ?_
    exact lw_resume hO s hI H hK i hi hn l5 l6 E hE2
  · refine EV.tsw 11 ⟨_, rfl, fun _ _ _ => rfl⟩ hx (by decide) ?_
    exact lw_told hO s hI H hK i hi hn l5 l6 E hE2
  · refine EV.tsw 12 ⟨_, rfl, fun _ _ _ => rfl⟩ hx (by decide) ?_
    exact lw_evict hO s hI H hK i hi hn l5 l6 E hE2
  · refine EV.tsw 13 ⟨_, rfl, fun _ _ _ => rfl⟩ hx (by decide) ?_
    exact lw_reload hO s hI H hK i hi hn l5 l6 E hE2
  · refine EV.tsw 14 ⟨_, rfl, fun _ _ _ => rfl⟩ hx (by decide) ?_
    exact lw_page hO s hI H hK i hi hn l5 l6 E hE2
  · refine EV.tsw 15 ⟨_, rfl, fun _ _ _ => rfl⟩ hx (by decide) ?_
    exact lw_measure hO s hI H hK i hi hn l5 l6 E hE2
  · refine EV.tsw 16 ⟨_, rfl, fun _ _ _ => rfl⟩ hx (by decide) ?_
    exact lw_slot hO s hI H hK i hi hn l5 l6 E hE2
  · refine EV.tsw 17 ⟨_, rfl, fun _ _ _ => rfl⟩ hx (by decide) ?_
    exact lw_count hO s hI H hK i hi hn l5 l6 E hE2
  · refine EV.tsw (q + 18) ⟨_, rfl, fun _ _ _ => rfl⟩ hx (by omega) ?_
    simp only [List.getD, List.getElem?_cons_succ, List.getElem?_nil, Option.getD_none]
    exact hE2 s H hI hK rfl
set_option maxHeartbeats 1000000 in
set_option maxRecDepth 100000 in
theorem lw_pk1 {H : e_H} {i : Nat} {l5 l6 : Option Value} (hn : n ≤ 2562) (hi : i + 5 ≤ n) (hsc : H.1 sc = some (.inr (.inl (n, sf)))) (h0 : opx (sf i) = 0) : ev_E tbs bs sa 7 t_L_law (fun x => x = .inl (161, lwl sc B M i l5 l6, [.int (sf (i + 2)), .int (sf (i + 1)), .ref B], H)) (45, lwl sc B M i l5 l6, [], H) := by
  refine lw_head hn hi hsc ?_
  have hx := opx_eq (sf i)
  rw [h0] at hx
  unfold lwl
  refine EV.tsw 0 ⟨_, rfl, fun _ _ _ => rfl⟩ hx (by decide) ?_
  repeat refine EV.s rfl rfl rfl ?_
  refine EV.iald (j := i + 1) rfl hsc (nI_add i 1) (by omega) (by omega) ?_
  repeat refine EV.s rfl rfl rfl ?_
  refine EV.iald (j := i + 2) rfl hsc (nI_add i 2) (by omega) (by omega) ?_
  exact EV.fin rfl
set_option maxHeartbeats 1000000 in
set_option maxRecDepth 100000 in
theorem lw_bf1 {H : e_H} {i : Nat} {l5 l6 : Option Value} (hn : n ≤ 2562) (hi : i + 5 ≤ n) (hsc : H.1 sc = some (.inr (.inl (n, sf)))) (h0 : opx (sf i) = 1) : ev_E tbs bs sa 7 t_L_law (fun x => x = .inl (204, lwl sc B M i l5 l6, [.ref (M + 19), .int (sf (i + 1)), .ref B], H)) (45, lwl sc B M i l5 l6, [], H) := by
  refine lw_head hn hi hsc ?_
  have hx := opx_eq (sf i)
  rw [h0] at hx
  unfold lwl
  refine EV.tsw 1 ⟨_, rfl, fun _ _ _ => rfl⟩ hx (by decide) ?_
  repeat refine EV.s rfl rfl rfl ?_
  refine EV.iald (j := i + 1) rfl hsc (nI_add i 1) (by omega) (by omega) ?_
  repeat refine EV.s rfl rfl rfl ?_
  exact EV.fin rfl
theorem lw_mo2 (hO : lwO bs B P z M sc sa) {s1 : zS} {Mo Mo' : List e_O → Prop} {H : e_H} (hK : lwK B P z M sc n sa key mark I K sf s1 Mo H) {y : Nat} {avs : List Value} {v : Option Value} (hm : ∀ o, Mo o → CT bs sa 7 y avs (mas M sa) o (fun rv o' => rv = v ∧ Mo' o')) (hMo' : ∀ o, Mo' o → mok I K o) : ∃ H', ev_run tbs bs sa 7 y avs H v H' ∧ lwK B P z M sc n sa key mark I K sf s1 Mo' H' ∧ H'.2 = H.2 ∧ H'.1 (M + 19) = H.1 (M + 19) := by
  obtain ⟨hP, hz, hM, hC, hD, hsa, hscB⟩ := hO
  obtain ⟨⟨h, hS⟩, ⟨o, h2, hMo, hmo, rfl⟩, ⟨g, hg⟩, hsc⟩ := hK
  obtain ⟨rv, o', ⟨⟨rfl, hQ⟩, -⟩, hr⟩ := hm o hMo h2
  have fr := mo_frame (h := h2) hD hmo (hMo' o' hQ)
  refine ⟨_, hr, ⟨⟨_, cS_move hC hz hS (fun a ha hb => fr a (by omega)) (fun j hj => fr _ (Or.inl (by have := hsa j (by omega); omega)))⟩, ⟨o', h2, hQ, hMo' o' hQ, rfl⟩, ⟨g, ?_⟩, ?_⟩, rfl, fr _ (Or.inr (Nat.le_refl _))⟩
  · rw [fr _ (Or.inr (Nat.le_refl _))]; exact hg
  · rw [fr _ (Or.inl (by omega))]; exact hsc
set_option maxHeartbeats 1000000 in
set_option maxRecDepth 100000 in
theorem lw_pk2 (hO : lwO bs B P z M sc sa) (s : zS) (hI : Iv P s) (H : e_H) (i : Nat) (hi : i + 5 ≤ n) (hn : n ≤ 2562) (hK : lwK B P z M sc n sa key mark I K sf (q_poke (sf (i + 1)) (sf (i + 2)) s).2 (mS M P key mark I K s) H) (l5 l6 : Option Value)
    (hE : ∀ l5 H', lwK B P z M sc n sa key mark I K sf (q_poke (sf (i + 1)) (sf (i + 2)) s).2 (mS M P key mark I K (q_poke (sf (i + 1)) (sf (i + 2)) s).2) H' → H'.2 = H.2 → E (.inl (45, lwl sc B M (i + 5) l5 l6, [], H'))) : ev_E tbs bs sa 7 t_L_law E (164, lwl sc B M i l5 l6, [.int (q_poke (sf (i + 1)) (sf (i + 2)) s).1], H) := by
  have hbM : bs ≤ M := by have := hO.2.2.1; have := hO.2.1; have := hO.2.2.2.1.2.2.1; omega
  have hsc := hK.2.2.2
  obtain ⟨fs, hm⟩ := hK.m hO
  obtain ⟨H1, hr1, hK1, e1, -⟩ := lw_mo2 hO hK (v := none) (Mo' := mSt M P key mark I K (q_poke (sf (i + 1)) (sf (i + 2)) s).1 (q_poke (sf (i + 1)) (sf (i + 2)) s).2) (fun o ho => m_poke 6 M P hO.1 key mark I K hbM hO.2.2.2.2.1 s hI o ho (sf (i + 1)) (sf (i + 2))) (fun o h => h.ok)
  obtain ⟨fs1, hm1⟩ := hK1.m hO
  obtain ⟨H2, hr2, hK2, e2, -⟩ := lw_mo2 hO hK1 (v := some (.int (q_poke (sf (i + 1)) (sf (i + 2)) s).1)) (Mo' := mS M P key mark I K (q_poke (sf (i + 1)) (sf (i + 2)) s).2) (fun o ho => m_thrown 6 M P key mark I K hO.2.2.2.2.1 _ _ o ho) (fun o h => h.ok)
  unfold lwl
  repeat refine EV.s rfl rfl rfl ?_
  refine EV.iald (j := i + 1) rfl hsc (nI_add i 1) (by omega) (by omega) ?_
  repeat refine EV.s rfl rfl rfl ?_
  refine EV.iald (j := i + 2) rfl hsc (nI_add i 2) (by omega) (by omega) ?_
  refine EV.cv rfl rfl (hm) (Nat.le_of_ble_eq_true rfl) (Nat.le_of_ble_eq_true rfl) (hr1) ?_
  repeat refine EV.s rfl rfl rfl ?_
  refine EV.cv rfl rfl (hm1) (Nat.le_of_ble_eq_true rfl) (Nat.le_of_ble_eq_true rfl) (hr2) ?_
  repeat refine EV.s rfl rfl rfl ?_
  refine EV.icT rfl (decide_eq_true rfl) ?_
  refine EV.s rfl rfl rfl ?_
  exact lw_next (EV.fin (hE _ H2 hK2 (e2.trans e1)))
set_option maxHeartbeats 1000000 in
set_option maxRecDepth 100000 in
theorem lw_bf2 (hO : lwO bs B P z M sc sa) (s : zS) (hI : Iv P s) (H : e_H) (i : Nat) (hi : i + 5 ≤ n) (hn : n ≤ 2562) (hK : lwK B P z M sc n sa key mark I K sf s (mS M P key mark I K s) H) (hout : (q_buffer (sf (i + 1)) s).1 = 0 → ∃ g : Nat → Int64, g 0 = (q_buffer (sf (i + 1)) s).2.toInt64 ∧ H.1 (M + 19) = some (.inr (.inr (.inl (1, g))))) (l5 l6 : Option Value)
    (hE : ∀ l5 l6 H', lwK B P z M sc n sa key mark I K sf s (mS M P key mark I K s) H' → H'.2 = H.2 → E (.inl (45, lwl sc B M (i + 5) l5 l6, [], H'))) : ev_E tbs bs sa 7 t_L_law E (207, lwl sc B M i l5 l6, [.int (q_buffer (sf (i + 1)) s).1], H) := by
  have hbM : bs ≤ M := by have := hO.2.2.1; have := hO.2.1; have := hO.2.2.2.1.2.2.1; omega
  have hsc := hK.2.2.2
  obtain ⟨fs, hm⟩ := hK.m hO
  obtain ⟨H1, hr1, hK1, e1, o1⟩ := lw_mo2 hO hK (v := some (.int (q_buffer (sf (i + 1)) s).2)) (Mo' := mSt M P key mark I K (q_buffer (sf (i + 1)) s).1 s) (fun o ho => m_buffer 6 M P hO.1 key mark I K hbM hO.2.2.2.2.1 s hI o ho (sf (i + 1))) (fun o h => h.ok)
  obtain ⟨fs1, hm1⟩ := hK1.m hO
  obtain ⟨H2, hr2, hK2, e2, o2⟩ := lw_mo2 hO hK1 (v := some (.int (q_buffer (sf (i + 1)) s).1)) (Mo' := mS M P key mark I K s) (fun o ho => m_thrown 6 M P key mark I K hO.2.2.2.2.1 _ _ o ho) (fun o h => h.ok)
  unfold lwl
  repeat refine EV.s rfl rfl rfl ?_
  refine EV.iald (j := i + 1) rfl hsc (nI_add i 1) (by omega) (by omega) ?_
  refine EV.cv rfl rfl (hm) (Nat.le_of_ble_eq_true rfl) (Nat.le_of_ble_eq_true rfl) (hr1) ?_
  repeat refine EV.s rfl rfl rfl ?_
  refine EV.cv rfl rfl (hm1) (Nat.le_of_ble_eq_true rfl) (Nat.le_of_ble_eq_true rfl) (hr2) ?_
  repeat refine EV.s rfl rfl rfl ?_
  refine EV.icT rfl (decide_eq_true rfl) ?_
  repeat refine EV.s rfl rfl rfl ?_
  by_cases h0 : (q_buffer (sf (i + 1)) s).1 = 0
  · obtain ⟨g, hg, ho⟩ := hout h0
    refine EV.ifF rfl (decide_eq_false (fun q => q h0)) ?_
    repeat refine EV.s rfl rfl rfl ?_
    refine EV.lald (g := g) rfl (by rw [o2, o1]; exact ho) ?_
    repeat refine EV.s rfl rfl rfl ?_
    refine EV.ifT rfl (decide_eq_true ((lg_cmp_eq _ _).mpr hg)) ?_
    refine EV.s rfl rfl rfl ?_
    exact lw_next (EV.fin (hE _ _ H2 hK2 (e2.trans e1)))
  · refine EV.ifT rfl (decide_eq_true h0) ?_
    refine EV.s rfl rfl rfl ?_
    exact lw_next (EV.fin (hE _ _ H2 hK2 (e2.trans e1)))
end LWL
