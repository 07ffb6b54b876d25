section MPF
variable {bs : Nat} {sa : Nat → Nat}
theorem Iv.own {P : Nat} {F w ms : Nat → Nat → Int32} {z} (hI : Iv P (F, w, ms, z)) {p : Nat} (hp : p < P) (hP : P ≤ 40) (h : F 0 p = 2 ∨ F 0 p = 3) : ∃ e, e < P ∧ F 1 p = nI e ∧ F 0 e = 1 ∧ (fin1 P F (F 1 p) ↔ F 5 e = 1) := by
  obtain ⟨-, -, h3, -⟩ := hI p hp
  obtain ⟨e, he, ho, ht⟩ := h3 h
  have ho : F 1 p = nI e := ho
  have ht : F 0 e = 1 := ht
  refine ⟨e, he, ho, ht, ?_⟩
  rw [ho]
  unfold fin1
  rw [cnI (by omega)]
  constructor
  · exact fun z => z.2
  · exact fun z => ⟨⟨nI_pos' (by omega), nI_lt he (by omega), by rw [cnI (by omega)]; exact ht⟩, z⟩
set_option maxHeartbeats 1000000 in
set_option maxRecDepth 100000 in
theorem r_menter_z (d M P : Nat) (th c0 c1 c2 c3 : Int32) (lg : Int64) (pc mk en gv ft : Int32) (F w ms : Nat → Nat → Int32) (B key mark A H G T S St r I K : Nat → Int32) (hbs : bs ≤ M) (l1 l2 l3 l4 : Int32) (h : e_H) (hD : (mas M sa).Nodup) (E : e_C ⊕ (Option Value × e_H) → Prop)
    (hK : ∀ (ki : Int32), ev_E tbs bs sa (d) t_X5_enter E (88, [some (.ref M), some (.int l1), some (.int l2), some (.int l3), some (.int l4), some (.int ki)], [], wd (mas M sa) (mo M P th c0 c1 c2 c3 lg pc mk en gv ft F w ms B key mark A H G T S St (zf r 0 8) I K) h)) :
    ∀ (c k : Nat), k + c = 8 → ∀ Z, Z = zf r 0 k → ∀ (ki : Int32), ki = nI k → ev_E tbs bs sa (d) t_X5_enter E (71, [some (.ref M), some (.int l1), some (.int l2), some (.int l3), some (.int l4), some (.int ki)], [.int 8, .int ki], wd (mas M sa) (mo M P th c0 c1 c2 c3 lg pc mk en gv ft F w ms B key mark A H G T S St Z I K) h) := by
  intro c
  induction c with
  | zero =>
    intro k hkc Z hZ ki hki
    have e : k = 8 := by omega
    subst e; subst hZ; subst hki
    refine EV.icm rfl (fun hc => ?_) (fun hc => ?_)
    · exact hK _
    · exact absurd (by decide : (8 : Int32) ≤ nI 8) (of_decide_eq_false hc)
  | succ c ih =>
    intro k hkc Z hZ ki hki
    subst hki; subst hZ
    refine EV.icm rfl (fun hc => ?_) (fun hc => ?_)
    · exact absurd (of_decide_eq_true hc) (nI_ge (b := 8) (by omega) (by decide))
    · repeat (first | refine EV.s rfl rfl rfl ?_ | refine EW.get 0 hD rfl rfl rfl rfl ?_)
      refine EW.iastY 18 (k) (mo M P th c0 c1 c2 c3 lg pc mk en gv ft F w ms B key mark A H G T S St (zf r 0 (k + 1)) I K) hD rfl rfl rfl (by omega) (rfl) (by omega) (by decide) (by rw [zf_s r (Nat.zero_le k)]; rfl) ?_
      repeat refine EV.s rfl rfl rfl ?_
      exact ih (k + 1) (by omega) _ (rfl) _ (nI_1 k)
set_option maxHeartbeats 1000000 in
set_option maxRecDepth 100000 in
theorem r_mres_c (d M P : Nat) (th c0 c1 c2 c3 : Int32) (lg : Int64) (pc mk en gv ft : Int32) (F w ms : Nat → Nat → Int32) (B key mark A H G T S St r I K : Nat → Int32) (j : Nat) (hj : j < 40) (hbs : bs ≤ M) (l2 : Int32) (h : e_H) (hD : (mas M sa).Nodup) (E : e_C ⊕ (Option Value × e_H) → Prop)
    (hK : ∀ (ki : Int32), ev_E tbs bs sa (d) t_X5_resume E (95, [some (.ref M), some (.int (nI j)), some (.int l2), some (.int ki)], [], wd (mas M sa) (mo M P th c0 c1 c2 c3 lg pc mk en gv ft F w ms B key mark A H G T S St (va_cpy (fl32 w) r (32 * j + 3) 0 8) I K) h)) :
    ∀ (c k : Nat), k + c = 8 → ∀ Z, Z = va_cpy (fl32 w) r (32 * j + 3) 0 k → ∀ (ki : Int32), ki = nI k → ev_E tbs bs sa (d) t_X5_resume E (67, [some (.ref M), some (.int (nI j)), some (.int l2), some (.int ki)], [.int 8, .int ki], wd (mas M sa) (mo M P th c0 c1 c2 c3 lg pc mk en gv ft F w ms B key mark A H G T S St Z I K) h) := by
  intro c
  induction c with
  | zero =>
    intro k hkc Z hZ ki hki
    have e : k = 8 := by omega
    subst e; subst hZ; subst hki
    refine EV.icm rfl (fun hc => ?_) (fun hc => ?_)
    · exact hK _
    · exact absurd (by decide : (8 : Int32) ≤ nI 8) (of_decide_eq_false hc)
  | succ c ih =>
    intro k hkc Z hZ ki hki
    subst hki; subst hZ
    refine EV.icm rfl (fun hc => ?_) (fun hc => ?_)
    · exact absurd (of_decide_eq_true hc) (nI_ge (b := 8) (by omega) (by decide))
    · have e1 : (32 : Int32) * nI j + 3 + nI k = nI (32 * j + 3 + k) := by
        have a1 : (32 : Int32) * nI j = nI (32 * j) := pk_mul 32 j
        have a2 : nI (32 * j) + 3 = nI (32 * j + 3) := nI_add _ 3
        rw [a1, a2, nI_add]
      repeat (first | refine EV.s rfl rfl rfl ?_ | refine EW.get 0 hD rfl rfl rfl rfl ?_)
      refine EW.iald 7 (32 * j + 3 + k) hD rfl rfl rfl (e1) (by omega) (by decide) ?_
      refine EW.iastY 18 (k) (mo M P th c0 c1 c2 c3 lg pc mk en gv ft F w ms B key mark A H G T S St (va_cpy (fl32 w) r (32 * j + 3) 0 (k + 1)) I K) hD rfl rfl rfl (by omega) (rfl) (by omega) (by decide) (by rw [cpyS, Nat.zero_add]; rfl) ?_
      repeat refine EV.s rfl rfl rfl ?_
      exact ih (k + 1) (by omega) _ (rfl) _ (nI_1 k)
set_option maxHeartbeats 2000000 in
set_option maxRecDepth 100000 in
theorem m_enter (d M P : Nat) (hP : P ≤ 40) (key mark I K : Nat → Int32) (hbs : bs ≤ M) (hD : (mas M sa).Nodup) (s : zS) (hI : Iv P s) (o : List e_O) (ho : mS M P key mark I K s o) (p a b n : Int32) :
    CT bs sa (d + 5) 92 [.ref M, .int p, .int a, .int b, .int n] (mas M sa) o (fun rv o' => rv = some (.int (q_enter P p a b n s).1) ∧ mS M P key mark I K (q_enter P p a b n s).2 o') := by
  obtain ⟨F, w, ms, B, lg, ⟨c0, c1, c2, c3⟩, ⟨en, gv, ft, mk⟩⟩ := s; obtain ⟨th, pc, A, H, G, T, S, St, r, rfl⟩ := ho
  refine CT.mk (T := t_X5_enter) rfl (Nat.le_of_ble_eq_true rfl) (fun h => ?_)
  repeat refine EV.s rfl rfl rfl ?_
  refine EW.putY 0 (mo M P 0 c0 c1 c2 c3 lg pc mk en gv ft F w ms B key mark A H G T S St r I K) hD rfl rfl rfl hbs (Nat.le_of_ble_eq_true rfl) rfl rfl ?_
  repeat refine EV.s rfl rfl rfl ?_
  refine EW.cvY 0 [0, 1] (mo M P 0 c0 c1 c2 c3 lg pc mk en gv ft F w ms B key mark A H G T S St r I K) hD (fun h0 => r_misOf (d + 3) M P hP _ rfl rfl p 2 (F 0) h0 (nd_sub hD [0, 1] (by decide) rfl)) rfl rfl rfl rfl rfl (Nat.le_of_ble_eq_true rfl) (Nat.le_of_ble_eq_true rfl) rfl rfl rfl rfl rfl ?_
  by_cases hp : ty P F p 2
  rotate_left
  · rw [iso_n hp]
    refine EV.ifF rfl (by decide) ?_
    repeat refine EV.s rfl rfl rfl ?_
    refine EV.ri rfl rfl ?_
    have hq : q_enter P p a b n (F, w, ms, B, lg, (c0, c1, c2, c3), (en, gv, ft, mk)) = _ := if_neg hp
    rw [hq]
    exact mfin ⟨rfl, 0, pc, A, H, G, T, S, St, r, rfl⟩ rfl
  rw [iso_y hp]
  refine EV.ifT rfl (by decide) ?_
  obtain ⟨j, hj, rfl, ht⟩ := ty_j hP hp
  obtain ⟨e, he, hoe, hte, hfin⟩ := hI.own hj hP (Or.inl ht)
  have e1 : (32 : Int32) * nI j + 1 = nI (32 * j + 1) := by
    have a1 : (32 : Int32) * nI j = nI (32 * j) := pk_mul 32 j
    rw [a1]; exact nI_add _ 1
  have hno : ¬ (fin1 P F (F 1 j) ∧ w j 1 = 0) → ∀ pc2, pc2 = 45 → ev_E tbs bs sa (d + 4) t_X5_enter (fun y => ∃ v h', y = .inr (v, h') ∧ ∃ os2, ((v = some (.int (q_enter P (nI j) a b n (F, w, ms, B, lg, (c0, c1, c2, c3), (en, gv, ft, mk))).1) ∧ mS M P key mark I K (q_enter P (nI j) a b n (F, w, ms, B, lg, (c0, c1, c2, c3), (en, gv, ft, mk))).2 os2) ∧ os2.length = (mas M sa).length) ∧ h' = wd (mas M sa) os2 h) (pc2, [some (.ref M), some (.int (nI j)), some (.int a), some (.int b), some (.int n), none], [], wd (mas M sa) (mo M P 0 c0 c1 c2 c3 lg pc mk en gv ft F w ms B key mark A H G T S St r I K) h) := by
    intro hn pc2 hpc
    subst hpc
    have hq : q_enter P (nI j) a b n (F, w, ms, B, lg, (c0, c1, c2, c3), (en, gv, ft, mk)) = _ := (if_pos hp).trans (if_neg (by rw [cnI (by omega)]; exact hn))
    rw [hq]
    repeat refine EV.s rfl rfl rfl ?_
    refine EV.ri rfl rfl ?_
    exact mfin ⟨rfl, 0, pc, A, H, G, T, S, St, r, rfl⟩ rfl
  repeat (first | refine EV.s rfl rfl rfl ?_ | refine EW.get 0 hD rfl rfl rfl rfl ?_)
  refine EW.iald 2 (j) hD rfl rfl rfl (rfl) (by omega) (by decide) ?_
  rw [hoe]
  refine EW.iald 6 (e) hD rfl rfl rfl (rfl) (by omega) (by decide) ?_
  repeat refine EV.s rfl rfl rfl ?_
  by_cases h5 : F 5 e = 1
  rotate_left
  · refine EV.icT rfl (decide_eq_true h5) ?_
    exact hno (fun z => h5 (hfin.mp z.1)) 45 rfl
  refine EV.icF rfl (decide_eq_false (fun z => z h5)) ?_
  repeat (first | refine EV.s rfl rfl rfl ?_ | refine EW.get 0 hD rfl rfl rfl rfl ?_)
  refine EW.iald 7 (32 * j + 1) hD rfl rfl rfl (e1) (by omega) (by decide) ?_
  rw [fl32_at w j 1 (by decide)]
  by_cases hs : w j 1 = 0
  rotate_left
  · refine EV.ifF rfl (decide_eq_false hs) ?_
    exact hno (fun z => hs z.2) 45 rfl
  refine EV.ifT rfl (decide_eq_true hs) ?_
  have hok : fin1 P F (F 1 (cn (nI j))) ∧ w (cn (nI j)) 1 = 0 := by rw [cnI (by omega)]; exact ⟨hfin.mpr h5, hs⟩
  by_cases hn : inI n 5001
  rotate_left
  · have hq : q_enter P (nI j) a b n (F, w, ms, B, lg, (c0, c1, c2, c3), (en, gv, ft, mk)) = _ := (if_pos hp).trans ((if_pos hok).trans (if_neg hn))
    rw [hq]
    repeat refine EV.s rfl rfl rfl ?_
    refine EV.ifc rfl (fun hb => ?_) (fun hb => ?_)
    · repeat refine EV.s rfl rfl rfl ?_
      refine EV.ri rfl rfl ?_
      exact mfin ⟨rfl, 0, pc, A, H, G, T, S, St, r, rfl⟩ rfl
    · repeat refine EV.s rfl rfl rfl ?_
      refine EV.icF rfl (decide_eq_false (le1023 (n := 5000) (by decide) hn (of_decide_eq_false hb))) ?_
      repeat refine EV.s rfl rfl rfl ?_
      refine EV.ri rfl rfl ?_
      exact mfin ⟨rfl, 0, pc, A, H, G, T, S, St, r, rfl⟩ rfl
  have hq : q_enter P (nI j) a b n (F, w, ms, B, lg, (c0, c1, c2, c3), (en, gv, ft, mk)) = _ := (if_pos hp).trans ((if_pos hok).trans (if_pos hn))
  rw [hq]
  obtain ⟨N, hN, rfl⟩ := in_nI (by decide) hn
  repeat refine EV.s rfl rfl rfl ?_
  refine EV.ifF rfl (decide_eq_false (nI_pos (by omega))) ?_
  repeat refine EV.s rfl rfl rfl ?_
  refine EV.icT rfl (decide_eq_true (nI_le (b := 5000) (by omega) (by decide))) ?_
  repeat refine EV.s rfl rfl rfl ?_
  refine r_menter_z (d + 4) M P 0 c0 c1 c2 c3 lg pc mk en gv ft F w ms B key mark A H G T S St r I K hbs _ _ _ _ h hD _ (fun ki => ?_) 8 0 rfl _ (zf_0 _ _).symm _ rfl
  repeat (first | refine EV.s rfl rfl rfl ?_ | refine EW.get 0 hD rfl rfl rfl rfl ?_)
  refine EW.iastY 18 (0) (mo M P 0 c0 c1 c2 c3 lg pc mk en gv ft F w ms B key mark A H G T S St (upd (zf r 0 8) 0 a) I K) hD rfl rfl rfl (by omega) (rfl) (by decide) (by decide) (rfl) ?_
  repeat (first | refine EV.s rfl rfl rfl ?_ | refine EW.get 0 hD rfl rfl rfl rfl ?_)
  refine EW.iastY 18 (1) (mo M P 0 c0 c1 c2 c3 lg pc mk en gv ft F w ms B key mark A H G T S St (upd (upd (zf r 0 8) 0 a) 1 b) I K) hD rfl rfl rfl (by omega) (rfl) (by decide) (by decide) (rfl) ?_
  repeat (first | refine EV.s rfl rfl rfl ?_ | refine EW.get 0 hD rfl rfl rfl rfl ?_)
  refine EW.iald 7 (32 * j + 0) hD rfl rfl rfl (pk_mul 32 j) (by omega) (by decide) ?_
  rw [fl32_at w j 0 (by decide)]
  refine EW.putY 0 (mo M P 0 c0 c1 c2 c3 lg (w j 0) mk en gv ft F w ms B key mark A H G T S St (upd (upd (zf r 0 8) 0 a) 1 b) I K) hD rfl rfl rfl hbs (Nat.le_of_ble_eq_true rfl) rfl rfl ?_
  repeat refine EV.s rfl rfl rfl ?_
  have hal : al8 (upd (upd (zf r 0 8) 0 a) 1 b) (fun k => if k = 0 then a else if k = 1 then b else if k < 8 then 0 else w j (3 + k)) := by
    intro k hk
    by_cases k1 : k = 1
    · subst k1; rfl
    · by_cases k0 : k = 0
      · subst k0; rfl
      · show (if k = 1 then b else if k = 0 then a else if 0 ≤ k ∧ k < 8 then 0 else r k) = if k = 0 then a else if k = 1 then b else if k < 8 then 0 else w j (3 + k)
        rw [if_neg k1, if_neg k0, if_pos ⟨Nat.zero_le _, hk⟩, if_neg k0, if_neg k1, if_pos hk]
  obtain ⟨hw, w', pc', m', gv', ft', r', r2', e2, e3, hal'⟩ := rnn_al (P := P) (F := F) (ms := ms) (e := e) N w _ _ (w j 0) 0 0 (-1) hal
  refine EW.cvY 0 [0, 1, 2, 3, 4, 7, 8, 18] (mo M P 0 c0 c1 c2 c3 lg pc' m' hw gv' ft' F (rnf w' j hw pc' r') ms B key mark A H G T S St r' I K) hD (fun h0 => r_mrun d M P 0 c0 c1 c2 c3 lg (w j 0) mk en gv ft hP F w ms _ e j N (by omega) (by omega) (by omega) hoe h0 (nd_sub hD [0, 1, 2, 3, 4, 7, 8, 18] (by decide) rfl) hbs hw w' r' pc' m' gv' ft' e2) rfl rfl rfl rfl rfl (Nat.le_of_ble_eq_true rfl) (Nat.le_of_ble_eq_true rfl) rfl rfl rfl rfl rfl ?_
  refine EV.ri rfl rfl ?_
  have hq2 : q_run P (nI j) (nI N) (fun k => if k = 0 then a else if k = 1 then b else if k < 8 then 0 else w (cn (nI j)) (3 + k)) (w (cn (nI j)) 0) (F, w, ms, B, lg, (c0, c1, c2, c3), (en, gv, ft, mk)) = (hw, (F, rnf w' j hw pc' r2', ms, B, lg, (c0, c1, c2, c3), (hw, gv', ft', m'))) := by
    simp only [q_run]
    rw [cnI (by omega), cnI (by omega), hoe, cnI (by omega), e3]
  refine mfin ?_ rfl
  show some (Value.int hw) = some (.int (q_run P (nI j) (nI N) (fun k => if k = 0 then a else if k = 1 then b else if k < 8 then 0 else w (cn (nI j)) (3 + k)) (w (cn (nI j)) 0) (F, w, ms, B, lg, (c0, c1, c2, c3), (en, gv, ft, mk))).1) ∧ mS M P key mark I K (q_run P (nI j) (nI N) (fun k => if k = 0 then a else if k = 1 then b else if k < 8 then 0 else w (cn (nI j)) (3 + k)) (w (cn (nI j)) 0) (F, w, ms, B, lg, (c0, c1, c2, c3), (en, gv, ft, mk))).2 _
  rw [hq2, ← rnf_al hal']
  exact ⟨rfl, 0, pc', A, H, G, T, S, St, r', rfl⟩
set_option maxHeartbeats 2000000 in
set_option maxRecDepth 100000 in
theorem m_resume (d M P : Nat) (hP : P ≤ 40) (key mark I K : Nat → Int32) (hbs : bs ≤ M) (hD : (mas M sa).Nodup) (s : zS) (hI : Iv P s) (o : List e_O) (ho : mS M P key mark I K s o) (p n : Int32) :
    CT bs sa (d + 5) 93 [.ref M, .int p, .int n] (mas M sa) o (fun rv o' => rv = some (.int (q_resume P p n s).1) ∧ mS M P key mark I K (q_resume P p n s).2 o') := by
  obtain ⟨F, w, ms, B, lg, ⟨c0, c1, c2, c3⟩, ⟨en, gv, ft, mk⟩⟩ := s; obtain ⟨th, pc, A, H, G, T, S, St, r, rfl⟩ := ho
  refine CT.mk (T := t_X5_resume) rfl (Nat.le_of_ble_eq_true rfl) (fun h => ?_)
  repeat refine EV.s rfl rfl rfl ?_
  refine EW.putY 0 (mo M P 0 c0 c1 c2 c3 lg pc mk en gv ft F w ms B key mark A H G T S St r I K) hD rfl rfl rfl hbs (Nat.le_of_ble_eq_true rfl) rfl rfl ?_
  repeat refine EV.s rfl rfl rfl ?_
  refine EW.cvY 0 [0, 1] (mo M P 0 c0 c1 c2 c3 lg pc mk en gv ft F w ms B key mark A H G T S St r I K) hD (fun h0 => r_misOf (d + 3) M P hP _ rfl rfl p 2 (F 0) h0 (nd_sub hD [0, 1] (by decide) rfl)) rfl rfl rfl rfl rfl (Nat.le_of_ble_eq_true rfl) (Nat.le_of_ble_eq_true rfl) rfl rfl rfl rfl rfl ?_
  by_cases hp : ty P F p 2
  rotate_left
  · rw [iso_n hp]
    refine EV.ifF rfl (by decide) ?_
    repeat refine EV.s rfl rfl rfl ?_
    refine EV.ri rfl rfl ?_
    have hq : q_resume P p n (F, w, ms, B, lg, (c0, c1, c2, c3), (en, gv, ft, mk)) = _ := if_neg hp
    rw [hq]
    exact mfin ⟨rfl, 0, pc, A, H, G, T, S, St, r, rfl⟩ rfl
  rw [iso_y hp]
  refine EV.ifT rfl (by decide) ?_
  obtain ⟨j, hj, rfl, ht⟩ := ty_j hP hp
  obtain ⟨e, he, hoe, hte, hfin⟩ := hI.own hj hP (Or.inl ht)
  have e1 : (32 : Int32) * nI j + 1 = nI (32 * j + 1) := by
    have a1 : (32 : Int32) * nI j = nI (32 * j) := pk_mul 32 j
    rw [a1]; exact nI_add _ 1
  have e22 : (32 : Int32) * nI j + 2 = nI (32 * j + 2) := by
    have a1 : (32 : Int32) * nI j = nI (32 * j) := pk_mul 32 j
    rw [a1]; exact nI_add _ 2
  have hno : ¬ (fin1 P F (F 1 j) ∧ w j 1 ≠ 0) → ∀ pc2, pc2 = 45 → ev_E tbs bs sa (d + 4) t_X5_resume (fun y => ∃ v h', y = .inr (v, h') ∧ ∃ os2, ((v = some (.int (q_resume P (nI j) n (F, w, ms, B, lg, (c0, c1, c2, c3), (en, gv, ft, mk))).1) ∧ mS M P key mark I K (q_resume P (nI j) n (F, w, ms, B, lg, (c0, c1, c2, c3), (en, gv, ft, mk))).2 os2) ∧ os2.length = (mas M sa).length) ∧ h' = wd (mas M sa) os2 h) (pc2, [some (.ref M), some (.int (nI j)), some (.int n), none], [], wd (mas M sa) (mo M P 0 c0 c1 c2 c3 lg pc mk en gv ft F w ms B key mark A H G T S St r I K) h) := by
    intro hn pc2 hpc
    subst hpc
    have hq : q_resume P (nI j) n (F, w, ms, B, lg, (c0, c1, c2, c3), (en, gv, ft, mk)) = _ := (if_pos hp).trans (if_neg (by rw [cnI (by omega)]; exact hn))
    rw [hq]
    repeat refine EV.s rfl rfl rfl ?_
    refine EV.ri rfl rfl ?_
    exact mfin ⟨rfl, 0, pc, A, H, G, T, S, St, r, rfl⟩ rfl
  repeat (first | refine EV.s rfl rfl rfl ?_ | refine EW.get 0 hD rfl rfl rfl rfl ?_)
  refine EW.iald 2 (j) hD rfl rfl rfl (rfl) (by omega) (by decide) ?_
  rw [hoe]
  refine EW.iald 6 (e) hD rfl rfl rfl (rfl) (by omega) (by decide) ?_
  repeat refine EV.s rfl rfl rfl ?_
  by_cases h5 : F 5 e = 1
  rotate_left
  · refine EV.icT rfl (decide_eq_true h5) ?_
    exact hno (fun z => h5 (hfin.mp z.1)) 45 rfl
  refine EV.icF rfl (decide_eq_false (fun z => z h5)) ?_
  repeat (first | refine EV.s rfl rfl rfl ?_ | refine EW.get 0 hD rfl rfl rfl rfl ?_)
  refine EW.iald 7 (32 * j + 1) hD rfl rfl rfl (e1) (by omega) (by decide) ?_
  rw [fl32_at w j 1 (by decide)]
  by_cases hs : w j 1 = 0
  · refine EV.ifF rfl (decide_eq_false (fun z => z hs)) ?_
    exact hno (fun z => z.2 hs) 45 rfl
  refine EV.ifT rfl (decide_eq_true hs) ?_
  have hok : fin1 P F (F 1 (cn (nI j))) ∧ w (cn (nI j)) 1 ≠ 0 := by rw [cnI (by omega)]; exact ⟨hfin.mpr h5, hs⟩
  by_cases hn : inI n 5001
  rotate_left
  · have hq : q_resume P (nI j) n (F, w, ms, B, lg, (c0, c1, c2, c3), (en, gv, ft, mk)) = _ := (if_pos hp).trans ((if_pos hok).trans (if_neg hn))
    rw [hq]
    repeat refine EV.s rfl rfl rfl ?_
    refine EV.ifc rfl (fun hb => ?_) (fun hb => ?_)
    · repeat refine EV.s rfl rfl rfl ?_
      refine EV.ri rfl rfl ?_
      exact mfin ⟨rfl, 0, pc, A, H, G, T, S, St, r, rfl⟩ rfl
    · repeat refine EV.s rfl rfl rfl ?_
      refine EV.icF rfl (decide_eq_false (le1023 (n := 5000) (by decide) hn (of_decide_eq_false hb))) ?_
      repeat refine EV.s rfl rfl rfl ?_
      refine EV.ri rfl rfl ?_
      exact mfin ⟨rfl, 0, pc, A, H, G, T, S, St, r, rfl⟩ rfl
  have hq : q_resume P (nI j) n (F, w, ms, B, lg, (c0, c1, c2, c3), (en, gv, ft, mk)) = _ := (if_pos hp).trans ((if_pos hok).trans (if_pos hn))
  rw [hq]
  obtain ⟨N, hN, rfl⟩ := in_nI (by decide) hn
  repeat refine EV.s rfl rfl rfl ?_
  refine EV.ifF rfl (decide_eq_false (nI_pos (by omega))) ?_
  repeat refine EV.s rfl rfl rfl ?_
  refine EV.icT rfl (decide_eq_true (nI_le (b := 5000) (by omega) (by decide))) ?_
  repeat refine EV.s rfl rfl rfl ?_
  refine r_mres_c (d + 4) M P 0 c0 c1 c2 c3 lg pc mk en gv ft F w ms B key mark A H G T S St r I K j (by omega) hbs _ h hD _ (fun ki => ?_) 8 0 rfl _ (cpy0 _ _ _ _).symm _ rfl
  repeat (first | refine EV.s rfl rfl rfl ?_ | refine EW.get 0 hD rfl rfl rfl rfl ?_)
  refine EW.iald 7 (32 * j + 2) hD rfl rfl rfl (e22) (by omega) (by decide) ?_
  rw [fl32_at w j 2 (by decide)]
  refine EW.putY 0 (mo M P 0 c0 c1 c2 c3 lg (w j 2) mk en gv ft F w ms B key mark A H G T S St (va_cpy (fl32 w) r (32 * j + 3) 0 8) I K) hD rfl rfl rfl hbs (Nat.le_of_ble_eq_true rfl) rfl rfl ?_
  repeat refine EV.s rfl rfl rfl ?_
  have hal : al8 (va_cpy (fl32 w) r (32 * j + 3) 0 8) (fun k => w j (3 + k)) := by
    intro k hk
    show (if 0 ≤ k ∧ k < 0 + 8 then fl32 w (32 * j + 3 + (k - 0)) else r k) = _
    rw [if_pos (by omega), Nat.sub_zero, Nat.add_assoc, fl32_at w j (3 + k) (by omega)]
  obtain ⟨hw, w', pc', m', gv', ft', r', r2', e2, e3, hal'⟩ := rnn_al (P := P) (F := F) (ms := ms) (e := e) N w _ _ (w j 2) 0 0 (-1) hal
  refine EW.cvY 0 [0, 1, 2, 3, 4, 7, 8, 18] (mo M P 0 c0 c1 c2 c3 lg pc' m' hw gv' ft' F (rnf w' j hw pc' r') ms B key mark A H G T S St r' I K) hD (fun h0 => r_mrun d M P 0 c0 c1 c2 c3 lg (w j 2) mk en gv ft hP F w ms _ e j N (by omega) (by omega) (by omega) hoe h0 (nd_sub hD [0, 1, 2, 3, 4, 7, 8, 18] (by decide) rfl) hbs hw w' r' pc' m' gv' ft' e2) rfl rfl rfl rfl rfl (Nat.le_of_ble_eq_true rfl) (Nat.le_of_ble_eq_true rfl) rfl rfl rfl rfl rfl ?_
  refine EV.ri rfl rfl ?_
  have hq2 : q_run P (nI j) (nI N) (fun k => w (cn (nI j)) (3 + k)) (w (cn (nI j)) 2) (F, w, ms, B, lg, (c0, c1, c2, c3), (en, gv, ft, mk)) = (hw, (F, rnf w' j hw pc' r2', ms, B, lg, (c0, c1, c2, c3), (hw, gv', ft', m'))) := by
    simp only [q_run]
    rw [cnI (by omega), cnI (by omega), hoe, cnI (by omega), e3]
  refine mfin ?_ rfl
  show some (Value.int hw) = some (.int (q_run P (nI j) (nI N) (fun k => w (cn (nI j)) (3 + k)) (w (cn (nI j)) 2) (F, w, ms, B, lg, (c0, c1, c2, c3), (en, gv, ft, mk))).1) ∧ mS M P key mark I K (q_run P (nI j) (nI N) (fun k => w (cn (nI j)) (3 + k)) (w (cn (nI j)) 2) (F, w, ms, B, lg, (c0, c1, c2, c3), (en, gv, ft, mk))).2 _
  rw [hq2, ← rnf_al hal']
  exact ⟨rfl, 0, pc', A, H, G, T, S, St, r', rfl⟩
end MPF
