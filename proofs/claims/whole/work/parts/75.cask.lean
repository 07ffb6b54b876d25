section CAK
variable {bs : Nat} {sa : Nat → Nat}
set_option maxHeartbeats 1000000 in
set_option maxRecDepth 100000 in
theorem c_measure (d B P z : Nat) (hP : P ≤ 40) (key mark I K : Nat → Int32) (hO : cOK bs B P z sa) (s : zS) (hI : Iv P s) (h H : e_H) (hS : cS B P z sa key mark I K s h H) (e x : Int32) :
    ∃ rv H', (rv = some (.int (q_measure P e x s)) ∧ cS B P z sa key mark I K s h H') ∧ ev_run tbs bs sa (d + 3) 50 [.ref B, .int e, .int x] H rv H' := by
  obtain ⟨F, w, ms, Bf, lg, ⟨c0, c1, c2, c3⟩, ⟨en, gv, ft, mk⟩⟩ := s; obtain ⟨o0, o1, o2, o3, D, L, hm, hs, hh, sp, L2, gm, gs, gh, X, S, Bk, rfl, ho⟩ := hS; have hD := hO.1; have hbB := hO.2.2.1; have hbz := hO.2.2.2
  refine RUN.mkE (T := t_X4_measure) rfl (Nat.le_of_ble_eq_true rfl) ?_
  repeat refine EV.s rfl rfl rfl ?_
  have fin : ∀ y, y = q_measure P e x (F, w, ms, Bf, lg, (c0, c1, c2, c3), (en, gv, ft, mk)) → (∃ v h', (Sum.inr (some (.int y), wd (cas B z sa) (cos B P z c0 c1 c2 c3 lg o0 o1 o2 o3 Bf D L hm hs hh sp L2 gm gs gh key mark X S Bk I K) (pgH B P F w ms h)) : e_C ⊕ (Option Value × e_H)) = .inr (v, h') ∧ v = some (.int (q_measure P e x (F, w, ms, Bf, lg, (c0, c1, c2, c3), (en, gv, ft, mk)))) ∧ cS B P z sa key mark I K (F, w, ms, Bf, lg, (c0, c1, c2, c3), (en, gv, ft, mk)) h h') := by
    intro y hy
    rw [hy]
    exact ⟨_, _, rfl, rfl, o0, o1, o2, o3, _, _, _, _, _, _, _, _, _, _, _, _, _, rfl, ho⟩
  refine EV.cv rfl rfl ((wd_at (q := 0) hD rfl rfl)) (Nat.le_of_ble_eq_true rfl) (Nat.le_of_ble_eq_true rfl) (c_isOfType (d) B P hP F _ (cR_of hO) e 1) ?_
  by_cases he : ty P F e 1
  rotate_left
  · rw [iso_n he]
    refine EV.ifT rfl (by decide) ?_
    repeat refine EV.s rfl rfl rfl ?_
    refine EV.ri rfl rfl ?_
    exact fin _ (if_neg (fun z => he z.1)).symm
  rw [iso_y he]
  refine EV.ifF rfl (by decide) ?_
  repeat refine EV.s rfl rfl rfl ?_
  refine EV.call rfl (r_isWithin (d + 1) x (nI 8) _) ?_
  by_cases hx : inI x 8
  rotate_left
  · rw [if_neg hx]
    refine EV.ifF rfl (by decide) ?_
    repeat refine EV.s rfl rfl rfl ?_
    refine EV.ri rfl rfl ?_
    exact fin _ (if_neg (fun z => hx z.2)).symm
  rw [if_pos hx]
  refine EV.ifT rfl (by decide) ?_
  have hq : q_measure P e x (F, w, ms, Bf, lg, (c0, c1, c2, c3), (en, gv, ft, mk)) = _ := if_pos ⟨he, hx⟩
  obtain ⟨j, hj, rfl, ht⟩ := ty_j hP he
  obtain ⟨k, hk, rfl⟩ := in_nI (by decide) hx
  rw [cnI (by omega), cnI (by omega)] at hq
  repeat (first | refine EV.s rfl rfl rfl ?_ | refine EW.get 0 hD rfl rfl rfl rfl ?_)
  refine EW.aald 9 (j) hD rfl rfl rfl rfl (by omega) (by omega) ?_
  refine EP.get (k := j) (hO.2.1 _ (by omega) (by omega)) (by omega) rfl rfl ?_
  repeat refine EV.s rfl rfl rfl ?_
  refine EP.ldm k (hO.2.1 _ (by omega) (by omega)) hj rfl rfl hk ?_
  refine EV.ri rfl rfl ?_
  exact fin _ hq.symm
set_option maxHeartbeats 1000000 in
set_option maxRecDepth 100000 in
theorem c_slot (d B P z : Nat) (hP : P ≤ 40) (key mark I K : Nat → Int32) (hO : cOK bs B P z sa) (s : zS) (hI : Iv P s) (h H : e_H) (hS : cS B P z sa key mark I K s h H) (e x : Int32) :
    ∃ rv H', (rv = some (.long (q_slot P e x s)) ∧ cS B P z sa key mark I K s h H') ∧ ev_run tbs bs sa (d + 3) 51 [.ref B, .int e, .int x] H rv H' := by
  obtain ⟨F, w, ms, Bf, lg, ⟨c0, c1, c2, c3⟩, ⟨en, gv, ft, mk⟩⟩ := s; obtain ⟨o0, o1, o2, o3, D, L, hm, hs, hh, sp, L2, gm, gs, gh, X, S, Bk, rfl, ho⟩ := hS; have hD := hO.1; have hbB := hO.2.2.1; have hbz := hO.2.2.2
  refine RUN.mkE (T := t_X4_slot) rfl (Nat.le_of_ble_eq_true rfl) ?_
  repeat refine EV.s rfl rfl rfl ?_
  have fin : ∀ y, y = q_slot P e x (F, w, ms, Bf, lg, (c0, c1, c2, c3), (en, gv, ft, mk)) → (∃ v h', (Sum.inr (some (.long y), wd (cas B z sa) (cos B P z c0 c1 c2 c3 lg o0 o1 o2 o3 Bf D L hm hs hh sp L2 gm gs gh key mark X S Bk I K) (pgH B P F w ms h)) : e_C ⊕ (Option Value × e_H)) = .inr (v, h') ∧ v = some (.long (q_slot P e x (F, w, ms, Bf, lg, (c0, c1, c2, c3), (en, gv, ft, mk)))) ∧ cS B P z sa key mark I K (F, w, ms, Bf, lg, (c0, c1, c2, c3), (en, gv, ft, mk)) h h') := by
    intro y hy
    rw [hy]
    exact ⟨_, _, rfl, rfl, o0, o1, o2, o3, _, _, _, _, _, _, _, _, _, _, _, _, _, rfl, ho⟩
  refine EV.cv rfl rfl ((wd_at (q := 0) hD rfl rfl)) (Nat.le_of_ble_eq_true rfl) (Nat.le_of_ble_eq_true rfl) (c_isOfType (d) B P hP F _ (cR_of hO) e 4) ?_
  by_cases he : ty P F e 4
  rotate_left
  · rw [iso_n he]
    refine EV.ifT rfl (by decide) ?_
    repeat refine EV.s rfl rfl rfl ?_
    refine EV.rl rfl rfl ?_
    exact fin _ (if_neg (fun z => he z.1)).symm
  rw [iso_y he]
  refine EV.ifF rfl (by decide) ?_
  repeat refine EV.s rfl rfl rfl ?_
  refine EV.call rfl (r_isWithin (d + 1) x (nI 16) _) ?_
  by_cases hx : inI x 16
  rotate_left
  · rw [if_neg hx]
    refine EV.ifF rfl (by decide) ?_
    repeat refine EV.s rfl rfl rfl ?_
    refine EV.rl rfl rfl ?_
    exact fin _ (if_neg (fun z => hx z.2)).symm
  rw [if_pos hx]
  refine EV.ifT rfl (by decide) ?_
  have hq : q_slot P e x (F, w, ms, Bf, lg, (c0, c1, c2, c3), (en, gv, ft, mk)) = _ := if_pos ⟨he, hx⟩
  obtain ⟨j, hj, rfl, ht⟩ := ty_j hP he
  obtain ⟨k, hk, rfl⟩ := in_nI (by decide) hx
  rw [cnI (by omega), cnI (by omega)] at hq
  repeat (first | refine EV.s rfl rfl rfl ?_ | refine EW.get 0 hD rfl rfl rfl rfl ?_)
  refine EW.aald 9 (j) hD rfl rfl rfl rfl (by omega) (by omega) ?_
  repeat refine EV.s rfl rfl rfl ?_
  refine EV.cv rfl rfl ((wd_out (hO.2.1 _ (by omega) (by omega))).trans (pg_0 hj)) (Nat.le_of_ble_eq_true rfl) (Nat.le_of_ble_eq_true rfl) (c_numberIn d B P F w _ (cR_of hO) (cW_of hO) j hj k hk) ?_
  refine EV.rl rfl rfl ?_
  exact fin _ hq.symm
set_option maxHeartbeats 2000000 in
set_option maxRecDepth 100000 in
theorem c_count (d B P z : Nat) (hP : P ≤ 40) (key mark I K : Nat → Int32) (hO : cOK bs B P z sa) (s : zS) (hI : Iv P s) (h H : e_H) (hS : cS B P z sa key mark I K s h H) (x : Int32) :
    ∃ rv H', (rv = some (.int (q_count P x s)) ∧ cS B P z sa key mark I K s h H') ∧ ev_run tbs bs sa (d + 2) 52 [.ref B, .int x] H rv H' := by
  obtain ⟨F, w, ms, Bf, lg, ⟨c0, c1, c2, c3⟩, ⟨en, gv, ft, mk⟩⟩ := s; obtain ⟨o0, o1, o2, o3, D, L, hm, hs, hh, sp, L2, gm, gs, gh, X, S, Bk, rfl, ho⟩ := hS; have hD := hO.1; have hbB := hO.2.2.1; have hbz := hO.2.2.2
  refine RUN.mkE (T := t_X4_count) rfl (Nat.le_of_ble_eq_true rfl) ?_
  repeat refine EV.s rfl rfl rfl ?_
  have fin : ∀ y, y = q_count P x (F, w, ms, Bf, lg, (c0, c1, c2, c3), (en, gv, ft, mk)) → (∃ v h', (Sum.inr (some (.int y), wd (cas B z sa) (cos B P z c0 c1 c2 c3 lg o0 o1 o2 o3 Bf D L hm hs hh sp L2 gm gs gh key mark X S Bk I K) (pgH B P F w ms h)) : e_C ⊕ (Option Value × e_H)) = .inr (v, h') ∧ v = some (.int (q_count P x (F, w, ms, Bf, lg, (c0, c1, c2, c3), (en, gv, ft, mk)))) ∧ cS B P z sa key mark I K (F, w, ms, Bf, lg, (c0, c1, c2, c3), (en, gv, ft, mk)) h h') := by
    intro y hy
    rw [hy]
    exact ⟨_, _, rfl, rfl, o0, o1, o2, o3, _, _, _, _, _, _, _, _, _, _, _, _, _, rfl, ho⟩
  by_cases x15 : 1 ≤ x ∧ x ≤ 5
  · have x0 : x ≠ 0 := by
      rintro rfl
      exact absurd x15.1 (by decide)
    refine EV.icF rfl (decide_eq_false (Int32.not_lt.mpr x15.1)) ?_
    repeat refine EV.s rfl rfl rfl ?_
    refine EV.icF rfl (decide_eq_false (Int32.not_lt.mpr x15.2)) ?_
    repeat refine EV.s rfl rfl rfl ?_
    refine EV.cv rfl rfl ((wd_at (q := 0) hD rfl rfl)) (Nat.le_of_ble_eq_true rfl) (Nat.le_of_ble_eq_true rfl) (c_pagesOfType d B P hP F _ (cR_of hO) (x - 1)) ?_
    refine EV.ri rfl rfl ?_
    exact fin _ ((if_neg x0).trans (if_pos x15)).symm
  have go : ev_E tbs bs sa (d + 1) t_X4_count (fun y => ∃ v h', y = .inr (v, h') ∧ v = some (.int (q_count P x (F, w, ms, Bf, lg, (c0, c1, c2, c3), (en, gv, ft, mk)))) ∧ cS B P z sa key mark I K (F, w, ms, Bf, lg, (c0, c1, c2, c3), (en, gv, ft, mk)) h h') (18, [some (.ref B), some (.int x)], [], wd (cas B z sa) (cos B P z c0 c1 c2 c3 lg o0 o1 o2 o3 Bf D L hm hs hh sp L2 gm gs gh key mark X S Bk I K) (pgH B P F w ms h)) := by
    repeat refine EV.s rfl rfl rfl ?_
    by_cases x0 : x = 0
    · refine EV.tsw 0 ⟨_, rfl, fun _ _ _ => rfl⟩ x0 (by decide) ?_
      repeat (first | refine EV.s rfl rfl rfl ?_ | refine EW.get 0 hD rfl rfl rfl rfl ?_)
      refine EW.alenR 9 hD rfl rfl rfl ?_
      refine EV.ri rfl rfl ?_
      exact fin _ (if_pos x0).symm
    have hq : q_count P x (F, w, ms, Bf, lg, (c0, c1, c2, c3), (en, gv, ft, mk)) = _ := (if_neg x0).trans (if_neg x15)
    rw [hq] at fin ⊢
    by_cases x6 : x = 6
    · refine EV.tsw 6 ⟨_, rfl, fun _ _ _ => rfl⟩ x6 (by decide) ?_
      repeat (first | refine EV.s rfl rfl rfl ?_ | refine EW.get 0 hD rfl rfl rfl rfl ?_)
      refine EV.ri rfl rfl ?_
      exact fin _ (if_pos x6).symm
    rw [if_neg x6] at fin ⊢
    by_cases x7 : x = 7
    · refine EV.tsw 7 ⟨_, rfl, fun _ _ _ => rfl⟩ x7 (by decide) ?_
      repeat (first | refine EV.s rfl rfl rfl ?_ | refine EW.get 0 hD rfl rfl rfl rfl ?_)
      refine EV.ri rfl rfl ?_
      exact fin _ (if_pos x7).symm
    rw [if_neg x7] at fin ⊢
    by_cases x8 : x = 8
    · refine EV.tsw 8 ⟨_, rfl, fun _ _ _ => rfl⟩ x8 (by decide) ?_
      repeat (first | refine EV.s rfl rfl rfl ?_ | refine EW.get 0 hD rfl rfl rfl rfl ?_)
      refine EV.ri rfl rfl ?_
      exact fin _ (if_pos x8).symm
    rw [if_neg x8] at fin ⊢
    by_cases x9 : x = 9
    · refine EV.tsw 9 ⟨_, rfl, fun _ _ _ => rfl⟩ x9 (by decide) ?_
      repeat (first | refine EV.s rfl rfl rfl ?_ | refine EW.get 0 hD rfl rfl rfl rfl ?_)
      refine EV.ri rfl rfl ?_
      exact fin _ (if_pos x9).symm
    rw [if_neg x9] at fin ⊢
    by_cases x10 : x = 10
    · refine EV.tsw 10 ⟨_, rfl, fun _ _ _ => rfl⟩ x10 (by decide) ?_
      repeat (first | refine EV.s rfl rfl rfl ?_ | refine EW.get 0 hD rfl rfl rfl rfl ?_)
      refine EV.ri rfl rfl ?_
      exact fin _ (if_pos x10).symm
    rw [if_neg x10] at fin ⊢
    refine EV.tsD ⟨_, rfl, fun _ _ _ => rfl⟩ 11 rfl (by decide) (fun j hj => ?_) ?_
    · have : j = 0 ∨ (1 ≤ j ∧ j ≤ 5) ∨ j = 6 ∨ j = 7 ∨ j = 8 ∨ j = 9 ∨ j = 10 := by omega
      rcases this with rfl | hj5 | rfl | rfl | rfl | rfl | rfl
      · exact x0
      · rintro rfl
        exact x15 ⟨nI_le (a := 1) (by omega) (by omega), nI_le (b := 5) (by omega) (by decide)⟩
      · exact x6
      · exact x7
      · exact x8
      · exact x9
      · exact x10
    repeat refine EV.s rfl rfl rfl ?_
    refine EV.ri rfl rfl ?_
    exact fin _ rfl
  refine EV.icm rfl (fun hc => ?_) (fun hc => ?_)
  · exact go
  · repeat refine EV.s rfl rfl rfl ?_
    refine EV.icm rfl (fun hb => ?_) (fun hb => ?_)
    · exact go
    · exact absurd ⟨Int32.not_lt.mp (of_decide_eq_false hc), Int32.not_lt.mp (of_decide_eq_false hb)⟩ x15
set_option maxHeartbeats 2000000 in
set_option maxRecDepth 100000 in
theorem c_page (d B P z : Nat) (hP : P ≤ 40) (key mark I K : Nat → Int32) (hO : cOK bs B P z sa) (s : zS) (hI : Iv P s) (h H : e_H) (hS : cS B P z sa key mark I K s h H) (p x : Int32) :
    ∃ rv H', (rv = some (.int (q_page P p x s)) ∧ cS B P z sa key mark I K s h H') ∧ ev_run tbs bs sa (d + 4) 49 [.ref B, .int p, .int x] H rv H' := by
  obtain ⟨F, w, ms, Bf, lg, ⟨c0, c1, c2, c3⟩, ⟨en, gv, ft, mk⟩⟩ := s; obtain ⟨o0, o1, o2, o3, D, L, hm, hs, hh, sp, L2, gm, gs, gh, X, S, Bk, rfl, ho⟩ := hS; have hD := hO.1; have hbB := hO.2.2.1; have hbz := hO.2.2.2
  refine RUN.mkE (T := t_X4_page) rfl (Nat.le_of_ble_eq_true rfl) ?_
  repeat (first | refine EV.s rfl rfl rfl ?_ | refine EW.get 0 hD rfl rfl rfl rfl ?_)
  refine EW.alenR 9 hD rfl rfl rfl ?_
  have fin : ∀ y, y = q_page P p x (F, w, ms, Bf, lg, (c0, c1, c2, c3), (en, gv, ft, mk)) → (∃ v h', (Sum.inr (some (.int y), wd (cas B z sa) (cos B P z c0 c1 c2 c3 lg o0 o1 o2 o3 Bf D L hm hs hh sp L2 gm gs gh key mark X S Bk I K) (pgH B P F w ms h)) : e_C ⊕ (Option Value × e_H)) = .inr (v, h') ∧ v = some (.int (q_page P p x (F, w, ms, Bf, lg, (c0, c1, c2, c3), (en, gv, ft, mk)))) ∧ cS B P z sa key mark I K (F, w, ms, Bf, lg, (c0, c1, c2, c3), (en, gv, ft, mk)) h h') := by
    intro y hy
    rw [hy]
    exact ⟨_, _, rfl, rfl, o0, o1, o2, o3, _, _, _, _, _, _, _, _, _, _, _, _, _, rfl, ho⟩
  refine EV.call rfl (r_isWithin (d + 2) p (nI P) _) ?_
  by_cases hp : inI p P
  rotate_left
  · rw [if_neg hp]
    refine EV.ifF rfl (by decide) ?_
    repeat refine EV.s rfl rfl rfl ?_
    refine EV.ri rfl rfl ?_
    exact fin _ (if_neg hp).symm
  rw [if_pos hp]
  refine EV.ifT rfl (by decide) ?_
  have hq : q_page P p x (F, w, ms, Bf, lg, (c0, c1, c2, c3), (en, gv, ft, mk)) = _ := if_pos hp
  obtain ⟨j, hj, rfl⟩ := in_nI (by omega) hp
  rw [cnI (by omega)] at hq
  rw [hq] at fin ⊢
  repeat (first | refine EV.s rfl rfl rfl ?_ | refine EW.get 0 hD rfl rfl rfl rfl ?_)
  refine EW.aald 9 (j) hD rfl rfl rfl rfl (by omega) (by omega) ?_
  repeat refine EV.s rfl rfl rfl ?_
  by_cases x0 : x = 0
  · refine EV.tsw 0 ⟨_, rfl, fun _ _ _ => rfl⟩ x0 (by decide) ?_
    repeat refine EV.s rfl rfl rfl ?_
    refine EP.get (k := j) (hO.2.1 _ (by omega) (by omega)) (by omega) rfl rfl ?_
    refine EV.ri rfl rfl ?_
    exact fin _ (if_pos x0).symm
  rw [if_neg x0] at fin ⊢
  by_cases x1 : x = 1
  · refine EV.tsw 1 ⟨_, rfl, fun _ _ _ => rfl⟩ x1 (by decide) ?_
    repeat refine EV.s rfl rfl rfl ?_
    refine EP.get (k := j) (hO.2.1 _ (by omega) (by omega)) (by omega) rfl rfl ?_
    refine EV.ri rfl rfl ?_
    exact fin _ (if_pos x1).symm
  rw [if_neg x1] at fin ⊢
  by_cases x2 : x = 2
  · refine EV.tsw 2 ⟨_, rfl, fun _ _ _ => rfl⟩ x2 (by decide) ?_
    rw [if_pos x2] at fin ⊢
    repeat refine EV.s rfl rfl rfl ?_
    refine EP.get (k := j) (hO.2.1 _ (by omega) (by omega)) (by omega) rfl rfl ?_
    repeat refine EV.s rfl rfl rfl ?_
    by_cases h3 : F 0 j = 3
    · refine EV.icF rfl (decide_eq_false (fun z => z h3)) ?_
      repeat refine EV.s rfl rfl rfl ?_
      refine EP.get (k := j) (hO.2.1 _ (by omega) (by omega)) (by omega) rfl rfl ?_
      repeat refine EV.s rfl rfl rfl ?_
      refine EV.ri rfl rfl ?_
      exact fin _ (if_pos h3).symm
    · refine EV.icT rfl (decide_eq_true h3) ?_
      repeat refine EV.s rfl rfl rfl ?_
      refine EV.ri rfl rfl ?_
      exact fin _ (if_neg h3).symm
  rw [if_neg x2] at fin ⊢
  by_cases x3 : x = 3
  · refine EV.tsw 3 ⟨_, rfl, fun _ _ _ => rfl⟩ x3 (by decide) ?_
    repeat refine EV.s rfl rfl rfl ?_
    refine EP.get (k := j) (hO.2.1 _ (by omega) (by omega)) (by omega) rfl rfl ?_
    refine EV.ri rfl rfl ?_
    exact fin _ (if_pos x3).symm
  rw [if_neg x3] at fin ⊢
  by_cases x4 : x = 4
  · refine EV.tsw 4 ⟨_, rfl, fun _ _ _ => rfl⟩ x4 (by decide) ?_
    repeat refine EV.s rfl rfl rfl ?_
    refine EP.get (k := j) (hO.2.1 _ (by omega) (by omega)) (by omega) rfl rfl ?_
    refine EV.ri rfl rfl ?_
    exact fin _ (if_pos x4).symm
  rw [if_neg x4] at fin ⊢
  by_cases x5 : x = 5
  · refine EV.tsw 5 ⟨_, rfl, fun _ _ _ => rfl⟩ x5 (by decide) ?_
    rw [if_pos x5] at fin ⊢
    repeat refine EV.s rfl rfl rfl ?_
    refine EV.cv rfl rfl ((wd_at (q := 0) hD rfl rfl)) (Nat.le_of_ble_eq_true rfl) (Nat.le_of_ble_eq_true rfl) (c_stateOf d B P hP F _ (cR_of hO) (nI j)) ?_
    refine EV.ri rfl rfl ?_
    refine fin _ ?_
    have cj : cn (nI j) = j := cnI (by omega)
    unfold sto
    by_cases h1 : F 0 j = 1
    · rw [if_pos h1, if_pos ⟨hp.1, hp.2, by rw [cj]; exact h1⟩, cj]
    · rw [if_neg h1, if_neg (fun z => h1 (by have := z.2.2; rwa [cj] at this))]
  rw [if_neg x5] at fin ⊢
  by_cases x6 : x = 6
  · refine EV.tsw 6 ⟨_, rfl, fun _ _ _ => rfl⟩ x6 (by decide) ?_
    repeat refine EV.s rfl rfl rfl ?_
    refine EV.cv rfl rfl ((wd_at (q := 0) hD rfl rfl)) (Nat.le_of_ble_eq_true rfl) (Nat.le_of_ble_eq_true rfl) (c_ownedBy (d + 2) B P hP F _ (cR_of hO) (nI j)) ?_
    refine EV.ri rfl rfl ?_
    exact fin _ (if_pos x6).symm
  rw [if_neg x6] at fin ⊢
  by_cases x7 : x = 7
  · refine EV.tsw 7 ⟨_, rfl, fun _ _ _ => rfl⟩ x7 (by decide) ?_
    rw [if_pos x7] at fin ⊢
    repeat refine EV.s rfl rfl rfl ?_
    refine EV.cv rfl rfl ((wd_out (hO.2.1 _ (by omega) (by omega))).trans (pg_0 hj)) (Nat.le_of_ble_eq_true rfl) (Nat.le_of_ble_eq_true rfl) (c_isSaved (d + 2) B P F w _ (cR_of hO) (cW_of hO) j hj) ?_
    by_cases hs2 : F 0 j = 2 ∧ w j 1 ≠ 0
    · rw [if_pos hs2] at fin ⊢
      refine EV.ifF rfl (by decide) ?_
      repeat refine EV.s rfl rfl rfl ?_
      refine EV.ri rfl rfl ?_
      exact fin _ rfl
    · rw [if_neg hs2] at fin ⊢
      refine EV.ifT rfl (by decide) ?_
      repeat refine EV.s rfl rfl rfl ?_
      refine EV.ri rfl rfl ?_
      exact fin _ rfl
  rw [if_neg x7] at fin ⊢
  refine EV.tsD ⟨_, rfl, fun _ _ _ => rfl⟩ 8 rfl (by decide) (fun j hj => ?_) ?_
  · have : j = 0 ∨ j = 1 ∨ j = 2 ∨ j = 3 ∨ j = 4 ∨ j = 5 ∨ j = 6 ∨ j = 7 := by omega
    rcases this with rfl | rfl | rfl | rfl | rfl | rfl | rfl | rfl
    · exact x0
    · exact x1
    · exact x2
    · exact x3
    · exact x4
    · exact x5
    · exact x6
    · exact x7
  repeat refine EV.s rfl rfl rfl ?_
  refine EV.ri rfl rfl ?_
  exact fin _ rfl
end CAK
