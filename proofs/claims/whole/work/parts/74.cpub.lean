section CPB
variable {bs : Nat} {sa : Nat → Nat}
set_option maxHeartbeats 1000000 in
set_option maxRecDepth 100000 in
theorem c_create (d B P z : Nat) (hP : P ≤ 40) (key mark I K : Nat → Int32) (hO : cOK bs B P z sa) (s : zS) (hI : Iv P s) (h H : e_H) (hS : cS B P z sa key mark I K s h H) (p : Int32) :
    ∃ rv H', (rv = some (.int (q_create P p s).1) ∧ cS B P z sa key mark I K (q_create P p s).2 h H') ∧ ev_run tbs bs sa (d + 3) 37 [.ref B, .int p] H rv H' := by
  obtain ⟨F, w, ms, Bf, lg, ⟨c0, c1, c2, c3⟩, ⟨en, gv, ft, mk⟩⟩ := s; obtain ⟨o0, o1, o2, o3, D, L, hm, hs, hh, sp, L2, gm, gs, gh, X, S, Bk, rfl, ho⟩ := hS; have hD := hO.1; have hbB := hO.2.2.1; have hbz := hO.2.2.2
  refine RUN.mkE (T := t_X4_create) rfl (Nat.le_of_ble_eq_true rfl) ?_
  repeat refine EV.s rfl rfl rfl ?_
  refine EV.cv rfl rfl ((wd_at (q := 0) hD rfl rfl)) (Nat.le_of_ble_eq_true rfl) (Nat.le_of_ble_eq_true rfl) (c_isOfType d B P hP F _ (cR_of hO) p 0) ?_
  by_cases hp : ty P F p 0
  · rw [iso_y hp]
    have hq : q_create P p (F, w, ms, Bf, lg, (c0, c1, c2, c3), (en, gv, ft, mk)) = _ := if_pos hp
    rw [hq]
    obtain ⟨j, hj, rfl, ht⟩ := ty_j hP hp
    rw [cnI (by omega)]
    refine EV.ifT rfl (by decide) ?_
    repeat (first | refine EV.s rfl rfl rfl ?_ | refine EW.get 0 hD rfl rfl rfl rfl ?_)
    refine EW.putY 0 (cos B P z (c0 + 1) c1 c2 c3 lg o0 o1 o2 o3 Bf D L hm hs hh sp L2 gm gs gh key mark X S Bk I K) hD rfl rfl rfl (by omega) (Nat.le_of_ble_eq_true rfl) rfl rfl ?_
    repeat (first | refine EV.s rfl rfl rfl ?_ | refine EW.get 0 hD rfl rfl rfl rfl ?_)
    refine EW.aald 9 (j) hD rfl rfl rfl rfl (by omega) (by omega) ?_
    repeat refine EV.s rfl rfl rfl ?_
    refine EP.put 0 (k := j) (hO.2.1 _ (by omega) (by omega)) (by omega) hbB rfl (by decide) rfl ?_
    repeat (first | refine EV.s rfl rfl rfl ?_ | refine EW.get 0 hD rfl rfl rfl rfl ?_)
    refine EW.aald 9 (j) hD rfl rfl rfl rfl (by omega) (by omega) ?_
    repeat refine EV.s rfl rfl rfl ?_
    refine EP.put 5 (k := j) (hO.2.1 _ (by omega) (by omega)) (by omega) hbB rfl (by decide) rfl ?_
    repeat (first | refine EV.s rfl rfl rfl ?_ | refine EW.get 0 hD rfl rfl rfl rfl ?_)
    refine EW.aald 9 (j) hD rfl rfl rfl rfl (by omega) (by omega) ?_
    repeat (first | refine EV.s rfl rfl rfl ?_ | refine EW.get 0 hD rfl rfl rfl rfl ?_)
    refine EP.put 4 (k := j) (hO.2.1 _ (by omega) (by omega)) (by omega) hbB rfl (by decide) rfl ?_
    repeat refine EV.s rfl rfl rfl ?_
    refine EV.ri rfl rfl ?_
    exact ⟨_, _, rfl, rfl, o0, o1, o2, o3, _, _, _, _, _, _, _, _, _, _, _, _, _, rfl, ho⟩
  · rw [iso_n hp]
    have hq : q_create P p (F, w, ms, Bf, lg, (c0, c1, c2, c3), (en, gv, ft, mk)) = _ := if_neg hp
    rw [hq]
    refine EV.ifF rfl (by decide) ?_
    repeat refine EV.s rfl rfl rfl ?_
    refine EV.ri rfl rfl ?_
    exact ⟨_, _, rfl, rfl, o0, o1, o2, o3, _, _, _, _, _, _, _, _, _, _, _, _, _, rfl, ho⟩
set_option maxHeartbeats 1000000 in
set_option maxRecDepth 100000 in
theorem c_versions (d B P z : Nat) (hP : P ≤ 40) (key mark I K : Nat → Int32) (hO : cOK bs B P z sa) (s : zS) (hI : Iv P s) (h H : e_H) (hS : cS B P z sa key mark I K s h H) (p : Int32) :
    ∃ rv H', (rv = some (.int (q_versions P p s).1) ∧ cS B P z sa key mark I K (q_versions P p s).2 h H') ∧ ev_run tbs bs sa (d + 3) 40 [.ref B, .int p] H rv H' := by
  obtain ⟨F, w, ms, Bf, lg, ⟨c0, c1, c2, c3⟩, ⟨en, gv, ft, mk⟩⟩ := s; obtain ⟨o0, o1, o2, o3, D, L, hm, hs, hh, sp, L2, gm, gs, gh, X, S, Bk, rfl, ho⟩ := hS; have hD := hO.1; have hbB := hO.2.2.1; have hbz := hO.2.2.2
  refine RUN.mkE (T := t_X4_versions) rfl (Nat.le_of_ble_eq_true rfl) ?_
  repeat refine EV.s rfl rfl rfl ?_
  refine EV.cv rfl rfl ((wd_at (q := 0) hD rfl rfl)) (Nat.le_of_ble_eq_true rfl) (Nat.le_of_ble_eq_true rfl) (c_isOfType d B P hP F _ (cR_of hO) p 0) ?_
  by_cases hp : ty P F p 0
  · rw [iso_y hp]
    have hq : q_versions P p (F, w, ms, Bf, lg, (c0, c1, c2, c3), (en, gv, ft, mk)) = _ := if_pos hp
    rw [hq]
    obtain ⟨j, hj, rfl, ht⟩ := ty_j hP hp
    rw [cnI (by omega)]
    refine EV.ifT rfl (by decide) ?_
    repeat (first | refine EV.s rfl rfl rfl ?_ | refine EW.get 0 hD rfl rfl rfl rfl ?_)
    refine EW.aald 9 (j) hD rfl rfl rfl rfl (by omega) (by omega) ?_
    repeat refine EV.s rfl rfl rfl ?_
    refine EP.put 0 (k := j) (hO.2.1 _ (by omega) (by omega)) (by omega) hbB rfl (by decide) rfl ?_
    repeat refine EV.s rfl rfl rfl ?_
    refine EV.ri rfl rfl ?_
    exact ⟨_, _, rfl, rfl, o0, o1, o2, o3, _, _, _, _, _, _, _, _, _, _, _, _, _, rfl, ho⟩
  · rw [iso_n hp]
    have hq : q_versions P p (F, w, ms, Bf, lg, (c0, c1, c2, c3), (en, gv, ft, mk)) = _ := if_neg hp
    rw [hq]
    refine EV.ifF rfl (by decide) ?_
    repeat refine EV.s rfl rfl rfl ?_
    refine EV.ri rfl rfl ?_
    exact ⟨_, _, rfl, rfl, o0, o1, o2, o3, _, _, _, _, _, _, _, _, _, _, _, _, _, rfl, ho⟩
set_option maxHeartbeats 1000000 in
set_option maxRecDepth 100000 in
theorem c_stop (d B P z : Nat) (hP : P ≤ 40) (key mark I K : Nat → Int32) (hO : cOK bs B P z sa) (s : zS) (hI : Iv P s) (h H : e_H) (hS : cS B P z sa key mark I K s h H) (e : Int32) :
    ∃ rv H', (rv = some (.int (q_stop P e s).1) ∧ cS B P z sa key mark I K (q_stop P e s).2 h H') ∧ ev_run tbs bs sa (d + 4) 42 [.ref B, .int e] H rv H' := by
  obtain ⟨F, w, ms, Bf, lg, ⟨c0, c1, c2, c3⟩, ⟨en, gv, ft, mk⟩⟩ := s; obtain ⟨o0, o1, o2, o3, D, L, hm, hs, hh, sp, L2, gm, gs, gh, X, S, Bk, rfl, ho⟩ := hS; have hD := hO.1; have hbB := hO.2.2.1; have hbz := hO.2.2.2
  refine RUN.mkE (T := t_X4_stop) rfl (Nat.le_of_ble_eq_true rfl) ?_
  repeat refine EV.s rfl rfl rfl ?_
  refine EV.cv rfl rfl ((wd_at (q := 0) hD rfl rfl)) (Nat.le_of_ble_eq_true rfl) (Nat.le_of_ble_eq_true rfl) (c_isOfType (d + 1) B P hP F _ (cR_of hO) e 1) ?_
  by_cases hp : ty P F e 1
  · rw [iso_y hp]
    refine EV.ifT rfl (by decide) ?_
    repeat refine EV.s rfl rfl rfl ?_
    refine EV.cv rfl rfl ((wd_at (q := 0) hD rfl rfl)) (Nat.le_of_ble_eq_true rfl) (Nat.le_of_ble_eq_true rfl) (c_stateOf d B P hP F _ (cR_of hO) e) ?_
    rw [sto, if_pos hp]
    have hp' := hp
    obtain ⟨j, hj, rfl, ht⟩ := ty_j hP hp
    rw [cnI (by omega)]
    repeat refine EV.s rfl rfl rfl ?_
    by_cases h5 : F 5 j = 2
    · have hq : q_stop P (nI j) (F, w, ms, Bf, lg, (c0, c1, c2, c3), (en, gv, ft, mk)) = _ := (if_pos hp').trans (if_pos (by rw [cnI (by omega)]; exact h5))
      rw [hq]
      refine EV.icF rfl (decide_eq_false (fun z => z h5)) ?_
      repeat refine EV.s rfl rfl rfl ?_
      refine EV.ri rfl rfl ?_
      exact ⟨_, _, rfl, rfl, o0, o1, o2, o3, _, _, _, _, _, _, _, _, _, _, _, _, _, rfl, ho⟩
    · have hq : q_stop P (nI j) (F, w, ms, Bf, lg, (c0, c1, c2, c3), (en, gv, ft, mk)) = _ := (if_pos hp').trans (if_neg (by rw [cnI (by omega)]; exact h5))
      rw [hq, cnI (by omega)]
      refine EV.icT rfl (decide_eq_true h5) ?_
      repeat (first | refine EV.s rfl rfl rfl ?_ | refine EW.get 0 hD rfl rfl rfl rfl ?_)
      refine EW.aald 9 (j) hD rfl rfl rfl rfl (by omega) (by omega) ?_
      repeat refine EV.s rfl rfl rfl ?_
      refine EP.put 5 (k := j) (hO.2.1 _ (by omega) (by omega)) (by omega) hbB rfl (by decide) rfl ?_
      repeat refine EV.s rfl rfl rfl ?_
      refine EV.ri rfl rfl ?_
      exact ⟨_, _, rfl, rfl, o0, o1, o2, o3, _, _, _, _, _, _, _, _, _, _, _, _, _, rfl, ho⟩
  · rw [iso_n hp]
    have hq : q_stop P e (F, w, ms, Bf, lg, (c0, c1, c2, c3), (en, gv, ft, mk)) = _ := if_neg hp
    rw [hq]
    refine EV.ifF rfl (by decide) ?_
    repeat refine EV.s rfl rfl rfl ?_
    refine EV.ri rfl rfl ?_
    exact ⟨_, _, rfl, rfl, o0, o1, o2, o3, _, _, _, _, _, _, _, _, _, _, _, _, _, rfl, ho⟩
set_option maxHeartbeats 1000000 in
set_option maxRecDepth 100000 in
theorem c_remove (d B P z : Nat) (hP : P ≤ 40) (key mark I K : Nat → Int32) (hO : cOK bs B P z sa) (s : zS) (hI : Iv P s) (h H : e_H) (hS : cS B P z sa key mark I K s h H) (p : Int32) :
    ∃ rv H', (rv = some (.int (q_remove P p s).1) ∧ cS B P z sa key mark I K (q_remove P p s).2 h H') ∧ ev_run tbs bs sa (d + 5) 43 [.ref B, .int p] H rv H' := by
  obtain ⟨F, w, ms, Bf, lg, ⟨c0, c1, c2, c3⟩, ⟨en, gv, ft, mk⟩⟩ := s; obtain ⟨o0, o1, o2, o3, D, L, hm, hs, hh, sp, L2, gm, gs, gh, X, S, Bk, rfl, ho⟩ := hS; have hD := hO.1; have hbB := hO.2.2.1; have hbz := hO.2.2.2
  refine RUN.mkE (T := t_X4_remove) rfl (Nat.le_of_ble_eq_true rfl) ?_
  repeat (first | refine EV.s rfl rfl rfl ?_ | refine EW.get 0 hD rfl rfl rfl rfl ?_)
  refine EW.alenR 9 hD rfl rfl rfl ?_
  refine EV.call rfl (r_isWithin (d + 3) p (nI P) _) ?_
  by_cases hp : inI p P
  rotate_left
  · rw [if_neg hp]
    have hq : q_remove P p (F, w, ms, Bf, lg, (c0, c1, c2, c3), (en, gv, ft, mk)) = _ := if_neg (fun z => hp z.1)
    rw [hq]
    refine EV.ifT rfl (by decide) ?_
    repeat refine EV.s rfl rfl rfl ?_
    refine EV.ri rfl rfl ?_
    exact ⟨_, _, rfl, rfl, o0, o1, o2, o3, _, _, _, _, _, _, _, _, _, _, _, _, _, rfl, ho⟩
  rw [if_pos hp]
  refine EV.ifF rfl (by decide) ?_
  repeat refine EV.s rfl rfl rfl ?_
  refine EV.cv rfl rfl ((wd_at (q := 0) hD rfl rfl)) (Nat.le_of_ble_eq_true rfl) (Nat.le_of_ble_eq_true rfl) (c_isOfType (d + 2) B P hP F _ (cR_of hO) p 0) ?_
  have hp' := hp
  obtain ⟨j, hj, rfl⟩ := in_nI (by omega) hp
  by_cases h0 : F 0 j = 0
  · rw [iso_y (F := F) ⟨hp'.1, hp'.2, by rw [cnI (by omega)]; exact h0⟩]
    have hq : q_remove P (nI j) (F, w, ms, Bf, lg, (c0, c1, c2, c3), (en, gv, ft, mk)) = _ := if_neg (fun z => z.2 (by rw [cnI (by omega)]; exact h0))
    rw [hq]
    refine EV.ifF rfl (by decide) ?_
    repeat refine EV.s rfl rfl rfl ?_
    refine EV.ri rfl rfl ?_
    exact ⟨_, _, rfl, rfl, o0, o1, o2, o3, _, _, _, _, _, _, _, _, _, _, _, _, _, rfl, ho⟩
  have h0' : inI (nI j) P ∧ F 0 (cn (nI j)) ≠ 0 := ⟨hp', by rw [cnI (by omega)]; exact h0⟩
  rw [iso_n (F := F) (fun z => h0'.2 z.2.2)]
  refine EV.ifT rfl (by decide) ?_
  repeat refine EV.s rfl rfl rfl ?_
  refine EV.cv rfl rfl ((wd_at (q := 0) hD rfl rfl)) (Nat.le_of_ble_eq_true rfl) (Nat.le_of_ble_eq_true rfl) (c_isRemovable d B P hP F _ (cR_of hO) j hj) ?_
  by_cases hr : rmv P F (nI j)
  · rw [if_pos hr]
    have hq : q_remove P (nI j) (F, w, ms, Bf, lg, (c0, c1, c2, c3), (en, gv, ft, mk)) = _ := (if_pos h0').trans (if_pos hr)
    rw [hq, cnI (by omega)]
    refine EV.ifT rfl (by decide) ?_
    repeat (first | refine EV.s rfl rfl rfl ?_ | refine EW.get 0 hD rfl rfl rfl rfl ?_)
    refine EW.aald 9 (j) hD rfl rfl rfl rfl (by omega) (by omega) ?_
    refine EV.cv rfl rfl ((wd_out (hO.2.1 _ (by omega) (by omega))).trans (pg_0 hj)) (Nat.le_of_ble_eq_true rfl) (Nat.le_of_ble_eq_true rfl) (c_clear (d := d + 3) (k := j) (hO.2.1 _ (by omega) (by omega)) (hO.2.1 _ (by omega) (by omega)) (hO.2.1 _ (by omega) (by omega)) hj hbB) ?_
    repeat refine EV.s rfl rfl rfl ?_
    refine EV.ri rfl rfl ?_
    exact ⟨_, _, rfl, rfl, o0, o1, o2, o3, _, _, _, _, _, _, _, _, _, _, _, _, _, rfl, ho⟩
  · rw [if_neg hr]
    have hq : q_remove P (nI j) (F, w, ms, Bf, lg, (c0, c1, c2, c3), (en, gv, ft, mk)) = _ := (if_pos h0').trans (if_neg hr)
    rw [hq]
    refine EV.ifF rfl (by decide) ?_
    repeat refine EV.s rfl rfl rfl ?_
    refine EV.ri rfl rfl ?_
    exact ⟨_, _, rfl, rfl, o0, o1, o2, o3, _, _, _, _, _, _, _, _, _, _, _, _, _, rfl, ho⟩
set_option maxHeartbeats 1000000 in
set_option maxRecDepth 100000 in
theorem c_told (d B P z : Nat) (hP : P ≤ 40) (key mark I K : Nat → Int32) (hO : cOK bs B P z sa) (s : zS) (hI : Iv P s) (h H : e_H) (hS : cS B P z sa key mark I K s h H) (x : Int32) :
    ∃ rv H', (rv = some (.int (q_told x s)) ∧ cS B P z sa key mark I K s h H') ∧ ev_run tbs bs sa (d + 1) 46 [.ref B, .int x] H rv H' := by
  obtain ⟨F, w, ms, Bf, lg, ⟨c0, c1, c2, c3⟩, ⟨en, gv, ft, mk⟩⟩ := s; obtain ⟨o0, o1, o2, o3, D, L, hm, hs, hh, sp, L2, gm, gs, gh, X, S, Bk, rfl, ho⟩ := hS; have hD := hO.1; have hbB := hO.2.2.1; have hbz := hO.2.2.2
  have ho2 := ho
  refine RUN.mkE (T := t_X4_told) rfl (Nat.le_of_ble_eq_true rfl) ?_
  repeat refine EV.s rfl rfl rfl ?_
  have key2 : ∀ y, y = q_told x (F, w, ms, Bf, lg, (c0, c1, c2, c3), (en, gv, ft, mk)) → (∃ v h', (Sum.inr (some (.int y), wd (cas B z sa) (cos B P z c0 c1 c2 c3 lg o0 o1 o2 o3 Bf D L hm hs hh sp L2 gm gs gh key mark X S Bk I K) (pgH B P F w ms h)) : e_C ⊕ (Option Value × e_H)) = .inr (v, h') ∧ v = some (.int (q_told x (F, w, ms, Bf, lg, (c0, c1, c2, c3), (en, gv, ft, mk)))) ∧ cS B P z sa key mark I K (F, w, ms, Bf, lg, (c0, c1, c2, c3), (en, gv, ft, mk)) h h') := by
    intro y hy
    rw [hy]
    exact ⟨_, _, rfl, rfl, o0, o1, o2, o3, _, _, _, _, _, _, _, _, _, _, _, _, _, rfl, ho⟩
  have q0 : en = -1 → q_told x (F, w, ms, Bf, lg, (c0, c1, c2, c3), (en, gv, ft, mk)) = -1 := fun z => by simp only [q_told]; rw [if_pos z]
  by_cases x0 : x = 0
  · refine EV.tsw 0 ⟨_, rfl, fun _ _ _ => rfl⟩ x0 (by decide) ?_
    repeat (first | refine EV.s rfl rfl rfl ?_ | refine EW.get 0 hD rfl rfl rfl rfl ?_ | refine EW.get 7 hD rfl rfl rfl rfl ?_)
    refine EV.ri rfl rfl ?_
    refine key2 _ ?_
    by_cases e : en = -1
    · rw [if_pos e] at ho2; rw [q0 e, ho2.1]
    · rw [if_neg e] at ho2; simp only [q_told]; rw [if_neg e, if_pos x0, ho2.1]
  by_cases x1 : x = 1
  · refine EV.tsw 1 ⟨_, rfl, fun _ _ _ => rfl⟩ x1 (by decide) ?_
    repeat (first | refine EV.s rfl rfl rfl ?_ | refine EW.get 0 hD rfl rfl rfl rfl ?_ | refine EW.get 7 hD rfl rfl rfl rfl ?_)
    refine EV.ri rfl rfl ?_
    refine key2 _ ?_
    by_cases e : en = -1
    · rw [if_pos e] at ho2; rw [q0 e, ho2.2.1]
    · rw [if_neg e] at ho2; simp only [q_told]; rw [if_neg e, if_neg x0, if_pos x1, ho2.2.1]
  by_cases x2 : x = 2
  · refine EV.tsw 2 ⟨_, rfl, fun _ _ _ => rfl⟩ x2 (by decide) ?_
    repeat (first | refine EV.s rfl rfl rfl ?_ | refine EW.get 0 hD rfl rfl rfl rfl ?_ | refine EW.get 7 hD rfl rfl rfl rfl ?_)
    refine EV.ri rfl rfl ?_
    refine key2 _ ?_
    by_cases e : en = -1
    · rw [if_pos e] at ho2; rw [q0 e, ho2.2.2.1]
    · rw [if_neg e] at ho2; simp only [q_told]; rw [if_neg e, if_neg x0, if_neg x1, if_pos x2, ho2.2.2.1]
  by_cases x3 : x = 3
  · refine EV.tsw 3 ⟨_, rfl, fun _ _ _ => rfl⟩ x3 (by decide) ?_
    repeat (first | refine EV.s rfl rfl rfl ?_ | refine EW.get 0 hD rfl rfl rfl rfl ?_ | refine EW.get 7 hD rfl rfl rfl rfl ?_)
    refine EV.ri rfl rfl ?_
    refine key2 _ ?_
    by_cases e : en = -1
    · rw [if_pos e] at ho2; rw [q0 e, ho2.2.2.2]
    · rw [if_neg e] at ho2; simp only [q_told]; rw [if_neg e, if_neg x0, if_neg x1, if_neg x2, if_pos x3, ho2.2.2.2]
  refine EV.tsD ⟨_, rfl, fun _ _ _ => rfl⟩ 4 rfl (by decide) (fun j hj => ?_) ?_
  · have : j = 0 ∨ j = 1 ∨ j = 2 ∨ j = 3 := by omega
    rcases this with rfl | rfl | rfl | rfl
    · exact x0
    · exact x1
    · exact x2
    · exact x3
  repeat refine EV.s rfl rfl rfl ?_
  refine EV.ri rfl rfl ?_
  refine key2 _ ?_
  by_cases e : en = -1
  · rw [q0 e]
  · simp only [q_told]; rw [if_neg e, if_neg x0, if_neg x1, if_neg x2, if_neg x3]
end CPB
