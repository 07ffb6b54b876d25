section EVF
variable {bs : Nat} {sa : Nat → Nat} {d : Nat} {T : e_M} {E : e_C ⊕ (Option Value × e_H) → Prop}
variable {pc nx x1 x2 idx : Nat} {v w : Value} {ts : List Nat} {lo : e_L} {r : List Value} {h : e_H} {as : List Nat} {os : List e_O}
theorem EW.cvF {ci b : Nat} {fs : List Value} {sk avs : List Value} {as1 : List Nat} {os1 : List e_O} {Q : Option Value → List e_O → Prop} (q : Nat) (ps : List Nat) (hD : as.Nodup) (hr : CT bs sa d x1 avs as1 os1 Q) (hf : ev_fnd T.2 pc = some (.invokevirtual idx, nx, x1, x2, v, [ci])) (hl : as.length = os.length) (hdr : sk.drop x2 = .ref b :: r) (hq : as[q]? = some b) (ho : os[q]? = some (.inl (ci, fs))) (hlen : x2 ≤ sk.length) (hsum : ev_sum r ≤ 8) (ha : avs = .ref b :: (sk.take x2).reverse) (h1 : ps.map (fun p => as[p]?) = as1.map some) (h2 : ps.map (fun p => os[p]?) = os1.map some)
    (k : ∀ rv os2, Q rv os2 → ∃ os', setm os ps os2 = os' ∧ ev_E tbs bs sa d T E (nx, lo, rv.toList ++ r, wd as os' h)) : ev_E tbs bs sa d T E (pc, lo, sk, wd as os h) := by
  refine EW.cvE q ps hD hr hf hl hdr hq ho hlen hsum ha h1 h2 (fun rv os2 hQ => ?_)
  obtain ⟨os', e, hk⟩ := k rv os2 hQ
  rw [e]; exact hk
end EVF
theorem fl8_cpy {X X' : Nat → Int32} (ms : Nat → Nat → Int32) (e : Nat) (hX : ∀ j, j < 8 → X j = X' j) : va_cpy X (fl8 ms) 0 (8 * e) 8 = fl8 (upp ms e (va_cpy X' (ms e) 0 0 8)) := by
  funext j
  simp only [va_cpy, fl8, upp]
  by_cases q : j / 8 = e
  · rw [if_pos (by omega), if_pos q]
    show _ = if 0 ≤ j % 8 ∧ j % 8 < 0 + 8 then X' (0 + (j % 8 - 0)) else ms e (j % 8)
    rw [if_pos (by omega), hX _ (by omega)]; congr 1; omega
  · rw [if_neg (by omega), if_neg q]
theorem mea_congr {K I m m' w w' : Nat → Int32} {t a r : Int32} (hm : ∀ j, j < 8 → m j = m' j) (hw : ∀ j, j < 32 → w j = w' j) {j : Nat} (hj : j < 8) : mea K I m t a r w j = mea K I m' t a r w' j := by
  unfold mea
  refine sha_congr (fun _ _ => rfl) (fun _ _ => rfl) (fun i hi => ?_) hj
  by_cases q : i < 8
  · rw [if_pos q, if_pos q, hm i q]
  · rw [if_neg q, if_neg q, hw (i - 12) (by omega)]
theorem le1023 {x : Int32} {n : Nat} (hn : n + 1 < 2 ^ 31) (h : ¬ inI x (n + 1)) (h0 : ¬ x < 0) : ¬ x ≤ nI n := by
  intro z
  obtain ⟨j, hj, rfl⟩ := nI_of2 (n := n) (nI_toInt (by omega)) h0 z
  exact h ⟨Int32.not_lt.mp h0, nI_lt (by omega) hn⟩
section MPC
variable {bs : Nat} {sa : Nat → Nat}
set_option maxHeartbeats 1000000 in
set_option maxRecDepth 100000 in
theorem m_versions (d M P : Nat) (hP : P ≤ 40) (key mark I K : Nat → Int32) (hbs : bs ≤ M) (hD : (mas M sa).Nodup) (s : zS) (hI : Iv P s) (o : List e_O) (ho : mS M P key mark I K s o) (p : Int32) :
    CT bs sa (d + 2) 88 [.ref M, .int p] (mas M sa) o (fun rv o' => rv = some (.int (q_versions P p s).1) ∧ mS M P key mark I K (q_versions P p s).2 o') := by
  obtain ⟨F, w, ms, B, lg, ⟨c0, c1, c2, c3⟩, ⟨en, gv, ft, mk⟩⟩ := s; obtain ⟨th, pc, A, H, G, T, S, St, r, rfl⟩ := ho
  refine CT.mk (T := t_X5_versions) rfl (Nat.le_of_ble_eq_true rfl) (fun h => ?_)
  repeat refine EV.s rfl rfl rfl ?_
  refine EW.putY 0 (mo M P 0 c0 c1 c2 c3 lg pc mk en gv ft F w ms B key mark A H G T S St r I K) hD rfl rfl rfl hbs (Nat.le_of_ble_eq_true rfl) rfl rfl ?_
  repeat refine EV.s rfl rfl rfl ?_
  refine EW.cvY 0 [0, 1] (mo M P 0 c0 c1 c2 c3 lg pc mk en gv ft F w ms B key mark A H G T S St r I K) hD (fun h0 => r_misOf d M P hP _ rfl rfl p 0 (F 0) h0 (nd_sub hD [0, 1] (by decide) rfl)) rfl rfl rfl rfl rfl (Nat.le_of_ble_eq_true rfl) (Nat.le_of_ble_eq_true rfl) rfl rfl rfl rfl rfl ?_
  by_cases hp : ty P F p 0
  · rw [iso_y hp]
    refine EV.ifT rfl (by decide) ?_
    have hq : q_versions P p (F, w, ms, B, lg, (c0, c1, c2, c3), (en, gv, ft, mk)) = _ := if_pos hp
    rw [hq]
    obtain ⟨j, hj, rfl, ht⟩ := ty_j hP hp
    obtain ⟨g1, g2, g3, g4, g5, gw, gm⟩ := hI.free hj ht
    rw [cnI (by omega)]
    repeat refine EV.s rfl rfl rfl ?_
    refine EW.cvY 0 [0, 1, 2, 3, 4, 5, 6, 7, 8] (mo M P 0 c0 c1 c2 c3 lg pc mk en gv ft (uF F 0 j 4) w ms B key mark A H G T S St r I K) hD (fun h0 => r_becF d M j 4 _ rfl rfl rfl rfl rfl rfl rfl rfl (by omega) F w ms g1 g2 g3 g4 g5 gw gm h0 (nd_sub hD [0, 1, 2, 3, 4, 5, 6, 7, 8] (by decide) rfl) hbs) rfl rfl rfl rfl rfl (Nat.le_of_ble_eq_true rfl) (Nat.le_of_ble_eq_true rfl) rfl rfl rfl rfl rfl ?_
    repeat refine EV.s rfl rfl rfl ?_
    refine EV.ri rfl rfl ?_
    exact mfin ⟨rfl, 0, pc, A, H, G, T, S, St, r, rfl⟩ rfl
  · rw [iso_n hp]
    refine EV.ifF rfl (by decide) ?_
    repeat refine EV.s rfl rfl rfl ?_
    refine EV.ri rfl rfl ?_
    have hq : q_versions P p (F, w, ms, B, lg, (c0, c1, c2, c3), (en, gv, ft, mk)) = _ := if_neg hp
    rw [hq]
    exact mfin ⟨rfl, 0, pc, A, H, G, T, S, St, r, rfl⟩ rfl
set_option maxHeartbeats 1000000 in
set_option maxRecDepth 100000 in
theorem m_stop (d M P : Nat) (hP : P ≤ 40) (key mark I K : Nat → Int32) (hbs : bs ≤ M) (hD : (mas M sa).Nodup) (s : zS) (hI : Iv P s) (o : List e_O) (ho : mS M P key mark I K s o) (e : Int32) :
    CT bs sa (d + 2) 90 [.ref M, .int e] (mas M sa) o (fun rv o' => rv = some (.int (q_stop P e s).1) ∧ mS M P key mark I K (q_stop P e s).2 o') := by
  obtain ⟨F, w, ms, B, lg, ⟨c0, c1, c2, c3⟩, ⟨en, gv, ft, mk⟩⟩ := s; obtain ⟨th, pc, A, H, G, T, S, St, r, rfl⟩ := ho
  refine CT.mk (T := t_X5_stop) rfl (Nat.le_of_ble_eq_true rfl) (fun h => ?_)
  repeat refine EV.s rfl rfl rfl ?_
  refine EW.putY 0 (mo M P 0 c0 c1 c2 c3 lg pc mk en gv ft F w ms B key mark A H G T S St r I K) hD rfl rfl rfl hbs (Nat.le_of_ble_eq_true rfl) rfl rfl ?_
  repeat refine EV.s rfl rfl rfl ?_
  refine EW.cvY 0 [0, 1] (mo M P 0 c0 c1 c2 c3 lg pc mk en gv ft F w ms B key mark A H G T S St r I K) hD (fun h0 => r_misOf d M P hP _ rfl rfl e 1 (F 0) h0 (nd_sub hD [0, 1] (by decide) rfl)) rfl rfl rfl rfl rfl (Nat.le_of_ble_eq_true rfl) (Nat.le_of_ble_eq_true rfl) rfl rfl rfl rfl rfl ?_
  by_cases hp : ty P F e 1
  · rw [iso_y hp]
    refine EV.ifT rfl (by decide) ?_
    obtain ⟨j, hj, rfl, ht⟩ := ty_j hP hp
    repeat (first | refine EV.s rfl rfl rfl ?_ | refine EW.get 0 hD rfl rfl rfl rfl ?_)
    refine EW.iald 6 (j) hD rfl rfl rfl (rfl) (by omega) (by decide) ?_
    repeat refine EV.s rfl rfl rfl ?_
    by_cases h5 : F 5 j = 2
    · refine EV.icF rfl (decide_eq_false (fun z => z h5)) ?_
      have hq : q_stop P (nI j) (F, w, ms, B, lg, (c0, c1, c2, c3), (en, gv, ft, mk)) = _ := (if_pos hp).trans (if_pos (by rw [cnI (by omega)]; exact h5))
      rw [hq]
      repeat refine EV.s rfl rfl rfl ?_
      refine EV.ri rfl rfl ?_
      exact mfin ⟨rfl, 0, pc, A, H, G, T, S, St, r, rfl⟩ rfl
    · refine EV.icT rfl (decide_eq_true h5) ?_
      have hq : q_stop P (nI j) (F, w, ms, B, lg, (c0, c1, c2, c3), (en, gv, ft, mk)) = _ := (if_pos hp).trans (if_neg (by rw [cnI (by omega)]; exact h5))
      rw [hq, cnI (by omega)]
      repeat (first | refine EV.s rfl rfl rfl ?_ | refine EW.get 0 hD rfl rfl rfl rfl ?_)
      refine EW.iastY 6 (j) (mo M P 0 c0 c1 c2 c3 lg pc mk en gv ft (uF F 5 j 2) w ms B key mark A H G T S St r I K) hD rfl rfl rfl (by omega) (rfl) (by omega) (by decide) (rfl) ?_
      repeat refine EV.s rfl rfl rfl ?_
      refine EV.ri rfl rfl ?_
      exact mfin ⟨rfl, 0, pc, A, H, G, T, S, St, r, rfl⟩ rfl
  · rw [iso_n hp]
    refine EV.ifF rfl (by decide) ?_
    repeat refine EV.s rfl rfl rfl ?_
    refine EV.ri rfl rfl ?_
    have hq : q_stop P e (F, w, ms, B, lg, (c0, c1, c2, c3), (en, gv, ft, mk)) = _ := if_neg hp
    rw [hq]
    exact mfin ⟨rfl, 0, pc, A, H, G, T, S, St, r, rfl⟩ rfl
set_option maxHeartbeats 2000000 in
set_option maxRecDepth 100000 in
theorem m_thread (d M P : Nat) (hP : P ≤ 40) (key mark I K : Nat → Int32) (hbs : bs ≤ M) (hD : (mas M sa).Nodup) (s : zS) (hI : Iv P s) (o : List e_O) (ho : mS M P key mark I K s o) (e p x : Int32) :
    CT bs sa (d + 5) 85 [.ref M, .int e, .int p, .int x] (mas M sa) o (fun rv o' => rv = some (.int (q_thread P K I e p x s).1) ∧ mS M P key mark I K (q_thread P K I e p x s).2 o') := by
  obtain ⟨F, w, ms, B, lg, ⟨c0, c1, c2, c3⟩, ⟨en, gv, ft, mk⟩⟩ := s; obtain ⟨th, pc, A, H, G, T, S, St, r, rfl⟩ := ho
  refine CT.mk (T := t_X5_thread) rfl (Nat.le_of_ble_eq_true rfl) (fun h => ?_)
  repeat refine EV.s rfl rfl rfl ?_
  refine EW.putY 0 (mo M P 0 c0 c1 c2 c3 lg pc mk en gv ft F w ms B key mark A H G T S St r I K) hD rfl rfl rfl hbs (Nat.le_of_ble_eq_true rfl) rfl rfl ?_
  repeat refine EV.s rfl rfl rfl ?_
  refine EW.cvY 0 [0, 1] (mo M P 0 c0 c1 c2 c3 lg pc mk en gv ft F w ms B key mark A H G T S St r I K) hD (fun h0 => r_misOf (d + 3) M P hP _ rfl rfl e 1 (F 0) h0 (nd_sub hD [0, 1] (by decide) rfl)) rfl rfl rfl rfl rfl (Nat.le_of_ble_eq_true rfl) (Nat.le_of_ble_eq_true rfl) rfl rfl rfl rfl rfl ?_
  by_cases he : ty P F e 1
  rotate_left
  · rw [iso_n he]
    refine EV.ifT rfl (by decide) ?_
    repeat refine EV.s rfl rfl rfl ?_
    refine EV.ri rfl rfl ?_
    have hq : q_thread P K I e p x (F, w, ms, B, lg, (c0, c1, c2, c3), (en, gv, ft, mk)) = _ := if_neg (fun z => he z.1)
    rw [hq]
    exact mfin ⟨rfl, 0, pc, A, H, G, T, S, St, r, rfl⟩ rfl
  rw [iso_y he]
  refine EV.ifF rfl (by decide) ?_
  repeat refine EV.s rfl rfl rfl ?_
  refine EW.cvY 0 [0, 1] (mo M P 0 c0 c1 c2 c3 lg pc mk en gv ft F w ms B key mark A H G T S St r I K) hD (fun h0 => r_misOf (d + 3) M P hP _ rfl rfl p 0 (F 0) h0 (nd_sub hD [0, 1] (by decide) rfl)) rfl rfl rfl rfl rfl (Nat.le_of_ble_eq_true rfl) (Nat.le_of_ble_eq_true rfl) rfl rfl rfl rfl rfl ?_
  by_cases hp : ty P F p 0
  rotate_left
  · rw [iso_n hp]
    refine EV.ifF rfl (by decide) ?_
    repeat refine EV.s rfl rfl rfl ?_
    refine EV.ri rfl rfl ?_
    have hq : q_thread P K I e p x (F, w, ms, B, lg, (c0, c1, c2, c3), (en, gv, ft, mk)) = _ := if_neg (fun z => hp z.2)
    rw [hq]
    exact mfin ⟨rfl, 0, pc, A, H, G, T, S, St, r, rfl⟩ rfl
  rw [iso_y hp]
  refine EV.ifT rfl (by decide) ?_
  obtain ⟨je, hje, rfl, hte⟩ := ty_j hP he
  obtain ⟨j, hj, rfl, ht⟩ := ty_j hP hp
  obtain ⟨g1, g2, g3, g4, g5, gw, gm⟩ := hI.free hj ht
  repeat (first | refine EV.s rfl rfl rfl ?_ | refine EW.get 0 hD rfl rfl rfl rfl ?_)
  refine EW.iald 6 (je) hD rfl rfl rfl (rfl) (by omega) (by decide) ?_
  by_cases h5 : F 5 je = 0
  rotate_left
  · refine EV.ifF rfl (decide_eq_false h5) ?_
    repeat refine EV.s rfl rfl rfl ?_
    refine EV.ri rfl rfl ?_
    have hq : q_thread P K I (nI je) (nI j) x (F, w, ms, B, lg, (c0, c1, c2, c3), (en, gv, ft, mk)) = _ := (if_pos ⟨he, hp⟩).trans (if_neg (by rw [cnI (by omega)]; exact h5))
    rw [hq]
    exact mfin ⟨rfl, 0, pc, A, H, G, T, S, St, r, rfl⟩ rfl
  refine EV.ifT rfl (decide_eq_true h5) ?_
  have h5' : F 5 (cn (nI je)) = 0 := by rw [cnI (by omega)]; exact h5
  by_cases hn : inI x 1024
  rotate_left
  · have hq : q_thread P K I (nI je) (nI j) x (F, w, ms, B, lg, (c0, c1, c2, c3), (en, gv, ft, mk)) = _ := (if_pos ⟨he, hp⟩).trans ((if_pos h5').trans (if_neg hn))
    rw [hq]
    repeat refine EV.s rfl rfl rfl ?_
    refine EV.ifc rfl (fun hb => ?_) (fun hb => ?_)
    · repeat refine EV.s rfl rfl rfl ?_
      refine EV.ri rfl rfl ?_
      exact mfin ⟨rfl, 0, pc, A, H, G, T, S, St, r, rfl⟩ rfl
    · repeat refine EV.s rfl rfl rfl ?_
      refine EV.icF rfl (decide_eq_false (le1023 (by decide) hn (of_decide_eq_false hb))) ?_
      repeat refine EV.s rfl rfl rfl ?_
      refine EV.ri rfl rfl ?_
      exact mfin ⟨rfl, 0, pc, A, H, G, T, S, St, r, rfl⟩ rfl
  have hq : q_thread P K I (nI je) (nI j) x (F, w, ms, B, lg, (c0, c1, c2, c3), (en, gv, ft, mk)) = _ := (if_pos ⟨he, hp⟩).trans ((if_pos h5').trans (if_pos hn))
  rw [hq, cnI (by omega), cnI (by omega)]
  obtain ⟨k, hk, rfl⟩ := in_nI (by decide) hn
  repeat refine EV.s rfl rfl rfl ?_
  refine EV.ifF rfl (decide_eq_false (nI_pos (by omega))) ?_
  repeat refine EV.s rfl rfl rfl ?_
  refine EV.icT rfl (decide_eq_true (nI_le (b := 1023) (by omega) (by decide))) ?_
  repeat refine EV.s rfl rfl rfl ?_
  refine EW.cvY 0 [0, 1, 2, 3, 4, 5, 6, 7, 8] (mo M P 0 c0 c1 c2 c3 lg pc mk en gv ft (uF F 0 j 2) w ms B key mark A H G T S St r I K) hD (fun h0 => r_becF (d + 3) M j 2 _ rfl rfl rfl rfl rfl rfl rfl rfl (by omega) F w ms g1 g2 g3 g4 g5 gw gm h0 (nd_sub hD [0, 1, 2, 3, 4, 5, 6, 7, 8] (by decide) rfl) hbs) rfl rfl rfl rfl rfl (Nat.le_of_ble_eq_true rfl) (Nat.le_of_ble_eq_true rfl) rfl rfl rfl rfl rfl ?_
  repeat (first | refine EV.s rfl rfl rfl ?_ | refine EW.get 0 hD rfl rfl rfl rfl ?_)
  refine EW.iastY 2 (j) (mo M P 0 c0 c1 c2 c3 lg pc mk en gv ft (uF (uF F 0 j 2) 1 j (nI je)) w ms B key mark A H G T S St r I K) hD rfl rfl rfl (by omega) (rfl) (by omega) (by decide) (rfl) ?_
  repeat (first | refine EV.s rfl rfl rfl ?_ | refine EW.get 0 hD rfl rfl rfl rfl ?_)
  refine EW.iastY 7 (32 * j + 0) (mo M P 0 c0 c1 c2 c3 lg pc mk en gv ft (uF (uF F 0 j 2) 1 j (nI je)) (upp w j (upd (w j) 0 (nI k))) ms B key mark A H G T S St r I K) hD rfl rfl rfl (by omega) (pk_mul 32 j) (by omega) (by decide) (by rw [fl32_up w j 0 (by decide)]; rfl) ?_
  repeat refine EV.s rfl rfl rfl ?_
  refine EW.cvF 0 [0, 1, 4, 7, 8, 12, 13, 14, 15, 19, 20] hD (r_measured d M je j (nI k) _ rfl rfl rfl rfl rfl rfl rfl rfl (by omega) (by omega) _ _ _ _ A H G T I K (nd_sub hD [0, 1, 4, 7, 8, 12, 13, 14, 15, 19, 20] (by decide) rfl) hbs) rfl rfl rfl rfl rfl (Nat.le_of_ble_eq_true rfl) (Nat.le_of_ble_eq_true rfl) rfl rfl rfl ?_
  rintro rv os2 ⟨rfl, Me', A', H', G', T', rfl, hMe⟩
  have hMe2 : Me' = fl8 (upp ms je (va_cpy (mea K I (ms je) 2 (nI k) (F 3 j) (upd (w j) 0 (nI k))) (ms je) 0 0 8)) := by
    rw [hMe]
    refine fl8_cpy ms je (fun i hi => ?_)
    have e2 : (uF (uF F 0 j 2) 1 j (nI je)) 0 j = 2 := by simp [uF, upp, upd]
    have e3 : (uF (uF F 0 j 2) 1 j (nI je)) 3 j = F 3 j := by simp [uF, upp]
    rw [e2, e3]
    refine mea_congr (fun i hi => fl8_at ms je i hi) (fun i hi => ?_) hi
    rw [fl32_at _ j i hi, upp_at]
  subst hMe2
  refine ⟨(mo M P 0 c0 c1 c2 c3 lg pc mk en gv ft (uF (uF F 0 j 2) 1 j (nI je)) (upp w j (upd (w j) 0 (nI k))) (upp ms je (va_cpy (mea K I (ms je) 2 (nI k) (F 3 j) (upd (w j) 0 (nI k))) (ms je) 0 0 8)) B key mark A' H' G' T' S St r I K), rfl, ?_⟩
  repeat refine EV.s rfl rfl rfl ?_
  refine EV.ri rfl rfl ?_
  exact mfin ⟨rfl, 0, pc, A', H', G', T', S, St, r, rfl⟩ rfl
end MPC
