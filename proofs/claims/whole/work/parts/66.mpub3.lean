theorem fl8_up (w : Nat → Nat → Int32) (p i : Nat) (hi : i < 8) (x : Int32) : upd (fl8 w) (8 * p + i) x = fl8 (upp w p (upd (w p) i x)) := by
  funext j
  simp only [upd, fl8, upp]
  by_cases e : j / 8 = p
  · rw [if_pos e]
    show _ = if j % 8 = i then x else w p (j % 8)
    by_cases e2 : j = 8 * p + i
    · rw [if_pos e2, if_pos (by omega)]
    · rw [if_neg e2, if_neg (by omega), e]
  · rw [if_neg e, if_neg (by omega)]
theorem upp_self (w : Nat → Nat → Int32) (p : Nat) : upp w p (w p) = w := by
  funext q
  simp only [upp]
  by_cases e : q = p
  · rw [if_pos e, e]
  · rw [if_neg e]
/-- a row is copied, word by word -/
theorem upp_cpy (w : Nat → Nat → Int32) (j : Nat) (B : Nat → Int32) (k : Nat) : upp (upp w j (va_cpy B (w j) 0 0 k)) j (upd (upp w j (va_cpy B (w j) 0 0 k) j) k (B k)) = upp w j (va_cpy B (w j) 0 0 (k + 1)) := by
  rw [upp2, upp_at, cpyS, Nat.zero_add]
theorem upp_cpy0 (w : Nat → Nat → Int32) (j : Nat) (B : Nat → Int32) : upp w j (va_cpy B (w j) 0 0 0) = w := by
  rw [cpy0, upp_self]
theorem cnt_nI (f : Nat → Int32) (e : Int32) : ∀ n, ∃ m, m ≤ n ∧ cnt f e n = nI m
  | 0 => ⟨0, Nat.le_refl _, rfl⟩
  | n + 1 => by
    obtain ⟨m, hm, h⟩ := cnt_nI f e n
    by_cases q : f n = e
    · exact ⟨m + 1, by omega, by rw [cnt, h, if_pos q]; exact nI_1 m⟩
    · exact ⟨m, by omega, by rw [cnt, h, if_neg q]; exact nI_add m 0⟩
theorem cnt_le0 (f : Nat → Int32) (e : Int32) {n : Nat} (hn : n ≤ 40) : cnt f e n ≤ 0 ↔ cnt f e n = 0 := by
  obtain ⟨m, hm, h⟩ := cnt_nI f e n
  rw [h]
  constructor
  · intro z
    by_cases q : m = 0
    · rw [q]; rfl
    · exact absurd z (nI_nle (by omega) (by omega))
  · intro z; rw [z]; decide
section MPD
variable {bs : Nat} {sa : Nat → Nat}
set_option maxHeartbeats 1000000 in
set_option maxRecDepth 100000 in
theorem r_mdata_w (d M P : Nat) (th c0 c1 c2 c3 : Int32) (lg : Int64) (pc mk en gv ft : Int32) (F w ms : Nat → Nat → Int32) (B key mark A H G T S St r I K : Nat → Int32) (j : Nat) (hj : j < 40) (hbs : bs ≤ M) (l1 l3 l4 : Int32) (h : e_H) (hD : (mas M sa).Nodup) (E : e_C ⊕ (Option Value × e_H) → Prop)
    (hK : ∀ (ki : Int32), ev_E tbs bs sa (d) t_X5_data E (133, [some (.ref M), some (.int l1), some (.int (nI j)), some (.int l3), some (.int l4), some (.int ki)], [], wd (mas M sa) (mo M P th c0 c1 c2 c3 lg pc mk en gv ft F (upp w j (va_cpy B (w j) 0 0 32)) ms B key mark A H G T S St r I K) h)) :
    ∀ (c k : Nat), k + c = 32 → ∀ Z, Z = upp w j (va_cpy B (w j) 0 0 k) → ∀ (ki : Int32), ki = nI k → ev_E tbs bs sa (d) t_X5_data E (105, [some (.ref M), some (.int l1), some (.int (nI j)), some (.int l3), some (.int l4), some (.int ki)], [.int 32, .int ki], wd (mas M sa) (mo M P th c0 c1 c2 c3 lg pc mk en gv ft F Z ms B key mark A H G T S St r I K) h) := by
  intro c
  induction c with
  | zero =>
    intro k hkc Z hZ ki hki
    have e : k = 32 := by omega
    subst e; subst hZ; subst hki
    refine EV.icm rfl (fun hc => ?_) (fun hc => ?_)
    · exact hK _
    · exact absurd (by decide : (32 : Int32) ≤ nI 32) (of_decide_eq_false hc)
  | succ c ih =>
    intro k hkc Z hZ ki hki
    subst hki; subst hZ
    refine EV.icm rfl (fun hc => ?_) (fun hc => ?_)
    · exact absurd (of_decide_eq_true hc) (nI_ge (b := 32) (by omega) (by decide))
    · have e1 : (32 : Int32) * nI j + nI k = nI (32 * j + k) := by
        have a1 : (32 : Int32) * nI j = nI (32 * j) := pk_mul 32 j
        rw [a1, nI_add]
      repeat (first | refine EV.s rfl rfl rfl ?_ | refine EW.get 0 hD rfl rfl rfl rfl ?_)
      refine EW.iald 9 (k) hD rfl rfl rfl (rfl) (by omega) (by decide) ?_
      refine EW.iastY 7 (32 * j + k) (mo M P th c0 c1 c2 c3 lg pc mk en gv ft F (upp w j (va_cpy B (w j) 0 0 (k + 1))) ms B key mark A H G T S St r I K) hD rfl rfl rfl (by omega) (e1) (by omega) (by decide) (by rw [fl32_up _ j k (by omega), upp_cpy]; rfl) ?_
      repeat refine EV.s rfl rfl rfl ?_
      exact ih (k + 1) (by omega) _ (rfl) _ (nI_1 k)
set_option maxHeartbeats 2000000 in
set_option maxRecDepth 100000 in
theorem m_data (d M P : Nat) (hP : P ≤ 40) (key mark I K : Nat → Int32) (hbs : bs ≤ M) (hD : (mas M sa).Nodup) (s : zS) (hI : Iv P s) (o : List e_O) (ho : mS M P key mark I K s o) (e p a x : Int32) :
    CT bs sa (d + 5) 87 [.ref M, .int e, .int p, .int a, .int x] (mas M sa) o (fun rv o' => rv = some (.int (q_data P K I e p a x s).1) ∧ mS M P key mark I K (q_data P K I e p a x s).2 o') := by
  obtain ⟨F, w, ms, B, lg, ⟨c0, c1, c2, c3⟩, ⟨en, gv, ft, mk⟩⟩ := s; obtain ⟨th, pc, A, H, G, T, S, St, r, rfl⟩ := ho
  refine CT.mk (T := t_X5_data) rfl (Nat.le_of_ble_eq_true rfl) (fun h => ?_)
  repeat refine EV.s rfl rfl rfl ?_
  refine EW.putY 0 (mo M P 0 c0 c1 c2 c3 lg pc mk en gv ft F w ms B key mark A H G T S St r I K) hD rfl rfl rfl hbs (Nat.le_of_ble_eq_true rfl) rfl rfl ?_
  repeat refine EV.s rfl rfl rfl ?_
  refine EW.cvY 0 [0, 1] (mo M P 0 c0 c1 c2 c3 lg pc mk en gv ft F w ms B key mark A H G T S St r I K) hD (fun h0 => r_misOf (d + 3) M P hP _ rfl rfl e 1 (F 0) h0 (nd_sub hD [0, 1] (by decide) rfl)) rfl rfl rfl rfl rfl (Nat.le_of_ble_eq_true rfl) (Nat.le_of_ble_eq_true rfl) rfl rfl rfl rfl rfl ?_
  by_cases he : ty P F e 1
  rotate_left
  · rw [iso_n he]
    refine EV.ifT rfl (by decide) ?_
    repeat refine EV.s rfl rfl rfl ?_
    refine EV.ri rfl rfl ?_
    have hq : q_data P K I e p a x (F, w, ms, B, lg, (c0, c1, c2, c3), (en, gv, ft, mk)) = _ := if_neg (fun z => he z.1)
    rw [hq]
    exact mfin ⟨rfl, 0, pc, A, H, G, T, S, St, r, rfl⟩ rfl
  rw [iso_y he]
  refine EV.ifF rfl (by decide) ?_
  repeat refine EV.s rfl rfl rfl ?_
  refine EW.cvY 0 [0, 1] (mo M P 0 c0 c1 c2 c3 lg pc mk en gv ft F w ms B key mark A H G T S St r I K) hD (fun h0 => r_misOf (d + 3) M P hP _ rfl rfl p 0 (F 0) h0 (nd_sub hD [0, 1] (by decide) rfl)) rfl rfl rfl rfl rfl (Nat.le_of_ble_eq_true rfl) (Nat.le_of_ble_eq_true rfl) rfl rfl rfl rfl rfl ?_
  by_cases hp : ty P F p 0
  rotate_left
  · rw [iso_n hp]
    refine EV.ifF rfl (by decide) ?_
    repeat refine EV.s rfl rfl rfl ?_
    refine EV.ri rfl rfl ?_
    have hq : q_data P K I e p a x (F, w, ms, B, lg, (c0, c1, c2, c3), (en, gv, ft, mk)) = _ := if_neg (fun z => hp z.2)
    rw [hq]
    exact mfin ⟨rfl, 0, pc, A, H, G, T, S, St, r, rfl⟩ rfl
  rw [iso_y hp]
  refine EV.ifT rfl (by decide) ?_
  obtain ⟨je, hje, rfl, hte⟩ := ty_j hP he
  obtain ⟨j, hj, rfl, ht⟩ := ty_j hP hp
  obtain ⟨g1, g2, g3, g4, g5, gw, gm⟩ := hI.free hj ht
  repeat (first | refine EV.s rfl rfl rfl ?_ | refine EW.get 0 hD rfl rfl rfl rfl ?_)
  refine EW.iald 6 (je) hD rfl rfl rfl (rfl) (by omega) (by decide) ?_
  by_cases h5 : F 5 je = 0
  rotate_left
  · refine EV.ifF rfl (decide_eq_false h5) ?_
    repeat refine EV.s rfl rfl rfl ?_
    refine EV.ri rfl rfl ?_
    have hq : q_data P K I (nI je) (nI j) a x (F, w, ms, B, lg, (c0, c1, c2, c3), (en, gv, ft, mk)) = _ := (if_pos ⟨he, hp⟩).trans (if_neg (by rw [cnI (by omega)]; exact h5))
    rw [hq]
    exact mfin ⟨rfl, 0, pc, A, H, G, T, S, St, r, rfl⟩ rfl
  refine EV.ifT rfl (decide_eq_true h5) ?_
  have h5' : F 5 (cn (nI je)) = 0 := by rw [cnI (by omega)]; exact h5
  have no : ¬ (inI a 32 ∧ inI x 8 ∧ fat P (F 0) (F 1) (F 2) (nI je) a = none) → ev_E tbs bs sa (d + 4) t_X5_data (fun y => ∃ v h', y = .inr (v, h') ∧ ∃ os2, ((v = some (.int (q_data P K I (nI je) (nI j) a x (F, w, ms, B, lg, (c0, c1, c2, c3), (en, gv, ft, mk))).1) ∧ mS M P key mark I K (q_data P K I (nI je) (nI j) a x (F, w, ms, B, lg, (c0, c1, c2, c3), (en, gv, ft, mk))).2 os2) ∧ os2.length = (mas M sa).length) ∧ h' = wd (mas M sa) os2 h) (68, [some (.ref M), some (.int (nI je)), some (.int (nI j)), some (.int a), some (.int x), none], [], wd (mas M sa) (mo M P 0 c0 c1 c2 c3 lg pc mk en gv ft F w ms B key mark A H G T S St r I K) h) := by
    intro hn
    have hq : q_data P K I (nI je) (nI j) a x (F, w, ms, B, lg, (c0, c1, c2, c3), (en, gv, ft, mk)) = _ := (if_pos ⟨he, hp⟩).trans ((if_pos h5').trans (if_neg hn))
    rw [hq]
    repeat refine EV.s rfl rfl rfl ?_
    refine EV.ri rfl rfl ?_
    exact mfin ⟨rfl, 0, pc, A, H, G, T, S, St, r, rfl⟩ rfl
  by_cases ha : inI a 32
  rotate_left
  · repeat refine EV.s rfl rfl rfl ?_
    refine EV.ifc rfl (fun hb => ?_) (fun hb => ?_)
    · exact no (fun z => ha z.1)
    · repeat refine EV.s rfl rfl rfl ?_
      refine EV.icT rfl (decide_eq_true (Int32.not_le.mp (le1023 (n := 31) (by decide) ha (of_decide_eq_false hb)))) ?_
      exact no (fun z => ha z.1)
  obtain ⟨ja, hja, rfl⟩ := in_nI (by decide) ha
  repeat refine EV.s rfl rfl rfl ?_
  refine EV.ifF rfl (decide_eq_false (nI_pos (by omega))) ?_
  repeat refine EV.s rfl rfl rfl ?_
  refine EV.icF rfl (decide_eq_false (nI_nlt (a := 31) (by omega) (by decide))) ?_
  by_cases hx : inI x 8
  rotate_left
  · repeat refine EV.s rfl rfl rfl ?_
    refine EV.ifc rfl (fun hb => ?_) (fun hb => ?_)
    · exact no (fun z => hx z.2.1)
    · repeat refine EV.s rfl rfl rfl ?_
      refine EV.icT rfl (decide_eq_true (Int32.not_le.mp (le1023 (n := 7) (by decide) hx (of_decide_eq_false hb)))) ?_
      exact no (fun z => hx z.2.1)
  obtain ⟨jx, hjx, rfl⟩ := in_nI (by decide) hx
  repeat refine EV.s rfl rfl rfl ?_
  refine EV.ifF rfl (decide_eq_false (nI_pos (by omega))) ?_
  repeat refine EV.s rfl rfl rfl ?_
  refine EV.icF rfl (decide_eq_false (nI_nlt (a := 7) (by omega) (by decide))) ?_
  repeat refine EV.s rfl rfl rfl ?_
  refine EW.cvY 0 [0, 1, 2, 3] (mo M P 0 c0 c1 c2 c3 lg pc mk en gv ft F w ms B key mark A H G T S St r I K) hD (fun h0 => r_mat (d + 3) M P hP _ rfl rfl rfl rfl (nI je) (nI ja) (F 0) (F 1) (F 2) h0 (nd_sub hD [0, 1, 2, 3] (by decide) rfl)) rfl rfl rfl rfl rfl (Nat.le_of_ble_eq_true rfl) (Nat.le_of_ble_eq_true rfl) rfl rfl rfl rfl rfl ?_
  cases hf : fat P (F 0) (F 1) (F 2) (nI je) (nI ja) with
  | some q =>
    obtain ⟨hqP, -⟩ := fat_some hf
    rw [fatI]
    repeat refine EV.s rfl rfl rfl ?_
    refine EV.icF rfl (decide_eq_false (m1_nI (by omega))) ?_
    exact no (fun z => by rw [hf] at z; exact absurd z.2.2 (by simp))
  | none =>
    rw [fatI]
    have hq : q_data P K I (nI je) (nI j) (nI ja) (nI jx) (F, w, ms, B, lg, (c0, c1, c2, c3), (en, gv, ft, mk)) = _ := (if_pos ⟨he, hp⟩).trans ((if_pos h5').trans (if_pos ⟨ha, hx, hf⟩))
    rw [hq, cnI (by omega), cnI (by omega)]
    repeat refine EV.s rfl rfl rfl ?_
    refine EV.icT rfl (by decide) ?_
    repeat refine EV.s rfl rfl rfl ?_
    refine EW.cvY 0 [0, 1, 2, 3, 4, 5, 6, 7, 8] (mo M P 0 c0 c1 c2 c3 lg pc mk en gv ft (uF F 0 j 3) w ms B key mark A H G T S St r I K) hD (fun h0 => r_becF (d + 3) M j 3 _ rfl rfl rfl rfl rfl rfl rfl rfl (by omega) F w ms g1 g2 g3 g4 g5 gw gm h0 (nd_sub hD [0, 1, 2, 3, 4, 5, 6, 7, 8] (by decide) rfl) hbs) rfl rfl rfl rfl rfl (Nat.le_of_ble_eq_true rfl) (Nat.le_of_ble_eq_true rfl) rfl rfl rfl rfl rfl ?_
    repeat (first | refine EV.s rfl rfl rfl ?_ | refine EW.get 0 hD rfl rfl rfl rfl ?_)
    refine EW.iastY 2 (j) (mo M P 0 c0 c1 c2 c3 lg pc mk en gv ft (uF (uF F 0 j 3) 1 j (nI je)) w ms B key mark A H G T S St r I K) hD rfl rfl rfl (by omega) (rfl) (by omega) (by decide) (rfl) ?_
    repeat (first | refine EV.s rfl rfl rfl ?_ | refine EW.get 0 hD rfl rfl rfl rfl ?_)
    refine EW.iastY 3 (j) (mo M P 0 c0 c1 c2 c3 lg pc mk en gv ft (uF (uF (uF F 0 j 3) 1 j (nI je)) 2 j (nI ja)) w ms B key mark A H G T S St r I K) hD rfl rfl rfl (by omega) (rfl) (by omega) (by decide) (rfl) ?_
    repeat (first | refine EV.s rfl rfl rfl ?_ | refine EW.get 0 hD rfl rfl rfl rfl ?_)
    refine EW.iastY 4 (j) (mo M P 0 c0 c1 c2 c3 lg pc mk en gv ft (uF (uF (uF (uF F 0 j 3) 1 j (nI je)) 2 j (nI ja)) 3 j (nI jx)) w ms B key mark A H G T S St r I K) hD rfl rfl rfl (by omega) (rfl) (by omega) (by decide) (rfl) ?_
    repeat refine EV.s rfl rfl rfl ?_
    refine r_mdata_w (d + 4) M P 0 c0 c1 c2 c3 lg pc mk en gv ft _ w ms B key mark A H G T S St r I K j (by omega) hbs _ _ _ h hD _ (fun ki => ?_) 32 0 rfl _ (upp_cpy0 _ _ _).symm _ rfl
    repeat refine EV.s rfl rfl rfl ?_
    refine EW.cvF 0 [0, 1, 4, 7, 8, 12, 13, 14, 15, 19, 20] hD (r_measured d M je j (nI ja) _ rfl rfl rfl rfl rfl rfl rfl rfl (by omega) (by omega) _ _ _ _ A H G T I K (nd_sub hD [0, 1, 4, 7, 8, 12, 13, 14, 15, 19, 20] (by decide) rfl) hbs) rfl rfl rfl rfl rfl (Nat.le_of_ble_eq_true rfl) (Nat.le_of_ble_eq_true rfl) rfl rfl rfl ?_
    rintro rv os2 ⟨rfl, Me', A', H', G', T', rfl, hMe⟩
    have hMe2 : Me' = fl8 (upp ms je (va_cpy (mea K I (ms je) 3 (nI ja) (nI jx) (va_cpy B (w j) 0 0 32)) (ms je) 0 0 8)) := by
      rw [hMe]
      refine fl8_cpy ms je (fun i hi => ?_)
      have e2 : (uF (uF (uF (uF F 0 j 3) 1 j (nI je)) 2 j (nI ja)) 3 j (nI jx)) 0 j = 3 := by simp [uF, upp, upd]
      have e3 : (uF (uF (uF (uF F 0 j 3) 1 j (nI je)) 2 j (nI ja)) 3 j (nI jx)) 3 j = nI jx := by simp [uF, upp, upd]
      rw [e2, e3]
      refine mea_congr (fun i hi => fl8_at ms je i hi) (fun i hi => ?_) hi
      rw [fl32_at _ j i hi, upp_at]
    subst hMe2
    refine ⟨(mo M P 0 c0 c1 c2 c3 lg pc mk en gv ft (uF (uF (uF (uF F 0 j 3) 1 j (nI je)) 2 j (nI ja)) 3 j (nI jx)) (upp w j (va_cpy B (w j) 0 0 32)) (upp ms je (va_cpy (mea K I (ms je) 3 (nI ja) (nI jx) (va_cpy B (w j) 0 0 32)) (ms je) 0 0 8)) B key mark A' H' G' T' S St r I K), rfl, ?_⟩
    repeat refine EV.s rfl rfl rfl ?_
    refine EV.ri rfl rfl ?_
    exact mfin ⟨rfl, 0, pc, A', H', G', T', S, St, r, rfl⟩ rfl
set_option maxHeartbeats 1000000 in
set_option maxRecDepth 100000 in
theorem r_mfin1 (d M P : Nat) (th c0 c1 c2 c3 : Int32) (lg : Int64) (pc mk en gv ft : Int32) (F w ms : Nat → Nat → Int32) (B key mark A H G T S St r I K : Nat → Int32) (e : Nat) (he : e < 40) (hbs : bs ≤ M) (h : e_H) (hD : (mas M sa).Nodup) (E : e_C ⊕ (Option Value × e_H) → Prop)
    (hK : ∀ (ki : Int32), ev_E tbs bs sa (d) t_X5_finalise E (58, [some (.ref M), some (.int (nI e)), some (.int ki)], [], wd (mas M sa) (mo M P th c0 c1 c2 c3 lg pc mk en gv ft F w ms B key mark (va_cpy (fl8 ms) A (8 * e) 0 8) H G T S St r I K) h)) :
    ∀ (c k : Nat), k + c = 8 → ∀ Z, Z = va_cpy (fl8 ms) A (8 * e) 0 k → ∀ (ki : Int32), ki = nI k → ev_E tbs bs sa (d) t_X5_finalise E (32, [some (.ref M), some (.int (nI e)), some (.int ki)], [.int 8, .int ki], wd (mas M sa) (mo M P th c0 c1 c2 c3 lg pc mk en gv ft F w ms B key mark Z H G T S St r I K) h) := by
  intro c
  induction c with
  | zero =>
    intro k hkc Z hZ ki hki
    have e : k = 8 := by omega
    subst e; subst hZ; subst hki
    refine EV.icm rfl (fun hc => ?_) (fun hc => ?_)
    · exact hK _
    · exact absurd (by decide : (8 : Int32) ≤ nI 8) (of_decide_eq_false hc)
  | succ c ih =>
    intro k hkc Z hZ ki hki
    subst hki; subst hZ
    refine EV.icm rfl (fun hc => ?_) (fun hc => ?_)
    · exact absurd (of_decide_eq_true hc) (nI_ge (b := 8) (by omega) (by decide))
    · have e1 : (8 : Int32) * nI e + nI k = nI (8 * e + k) := by
        have a1 : (8 : Int32) * nI e = nI (8 * e) := pk_mul 8 e
        rw [a1, nI_add]
      repeat (first | refine EV.s rfl rfl rfl ?_ | refine EW.get 0 hD rfl rfl rfl rfl ?_)
      refine EW.iald 8 (8 * e + k) hD rfl rfl rfl (e1) (by omega) (by decide) ?_
      refine EW.iastY 12 (k) (mo M P th c0 c1 c2 c3 lg pc mk en gv ft F w ms B key mark (va_cpy (fl8 ms) A (8 * e) 0 (k + 1)) H G T S St r I K) hD rfl rfl rfl (by omega) (rfl) (by omega) (by decide) (by rw [cpyS, Nat.zero_add]; rfl) ?_
      repeat refine EV.s rfl rfl rfl ?_
      exact ih (k + 1) (by omega) _ (rfl) _ (nI_1 k)
set_option maxHeartbeats 1000000 in
set_option maxRecDepth 100000 in
theorem r_mfin2 (d M P : Nat) (th c0 c1 c2 c3 : Int32) (lg : Int64) (pc mk en gv ft : Int32) (F w ms : Nat → Nat → Int32) (B key mark A H G T S St r I K : Nat → Int32) (e : Nat) (he : e < 40) (hbs : bs ≤ M) (h : e_H) (hD : (mas M sa).Nodup) (E : e_C ⊕ (Option Value × e_H) → Prop)
    (hK : ∀ (ki : Int32), ev_E tbs bs sa (d) t_X5_finalise E (103, [some (.ref M), some (.int (nI e)), some (.int ki)], [], wd (mas M sa) (mo M P th c0 c1 c2 c3 lg pc mk en gv ft F w (upp ms e (va_cpy H (ms e) 0 0 8)) B key mark A H G T S St r I K) h)) :
    ∀ (c k : Nat), k + c = 8 → ∀ Z, Z = upp ms e (va_cpy H (ms e) 0 0 k) → ∀ (ki : Int32), ki = nI k → ev_E tbs bs sa (d) t_X5_finalise E (77, [some (.ref M), some (.int (nI e)), some (.int ki)], [.int 8, .int ki], wd (mas M sa) (mo M P th c0 c1 c2 c3 lg pc mk en gv ft F w Z B key mark A H G T S St r I K) h) := by
  intro c
  induction c with
  | zero =>
    intro k hkc Z hZ ki hki
    have e : k = 8 := by omega
    subst e; subst hZ; subst hki
    refine EV.icm rfl (fun hc => ?_) (fun hc => ?_)
    · exact hK _
    · exact absurd (by decide : (8 : Int32) ≤ nI 8) (of_decide_eq_false hc)
  | succ c ih =>
    intro k hkc Z hZ ki hki
    subst hki; subst hZ
    refine EV.icm rfl (fun hc => ?_) (fun hc => ?_)
    · exact absurd (of_decide_eq_true hc) (nI_ge (b := 8) (by omega) (by decide))
    · have e1 : (8 : Int32) * nI e + nI k = nI (8 * e + k) := by
        have a1 : (8 : Int32) * nI e = nI (8 * e) := pk_mul 8 e
        rw [a1, nI_add]
      repeat (first | refine EV.s rfl rfl rfl ?_ | refine EW.get 0 hD rfl rfl rfl rfl ?_)
      refine EW.iald 13 (k) hD rfl rfl rfl (rfl) (by omega) (by decide) ?_
      refine EW.iastY 8 (8 * e + k) (mo M P th c0 c1 c2 c3 lg pc mk en gv ft F w (upp ms e (va_cpy H (ms e) 0 0 (k + 1))) B key mark A H G T S St r I K) hD rfl rfl rfl (by omega) (e1) (by omega) (by decide) (by rw [fl8_up _ e k (by omega), upp_cpy]; rfl) ?_
      repeat refine EV.s rfl rfl rfl ?_
      exact ih (k + 1) (by omega) _ (rfl) _ (nI_1 k)
set_option maxHeartbeats 2000000 in
set_option maxRecDepth 100000 in
theorem m_finalise (d M P : Nat) (hP : P ≤ 40) (key mark I K : Nat → Int32) (hbs : bs ≤ M) (hD : (mas M sa).Nodup) (s : zS) (hI : Iv P s) (o : List e_O) (ho : mS M P key mark I K s o) (e : Int32) :
    CT bs sa (d + 4) 89 [.ref M, .int e] (mas M sa) o (fun rv o' => rv = some (.int (q_finalise P K I e s).1) ∧ mS M P key mark I K (q_finalise P K I e s).2 o') := by
  obtain ⟨F, w, ms, B, lg, ⟨c0, c1, c2, c3⟩, ⟨en, gv, ft, mk⟩⟩ := s; obtain ⟨th, pc, A, H, G, T, S, St, r, rfl⟩ := ho
  refine CT.mk (T := t_X5_finalise) rfl (Nat.le_of_ble_eq_true rfl) (fun h => ?_)
  repeat refine EV.s rfl rfl rfl ?_
  refine EW.putY 0 (mo M P 0 c0 c1 c2 c3 lg pc mk en gv ft F w ms B key mark A H G T S St r I K) hD rfl rfl rfl hbs (Nat.le_of_ble_eq_true rfl) rfl rfl ?_
  repeat refine EV.s rfl rfl rfl ?_
  refine EW.cvY 0 [0, 1] (mo M P 0 c0 c1 c2 c3 lg pc mk en gv ft F w ms B key mark A H G T S St r I K) hD (fun h0 => r_misOf (d + 2) M P hP _ rfl rfl e 1 (F 0) h0 (nd_sub hD [0, 1] (by decide) rfl)) rfl rfl rfl rfl rfl (Nat.le_of_ble_eq_true rfl) (Nat.le_of_ble_eq_true rfl) rfl rfl rfl rfl rfl ?_
  by_cases he : ty P F e 1
  rotate_left
  · rw [iso_n he]
    refine EV.ifF rfl (by decide) ?_
    repeat refine EV.s rfl rfl rfl ?_
    refine EV.ri rfl rfl ?_
    have hq : q_finalise P K I e (F, w, ms, B, lg, (c0, c1, c2, c3), (en, gv, ft, mk)) = _ := if_neg he
    rw [hq]
    exact mfin ⟨rfl, 0, pc, A, H, G, T, S, St, r, rfl⟩ rfl
  rw [iso_y he]
  refine EV.ifT rfl (by decide) ?_
  obtain ⟨je, hje, rfl, hte⟩ := ty_j hP he
  repeat (first | refine EV.s rfl rfl rfl ?_ | refine EW.get 0 hD rfl rfl rfl rfl ?_)
  refine EW.iald 6 (je) hD rfl rfl rfl (rfl) (by omega) (by decide) ?_
  by_cases h5 : F 5 je = 0
  rotate_left
  · refine EV.ifF rfl (decide_eq_false h5) ?_
    repeat refine EV.s rfl rfl rfl ?_
    refine EV.ri rfl rfl ?_
    have hq : q_finalise P K I (nI je) (F, w, ms, B, lg, (c0, c1, c2, c3), (en, gv, ft, mk)) = _ := (if_pos he).trans (if_neg (by rw [cnI (by omega)]; exact h5))
    rw [hq]
    exact mfin ⟨rfl, 0, pc, A, H, G, T, S, St, r, rfl⟩ rfl
  refine EV.ifT rfl (decide_eq_true h5) ?_
  have hq : q_finalise P K I (nI je) (F, w, ms, B, lg, (c0, c1, c2, c3), (en, gv, ft, mk)) = _ := (if_pos he).trans (if_pos (by rw [cnI (by omega)]; exact h5))
  rw [hq, cnI (by omega)]
  repeat refine EV.s rfl rfl rfl ?_
  refine r_mfin1 (d + 3) M P 0 c0 c1 c2 c3 lg pc mk en gv ft F w ms B key mark A H G T S St r I K je (by omega) hbs h hD _ (fun ki => ?_) 8 0 rfl _ (cpy0 _ _ _ _).symm _ rfl
  repeat (first | refine EV.s rfl rfl rfl ?_ | refine EW.get 0 hD rfl rfl rfl rfl ?_)
  refine EW.iastY 12 (8) (mo M P 0 c0 c1 c2 c3 lg pc mk en gv ft F w ms B key mark (upd (va_cpy (fl8 ms) A (8 * je) 0 8) 8 (-1)) H G T S St r I K) hD rfl rfl rfl (by omega) (rfl) (by decide) (by decide) (rfl) ?_
  repeat refine EV.s rfl rfl rfl ?_
  refine EW.cvF 0 [0, 12, 13, 14, 15, 19, 20] hD (r_digest d M 9 (by decide) _ rfl rfl rfl rfl _ H G T I K (nd_sub hD [0, 12, 13, 14, 15, 19, 20] (by decide) rfl) hbs) rfl rfl rfl rfl rfl (Nat.le_of_ble_eq_true rfl) (Nat.le_of_ble_eq_true rfl) rfl rfl rfl ?_
  rintro rv os2 ⟨rfl, H1, G1, T1, rfl, hH1⟩
  refine ⟨(mo M P 0 c0 c1 c2 c3 lg pc mk en gv ft F w ms B key mark (pmd (upd (va_cpy (fl8 ms) A (8 * je) 0 8) 8 (-1)) 9) H1 G1 T1 S St r I K), rfl, ?_⟩
  repeat refine EV.s rfl rfl rfl ?_
  refine r_mfin2 (d + 3) M P 0 c0 c1 c2 c3 lg pc mk en gv ft F w ms B key mark _ H1 G1 T1 S St r I K je (by omega) hbs h hD _ (fun ki => ?_) 8 0 rfl _ (upp_cpy0 _ _ _).symm _ rfl
  have hms : va_cpy H1 (ms je) 0 0 8 = va_cpy (sha K I (fun j => if j < 8 then ms je j else -1) 9) (ms je) 0 0 8 := by
    refine cpy_ext (fun j hj => ?_)
    rw [hH1 j hj]
    refine sha_congr (fun _ _ => rfl) (fun _ _ => rfl) (fun i hi => ?_) hj
    show (if i = 8 then (-1 : Int32) else _) = _
    by_cases q : i < 8
    · rw [if_neg (by omega), if_pos q]
      show (if 0 ≤ i ∧ i < 0 + 8 then fl8 ms (8 * je + (i - 0)) else A i) = _
      rw [if_pos (by omega), Nat.sub_zero, fl8_at ms je i q]
    · rw [if_pos (by omega), if_neg q]
  rw [hms]
  repeat (first | refine EV.s rfl rfl rfl ?_ | refine EW.get 0 hD rfl rfl rfl rfl ?_)
  refine EW.iastY 6 (je) (mo M P 0 c0 c1 c2 c3 lg pc mk en gv ft (uF F 5 je 1) w (upp ms je (va_cpy (sha K I (fun j => if j < 8 then ms je j else -1) 9) (ms je) 0 0 8)) B key mark (pmd (upd (va_cpy (fl8 ms) A (8 * je) 0 8) 8 (-1)) 9) H1 G1 T1 S St r I K) hD rfl rfl rfl (by omega) (rfl) (by omega) (by decide) (rfl) ?_
  repeat refine EV.s rfl rfl rfl ?_
  refine EV.ri rfl rfl ?_
  exact mfin ⟨rfl, 0, pc, _, H1, G1, T1, S, St, r, rfl⟩ rfl
end MPD
