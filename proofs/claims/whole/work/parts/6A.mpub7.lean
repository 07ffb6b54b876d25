def q_poke (k v : Int32) : zS → Int32 × zS
  | (F, w, ms, B, z) => if inI k 64 then (0, (F, w, ms, upd B (cn k) v, z)) else (1, (F, w, ms, B, z))
def q_buffer (k : Int32) : zS → Int32 × Int32
  | (_, _, _, B, _) => if inI k 64 then (0, B (cn k)) else (1, 0)
/-- with what was thrown -/
def mSt (M P : Nat) (key mark I K : Nat → Int32) (th : Int32) (s : zS) (o : List e_O) : Prop := match s with
  | (F, w, ms, B, lg, (c0, c1, c2, c3), (en, gv, ft, m)) => ∃ pc A H G T S St r, o = (mo M P th c0 c1 c2 c3 lg pc m en gv ft F w ms B key mark A H G T S St r I K)
theorem mSt.S {M P : Nat} {key mark I K : Nat → Int32} {th : Int32} {s : zS} {o : List e_O} (h : mSt M P key mark I K th s o) : mS M P key mark I K s o := by
  obtain ⟨F, w, ms, B, lg, ⟨c0, c1, c2, c3⟩, ⟨en, gv, ft, mk⟩⟩ := s
  exact ⟨th, h⟩
section MPI
variable {bs : Nat} {sa : Nat → Nat}
set_option maxHeartbeats 1000000 in
set_option maxRecDepth 100000 in
theorem m_measure (d M P : Nat) (hP : P ≤ 40) (key mark I K : Nat → Int32) (hbs : bs ≤ M) (hD : (mas M sa).Nodup) (s : zS) (hI : Iv P s) (o : List e_O) (ho : mS M P key mark I K s o) (e x : Int32) :
    CT bs sa (d + 2) 103 [.ref M, .int e, .int x] (mas M sa) o (fun rv o' => rv = some (.int (q_measure P e x s)) ∧ mS M P key mark I K s o') := by
  obtain ⟨F, w, ms, B, lg, ⟨c0, c1, c2, c3⟩, ⟨en, gv, ft, mk⟩⟩ := s; obtain ⟨th, pc, A, H, G, T, S, St, r, rfl⟩ := ho
  refine CT.mk (T := t_X5_measure) rfl (Nat.le_of_ble_eq_true rfl) (fun h => ?_)
  repeat refine EV.s rfl rfl rfl ?_
  refine EW.putY 0 (mo M P 0 c0 c1 c2 c3 lg pc mk en gv ft F w ms B key mark A H G T S St r I K) hD rfl rfl rfl hbs (Nat.le_of_ble_eq_true rfl) rfl rfl ?_
  repeat refine EV.s rfl rfl rfl ?_
  have fin : ∀ y, y = q_measure P e x (F, w, ms, B, lg, (c0, c1, c2, c3), (en, gv, ft, mk)) → (∃ v h', (Sum.inr (some (.int y), wd (mas M sa) (mo M P 0 c0 c1 c2 c3 lg pc mk en gv ft F w ms B key mark A H G T S St r I K) h) : e_C ⊕ (Option Value × e_H)) = .inr (v, h') ∧ ∃ os2, ((v = some (.int (q_measure P e x (F, w, ms, B, lg, (c0, c1, c2, c3), (en, gv, ft, mk)))) ∧ mS M P key mark I K (F, w, ms, B, lg, (c0, c1, c2, c3), (en, gv, ft, mk)) os2) ∧ os2.length = (mas M sa).length) ∧ h' = wd (mas M sa) os2 h) := by
    intro y hy
    exact mfin ⟨by rw [hy], 0, pc, A, H, G, T, S, St, r, rfl⟩ rfl
  refine EW.cvY 0 [0, 1] (mo M P 0 c0 c1 c2 c3 lg pc mk en gv ft F w ms B key mark A H G T S St r I K) hD (fun h0 => r_misOf d M P hP _ rfl rfl e 1 (F 0) h0 (nd_sub hD [0, 1] (by decide) rfl)) rfl rfl rfl rfl rfl (Nat.le_of_ble_eq_true rfl) (Nat.le_of_ble_eq_true rfl) rfl rfl rfl rfl rfl ?_
  by_cases he : ty P F e 1
  rotate_left
  · rw [iso_n he]
    refine EV.ifT rfl (by decide) ?_
    repeat refine EV.s rfl rfl rfl ?_
    refine EV.ri rfl rfl ?_
    exact fin _ (if_neg (fun z => he z.1)).symm
  rw [iso_y he]
  refine EV.ifF rfl (by decide) ?_
  repeat refine EV.s rfl rfl rfl ?_
  by_cases hx : inI x 8
  rotate_left
  · refine EV.ifc rfl (fun hb => ?_) (fun hb => ?_)
    · repeat refine EV.s rfl rfl rfl ?_
      refine EV.ri rfl rfl ?_
      exact fin _ (if_neg (fun z => hx z.2)).symm
    · repeat refine EV.s rfl rfl rfl ?_
      refine EV.icF rfl (decide_eq_false (le1023 (n := 7) (by decide) hx (of_decide_eq_false hb))) ?_
      repeat refine EV.s rfl rfl rfl ?_
      refine EV.ri rfl rfl ?_
      exact fin _ (if_neg (fun z => hx z.2)).symm
  have hq : q_measure P e x (F, w, ms, B, lg, (c0, c1, c2, c3), (en, gv, ft, mk)) = _ := if_pos ⟨he, hx⟩
  obtain ⟨j, hj, rfl, ht⟩ := ty_j hP he
  obtain ⟨k, hk, rfl⟩ := in_nI (by decide) hx
  have e1 : (8 : Int32) * nI j + nI k = nI (8 * j + k) := by
    have a1 : (8 : Int32) * nI j = nI (8 * j) := pk_mul 8 j
    rw [a1, nI_add]
  refine EV.ifF rfl (decide_eq_false (nI_pos (by omega))) ?_
  repeat refine EV.s rfl rfl rfl ?_
  refine EV.icT rfl (decide_eq_true (nI_le (b := 7) (by omega) (by decide))) ?_
  repeat (first | refine EV.s rfl rfl rfl ?_ | refine EW.get 0 hD rfl rfl rfl rfl ?_)
  refine EW.iald 8 (8 * j + k) hD rfl rfl rfl (e1) (by omega) (by decide) ?_
  rw [fl8_at ms j k hk]
  refine EV.ri rfl rfl ?_
  refine fin _ ?_
  rw [hq, cnI (by omega), cnI (by omega)]
set_option maxHeartbeats 1000000 in
set_option maxRecDepth 100000 in
theorem m_slot (d M P : Nat) (hP : P ≤ 40) (key mark I K : Nat → Int32) (hbs : bs ≤ M) (hD : (mas M sa).Nodup) (s : zS) (hI : Iv P s) (o : List e_O) (ho : mS M P key mark I K s o) (e x : Int32) :
    CT bs sa (d + 2) 104 [.ref M, .int e, .int x] (mas M sa) o (fun rv o' => rv = some (.long (q_slot P e x s)) ∧ mS M P key mark I K s o') := by
  obtain ⟨F, w, ms, B, lg, ⟨c0, c1, c2, c3⟩, ⟨en, gv, ft, mk⟩⟩ := s; obtain ⟨th, pc, A, H, G, T, S, St, r, rfl⟩ := ho
  refine CT.mk (T := t_X5_slot) rfl (Nat.le_of_ble_eq_true rfl) (fun h => ?_)
  repeat refine EV.s rfl rfl rfl ?_
  refine EW.putY 0 (mo M P 0 c0 c1 c2 c3 lg pc mk en gv ft F w ms B key mark A H G T S St r I K) hD rfl rfl rfl hbs (Nat.le_of_ble_eq_true rfl) rfl rfl ?_
  repeat refine EV.s rfl rfl rfl ?_
  have fin : ∀ y, y = q_slot P e x (F, w, ms, B, lg, (c0, c1, c2, c3), (en, gv, ft, mk)) → (∃ v h', (Sum.inr (some (.long y), wd (mas M sa) (mo M P 0 c0 c1 c2 c3 lg pc mk en gv ft F w ms B key mark A H G T S St r I K) h) : e_C ⊕ (Option Value × e_H)) = .inr (v, h') ∧ ∃ os2, ((v = some (.long (q_slot P e x (F, w, ms, B, lg, (c0, c1, c2, c3), (en, gv, ft, mk)))) ∧ mS M P key mark I K (F, w, ms, B, lg, (c0, c1, c2, c3), (en, gv, ft, mk)) os2) ∧ os2.length = (mas M sa).length) ∧ h' = wd (mas M sa) os2 h) := by
    intro y hy
    exact mfin ⟨by rw [hy], 0, pc, A, H, G, T, S, St, r, rfl⟩ rfl
  refine EW.cvY 0 [0, 1] (mo M P 0 c0 c1 c2 c3 lg pc mk en gv ft F w ms B key mark A H G T S St r I K) hD (fun h0 => r_misOf d M P hP _ rfl rfl e 4 (F 0) h0 (nd_sub hD [0, 1] (by decide) rfl)) rfl rfl rfl rfl rfl (Nat.le_of_ble_eq_true rfl) (Nat.le_of_ble_eq_true rfl) rfl rfl rfl rfl rfl ?_
  by_cases he : ty P F e 4
  rotate_left
  · rw [iso_n he]
    refine EV.ifT rfl (by decide) ?_
    repeat refine EV.s rfl rfl rfl ?_
    refine EV.rl rfl rfl ?_
    exact fin _ (if_neg (fun z => he z.1)).symm
  rw [iso_y he]
  refine EV.ifF rfl (by decide) ?_
  repeat refine EV.s rfl rfl rfl ?_
  by_cases hx : inI x 16
  rotate_left
  · refine EV.ifc rfl (fun hb => ?_) (fun hb => ?_)
    · repeat refine EV.s rfl rfl rfl ?_
      refine EV.rl rfl rfl ?_
      exact fin _ (if_neg (fun z => hx z.2)).symm
    · repeat refine EV.s rfl rfl rfl ?_
      refine EV.icF rfl (decide_eq_false (le1023 (n := 15) (by decide) hx (of_decide_eq_false hb))) ?_
      repeat refine EV.s rfl rfl rfl ?_
      refine EV.rl rfl rfl ?_
      exact fin _ (if_neg (fun z => hx z.2)).symm
  have hq : q_slot P e x (F, w, ms, B, lg, (c0, c1, c2, c3), (en, gv, ft, mk)) = _ := if_pos ⟨he, hx⟩
  obtain ⟨j, hj, rfl, ht⟩ := ty_j hP he
  obtain ⟨k, hk, rfl⟩ := in_nI (by decide) hx
  refine EV.ifF rfl (decide_eq_false (nI_pos (by omega))) ?_
  repeat refine EV.s rfl rfl rfl ?_
  refine EV.icT rfl (decide_eq_true (nI_le (b := 15) (by omega) (by decide))) ?_
  repeat refine EV.s rfl rfl rfl ?_
  refine EW.cvY 0 [0, 7] (mo M P 0 c0 c1 c2 c3 lg pc mk en gv ft F w ms B key mark A H G T S St r I K) hD (fun h0 => r_inSlot d M j k _ rfl (by omega) (by omega) (fl32 w) h0 (nd_sub hD [0, 7] (by decide) rfl)) rfl rfl rfl rfl rfl (Nat.le_of_ble_eq_true rfl) (Nat.le_of_ble_eq_true rfl) rfl rfl rfl rfl rfl ?_
  rw [Nat.add_assoc, fl32_at w j (2 * k) (by omega), fl32_at w j (2 * k + 1) (by omega)]
  refine EV.rl rfl rfl ?_
  refine fin _ ?_
  rw [hq, cnI (by omega), cnI (by omega)]
theorem r_mcount_loop (d M P : Nat) (hP : P ≤ 40) (th c0 c1 c2 c3 : Int32) (lg : Int64) (pc mk en gv ft : Int32) (F w ms : Nat → Nat → Int32) (B key mark A H G T S St r I K : Nat → Int32) (x : Int32) (h : e_H) (hD : (mas M sa).Nodup) (E : e_C ⊕ (Option Value × e_H) → Prop)
    (hK : E (.inr (some (.int (cnt (F 0) (x - 1) P)), wd (mas M sa) (mo M P th c0 c1 c2 c3 lg pc mk en gv ft F w ms B key mark A H G T S St r I K) h))) :
    ∀ (c k : Nat), k + c = P → ∀ n, n = cnt (F 0) (x - 1) k → ∀ ki, ki = nI k → ev_E tbs bs sa d t_X5_count E (33, [some (.ref M), some (.int x), some (.int n), some (.int ki)], [.int (nI P), .int ki], wd (mas M sa) (mo M P th c0 c1 c2 c3 lg pc mk en gv ft F w ms B key mark A H G T S St r I K) h) := by
  intro c
  induction c with
  | zero =>
    intro k hk n hn ki hki
    have e : k = P := by omega
    subst e; subst hn; subst hki
    refine EV.icT rfl (decide_eq_true (nI_le (Nat.le_refl _) (by omega))) ?_
    repeat refine EV.s rfl rfl rfl ?_
    refine EV.ri rfl rfl ?_
    exact hK
  | succ c ih =>
    intro k hk n hn ki hki
    subst hki; subst hn
    refine EV.icF rfl (decide_eq_false (nI_ge (by omega) (by omega))) ?_
    repeat (first | refine EV.s rfl rfl rfl ?_ | refine EW.get 0 hD rfl rfl rfl rfl ?_)
    refine EW.iald 1 (k) hD rfl rfl rfl (rfl) (by omega) (by decide) ?_
    repeat refine EV.s rfl rfl rfl ?_
    by_cases ht : F 0 k = x - 1
    · refine EV.icF rfl (decide_eq_false (fun z => z ht)) ?_
      repeat (first | refine EV.s rfl rfl rfl ?_ | refine EW.get 0 hD rfl rfl rfl rfl ?_)
      exact ih (k + 1) (by omega) _ (by simp only [cnt]; rw [if_pos ht]) _ (nI_1 k)
    · refine EV.icT rfl (decide_eq_true ht) ?_
      repeat (first | refine EV.s rfl rfl rfl ?_ | refine EW.get 0 hD rfl rfl rfl rfl ?_)
      exact ih (k + 1) (by omega) _ (by simp only [cnt]; rw [if_neg ht]) _ (nI_1 k)
set_option maxHeartbeats 2000000 in
set_option maxRecDepth 100000 in
theorem m_count (d M P : Nat) (hP : P ≤ 40) (key mark I K : Nat → Int32) (hbs : bs ≤ M) (hD : (mas M sa).Nodup) (s : zS) (hI : Iv P s) (o : List e_O) (ho : mS M P key mark I K s o) (x : Int32) :
    CT bs sa (d + 1) 105 [.ref M, .int x] (mas M sa) o (fun rv o' => rv = some (.int (q_count P x s)) ∧ mS M P key mark I K s o') := by
  obtain ⟨F, w, ms, B, lg, ⟨c0, c1, c2, c3⟩, ⟨en, gv, ft, mk⟩⟩ := s; obtain ⟨th, pc, A, H, G, T, S, St, r, rfl⟩ := ho
  refine CT.mk (T := t_X5_count) rfl (Nat.le_of_ble_eq_true rfl) (fun h => ?_)
  repeat refine EV.s rfl rfl rfl ?_
  refine EW.putY 0 (mo M P 0 c0 c1 c2 c3 lg pc mk en gv ft F w ms B key mark A H G T S St r I K) hD rfl rfl rfl hbs (Nat.le_of_ble_eq_true rfl) rfl rfl ?_
  repeat refine EV.s rfl rfl rfl ?_
  have fin : ∀ y, y = q_count P x (F, w, ms, B, lg, (c0, c1, c2, c3), (en, gv, ft, mk)) → (∃ v h', (Sum.inr (some (.int y), wd (mas M sa) (mo M P 0 c0 c1 c2 c3 lg pc mk en gv ft F w ms B key mark A H G T S St r I K) h) : e_C ⊕ (Option Value × e_H)) = .inr (v, h') ∧ ∃ os2, ((v = some (.int (q_count P x (F, w, ms, B, lg, (c0, c1, c2, c3), (en, gv, ft, mk)))) ∧ mS M P key mark I K (F, w, ms, B, lg, (c0, c1, c2, c3), (en, gv, ft, mk)) os2) ∧ os2.length = (mas M sa).length) ∧ h' = wd (mas M sa) os2 h) := by
    intro y hy
    exact mfin ⟨by rw [hy], 0, pc, A, H, G, T, S, St, r, rfl⟩ rfl
  by_cases x0 : x = 0
  · refine EV.ifF rfl (decide_eq_false (fun z => z x0)) ?_
    repeat (first | refine EV.s rfl rfl rfl ?_ | refine EW.get 0 hD rfl rfl rfl rfl ?_)
    refine EV.ri rfl rfl ?_
    exact fin _ (if_pos x0).symm
  refine EV.ifT rfl (decide_eq_true x0) ?_
  repeat refine EV.s rfl rfl rfl ?_
  have hq : q_count P x (F, w, ms, B, lg, (c0, c1, c2, c3), (en, gv, ft, mk)) = _ := if_neg x0
  rw [hq] at fin ⊢
  by_cases x15 : 1 ≤ x ∧ x ≤ 5
  · have a1 : ¬ x ≤ 0 := by
      intro z
      have := Int32.le_trans x15.1 z
      exact absurd this (by decide)
    have a2 : ¬ (6 : Int32) ≤ x := by
      intro z
      have := Int32.le_trans z x15.2
      exact absurd this (by decide)
    refine EV.ifF rfl (decide_eq_false a1) ?_
    repeat refine EV.s rfl rfl rfl ?_
    refine EV.icF rfl (decide_eq_false a2) ?_
    repeat (first | refine EV.s rfl rfl rfl ?_ | refine EW.get 0 hD rfl rfl rfl rfl ?_)
    refine r_mcount_loop d M P hP 0 c0 c1 c2 c3 lg pc mk en gv ft F w ms B key mark A H G T S St r I K x h hD _ ?_ P 0 (by omega) _ rfl _ rfl
    exact fin _ (if_pos x15).symm
  have go : ∀ l2 l3, ev_E tbs bs sa d t_X5_count (fun y => ∃ v h', y = .inr (v, h') ∧ ∃ os2, ((v = some (.int (if 1 ≤ x ∧ x ≤ 5 then cnt (F 0) (x - 1) P else if x = 6 then lg.toInt32 else if x = 7 then c3 else if x = 8 then c1 else if x = 9 then c2 else if x = 10 then c0 else -1)) ∧ mS M P key mark I K (F, w, ms, B, lg, (c0, c1, c2, c3), (en, gv, ft, mk)) os2) ∧ os2.length = (mas M sa).length) ∧ h' = wd (mas M sa) os2 h) (64, [some (.ref M), some (.int x), l2, l3], [], wd (mas M sa) (mo M P 0 c0 c1 c2 c3 lg pc mk en gv ft F w ms B key mark A H G T S St r I K) h) := by
    intro l2 l3
    rw [if_neg x15] at fin ⊢
    repeat refine EV.s rfl rfl rfl ?_
    by_cases x6 : x = 6
    · refine EV.icF rfl (decide_eq_false (fun z => z x6)) ?_
      repeat (first | refine EV.s rfl rfl rfl ?_ | refine EW.get 0 hD rfl rfl rfl rfl ?_)
      refine EV.ri rfl rfl ?_
      exact fin _ (if_pos x6).symm
    refine EV.icT rfl (decide_eq_true x6) ?_
    rw [if_neg x6] at fin ⊢
    repeat refine EV.s rfl rfl rfl ?_
    by_cases x7 : x = 7
    · refine EV.icF rfl (decide_eq_false (fun z => z x7)) ?_
      repeat (first | refine EV.s rfl rfl rfl ?_ | refine EW.get 0 hD rfl rfl rfl rfl ?_)
      refine EV.ri rfl rfl ?_
      exact fin _ (if_pos x7).symm
    refine EV.icT rfl (decide_eq_true x7) ?_
    rw [if_neg x7] at fin ⊢
    repeat refine EV.s rfl rfl rfl ?_
    by_cases x8 : x = 8
    · refine EV.icF rfl (decide_eq_false (fun z => z x8)) ?_
      repeat (first | refine EV.s rfl rfl rfl ?_ | refine EW.get 0 hD rfl rfl rfl rfl ?_)
      refine EV.ri rfl rfl ?_
      exact fin _ (if_pos x8).symm
    refine EV.icT rfl (decide_eq_true x8) ?_
    rw [if_neg x8] at fin ⊢
    repeat refine EV.s rfl rfl rfl ?_
    by_cases x9 : x = 9
    · refine EV.icF rfl (decide_eq_false (fun z => z x9)) ?_
      repeat (first | refine EV.s rfl rfl rfl ?_ | refine EW.get 0 hD rfl rfl rfl rfl ?_)
      refine EV.ri rfl rfl ?_
      exact fin _ (if_pos x9).symm
    refine EV.icT rfl (decide_eq_true x9) ?_
    rw [if_neg x9] at fin ⊢
    repeat refine EV.s rfl rfl rfl ?_
    by_cases x10 : x = 10
    · refine EV.icF rfl (decide_eq_false (fun z => z x10)) ?_
      repeat (first | refine EV.s rfl rfl rfl ?_ | refine EW.get 0 hD rfl rfl rfl rfl ?_)
      refine EV.ri rfl rfl ?_
      exact fin _ (if_pos x10).symm
    refine EV.icT rfl (decide_eq_true x10) ?_
    rw [if_neg x10] at fin ⊢
    repeat refine EV.s rfl rfl rfl ?_
    refine EV.ri rfl rfl ?_
    exact fin _ rfl
  refine EV.ifc rfl (fun hb => ?_) (fun hb => ?_)
  · exact go _ _
  · have hb : ¬ x ≤ 0 := of_decide_eq_false hb
    repeat refine EV.s rfl rfl rfl ?_
    refine EV.icm rfl (fun hc => ?_) (fun hc => ?_)
    · exact go _ _
    · have hc : ¬ (6 : Int32) ≤ x := of_decide_eq_false hc
      exfalso
      apply x15
      have h0 : ¬ x < 0 := fun z => hb (Int32.le_of_lt z)
      obtain ⟨j, hj, rfl⟩ := in_nI (n := 6) (by decide) ⟨Int32.not_lt.mp h0, Int32.not_le.mp hc⟩
      have hj0 : j ≠ 0 := fun z => x0 (by rw [z]; rfl)
      exact ⟨nI_le (a := 1) (by omega) (by omega), nI_le (b := 5) (by omega) (by decide)⟩
theorem m_thrown (d M P : Nat) (key mark I K : Nat → Int32) (hD : (mas M sa).Nodup) (th : Int32) (s : zS) (o : List e_O) (ho : mSt M P key mark I K th s o) :
    CT bs sa (d + 1) 70 [.ref M] (mas M sa) o (fun rv o' => rv = some (.int th) ∧ mS M P key mark I K s o') := by
  obtain ⟨F, w, ms, B, lg, ⟨c0, c1, c2, c3⟩, ⟨en, gv, ft, mk⟩⟩ := s
  obtain ⟨pc, A, H, G, T, S, St, r, rfl⟩ := ho
  refine CT.mk (T := t_X5_thrown) rfl (Nat.le_of_ble_eq_true rfl) (fun h => ?_)
  repeat (first | refine EV.s rfl rfl rfl ?_ | refine EW.get 0 hD rfl rfl rfl rfl ?_)
  refine EV.ri rfl rfl ?_
  exact mfin ⟨rfl, th, pc, A, H, G, T, S, St, r, rfl⟩ rfl
set_option maxHeartbeats 1000000 in
set_option maxRecDepth 100000 in
theorem m_poke (d M P : Nat) (hP : P ≤ 40) (key mark I K : Nat → Int32) (hbs : bs ≤ M) (hD : (mas M sa).Nodup) (s : zS) (hI : Iv P s) (o : List e_O) (ho : mS M P key mark I K s o) (x v : Int32) :
    CT bs sa (d + 1) 81 [.ref M, .int x, .int v] (mas M sa) o (fun rv o' => rv = none ∧ mSt M P key mark I K (q_poke x v s).1 (q_poke x v s).2 o') := by
  obtain ⟨F, w, ms, B, lg, ⟨c0, c1, c2, c3⟩, ⟨en, gv, ft, mk⟩⟩ := s; obtain ⟨th, pc, A, H, G, T, S, St, r, rfl⟩ := ho
  refine CT.mk (T := t_X5_poke) rfl (Nat.le_of_ble_eq_true rfl) (fun h => ?_)
  repeat refine EV.s rfl rfl rfl ?_
  by_cases hx : inI x 64
  rotate_left
  · have hq : q_poke x v (F, w, ms, B, lg, (c0, c1, c2, c3), (en, gv, ft, mk)) = _ := if_neg hx
    rw [hq]
    refine EV.ifc rfl (fun hb => ?_) (fun hb => ?_)
    · repeat refine EV.s rfl rfl rfl ?_
      refine EW.putY 0 (mo M P 1 c0 c1 c2 c3 lg pc mk en gv ft F w ms B key mark A H G T S St r I K) hD rfl rfl rfl hbs (Nat.le_of_ble_eq_true rfl) rfl rfl ?_
      repeat (first | refine EV.s rfl rfl rfl ?_ | refine EW.get 0 hD rfl rfl rfl rfl ?_)
      refine EV.ifT rfl (by decide) ?_
      refine EV.ret rfl ?_
      exact mfin ⟨rfl, pc, A, H, G, T, S, St, r, rfl⟩ rfl
    · repeat refine EV.s rfl rfl rfl ?_
      refine EV.icF rfl (decide_eq_false (le1023 (n := 63) (by decide) hx (of_decide_eq_false hb))) ?_
      repeat refine EV.s rfl rfl rfl ?_
      refine EW.putY 0 (mo M P 1 c0 c1 c2 c3 lg pc mk en gv ft F w ms B key mark A H G T S St r I K) hD rfl rfl rfl hbs (Nat.le_of_ble_eq_true rfl) rfl rfl ?_
      repeat (first | refine EV.s rfl rfl rfl ?_ | refine EW.get 0 hD rfl rfl rfl rfl ?_)
      refine EV.ifT rfl (by decide) ?_
      refine EV.ret rfl ?_
      exact mfin ⟨rfl, pc, A, H, G, T, S, St, r, rfl⟩ rfl
  have hq : q_poke x v (F, w, ms, B, lg, (c0, c1, c2, c3), (en, gv, ft, mk)) = _ := if_pos hx
  rw [hq]
  obtain ⟨k, hk, rfl⟩ := in_nI (by decide) hx
  rw [cnI (by omega)]
  refine EV.ifF rfl (decide_eq_false (nI_pos (by omega))) ?_
  repeat refine EV.s rfl rfl rfl ?_
  refine EV.icT rfl (decide_eq_true (nI_le (b := 63) (by omega) (by decide))) ?_
  repeat refine EV.s rfl rfl rfl ?_
  refine EW.putY 0 (mo M P 0 c0 c1 c2 c3 lg pc mk en gv ft F w ms B key mark A H G T S St r I K) hD rfl rfl rfl hbs (Nat.le_of_ble_eq_true rfl) rfl rfl ?_
  repeat (first | refine EV.s rfl rfl rfl ?_ | refine EW.get 0 hD rfl rfl rfl rfl ?_)
  refine EV.ifF rfl (by decide) ?_
  repeat (first | refine EV.s rfl rfl rfl ?_ | refine EW.get 0 hD rfl rfl rfl rfl ?_)
  refine EW.iastY 9 (k) (mo M P 0 c0 c1 c2 c3 lg pc mk en gv ft F w ms (upd B k v) key mark A H G T S St r I K) hD rfl rfl rfl (by omega) (rfl) (by omega) (by decide) (rfl) ?_
  refine EV.ret rfl ?_
  exact mfin ⟨rfl, pc, A, H, G, T, S, St, r, rfl⟩ rfl
set_option maxHeartbeats 1000000 in
set_option maxRecDepth 100000 in
theorem m_buffer (d M P : Nat) (hP : P ≤ 40) (key mark I K : Nat → Int32) (hbs : bs ≤ M) (hD : (mas M sa).Nodup) (s : zS) (hI : Iv P s) (o : List e_O) (ho : mS M P key mark I K s o) (x : Int32) :
    CT bs sa (d + 1) 82 [.ref M, .int x] (mas M sa) o (fun rv o' => rv = some (.int (q_buffer x s).2) ∧ mSt M P key mark I K (q_buffer x s).1 s o') := by
  obtain ⟨F, w, ms, B, lg, ⟨c0, c1, c2, c3⟩, ⟨en, gv, ft, mk⟩⟩ := s; obtain ⟨th, pc, A, H, G, T, S, St, r, rfl⟩ := ho
  refine CT.mk (T := t_X5_buffer) rfl (Nat.le_of_ble_eq_true rfl) (fun h => ?_)
  repeat refine EV.s rfl rfl rfl ?_
  by_cases hx : inI x 64
  rotate_left
  · have hq : q_buffer x (F, w, ms, B, lg, (c0, c1, c2, c3), (en, gv, ft, mk)) = _ := if_neg hx
    rw [hq]
    refine EV.ifc rfl (fun hb => ?_) (fun hb => ?_)
    · repeat refine EV.s rfl rfl rfl ?_
      refine EW.putY 0 (mo M P 1 c0 c1 c2 c3 lg pc mk en gv ft F w ms B key mark A H G T S St r I K) hD rfl rfl rfl hbs (Nat.le_of_ble_eq_true rfl) rfl rfl ?_
      repeat (first | refine EV.s rfl rfl rfl ?_ | refine EW.get 0 hD rfl rfl rfl rfl ?_)
      refine EV.ifF rfl (by decide) ?_
      repeat refine EV.s rfl rfl rfl ?_
      refine EV.ri rfl rfl ?_
      exact mfin ⟨rfl, pc, A, H, G, T, S, St, r, rfl⟩ rfl
    · repeat refine EV.s rfl rfl rfl ?_
      refine EV.icF rfl (decide_eq_false (le1023 (n := 63) (by decide) hx (of_decide_eq_false hb))) ?_
      repeat refine EV.s rfl rfl rfl ?_
      refine EW.putY 0 (mo M P 1 c0 c1 c2 c3 lg pc mk en gv ft F w ms B key mark A H G T S St r I K) hD rfl rfl rfl hbs (Nat.le_of_ble_eq_true rfl) rfl rfl ?_
      repeat (first | refine EV.s rfl rfl rfl ?_ | refine EW.get 0 hD rfl rfl rfl rfl ?_)
      refine EV.ifF rfl (by decide) ?_
      repeat refine EV.s rfl rfl rfl ?_
      refine EV.ri rfl rfl ?_
      exact mfin ⟨rfl, pc, A, H, G, T, S, St, r, rfl⟩ rfl
  have hq : q_buffer x (F, w, ms, B, lg, (c0, c1, c2, c3), (en, gv, ft, mk)) = _ := if_pos hx
  rw [hq]
  obtain ⟨k, hk, rfl⟩ := in_nI (by decide) hx
  rw [cnI (by omega)]
  refine EV.ifF rfl (decide_eq_false (nI_pos (by omega))) ?_
  repeat refine EV.s rfl rfl rfl ?_
  refine EV.icT rfl (decide_eq_true (nI_le (b := 63) (by omega) (by decide))) ?_
  repeat refine EV.s rfl rfl rfl ?_
  refine EW.putY 0 (mo M P 0 c0 c1 c2 c3 lg pc mk en gv ft F w ms B key mark A H G T S St r I K) hD rfl rfl rfl hbs (Nat.le_of_ble_eq_true rfl) rfl rfl ?_
  repeat (first | refine EV.s rfl rfl rfl ?_ | refine EW.get 0 hD rfl rfl rfl rfl ?_)
  refine EV.ifT rfl (by decide) ?_
  repeat (first | refine EV.s rfl rfl rfl ?_ | refine EW.get 0 hD rfl rfl rfl rfl ?_)
  refine EW.iald 9 (k) hD rfl rfl rfl (rfl) (by omega) (by decide) ?_
  refine EV.ri rfl rfl ?_
  exact mfin ⟨rfl, pc, A, H, G, T, S, St, r, rfl⟩ rfl
end MPI
