abbrev eqk (B H : Nat → Int32) (k : Nat) : Prop := ∀ j, j < k → B (40 + j) = H j
section MPK
variable {bs : Nat} {sa : Nat → Nat}
theorem r_mrl_loop (d M P : Nat) (th c0 c1 c2 c3 : Int32) (lg : Int64) (pc mk en gv ft : Int32) (F w ms : Nat → Nat → Int32) (B key mark A H G T S St r I K : Nat → Int32) (l1 l2 l3 l4 : Int32) (h : e_H) (hD : (mas M sa).Nodup) (E : e_C ⊕ (Option Value × e_H) → Prop)
    (hK : ∀ ki, ev_E tbs bs sa d t_X5_reload E (115, [some (.ref M), some (.int l1), some (.int l2), some (.int l3), some (.int l4), some (.int (if eqk B H 8 then 1 else 0)), some (.int ki), none], [], wd (mas M sa) (mo M P th c0 c1 c2 c3 lg pc mk en gv ft F w ms B key mark A H G T S St r I K) h)) :
    ∀ (c k : Nat), k + c = 8 → ∀ n, n = (if eqk B H k then (1 : Int32) else 0) → ∀ ki, ki = nI k → ev_E tbs bs sa d t_X5_reload E (74, [some (.ref M), some (.int l1), some (.int l2), some (.int l3), some (.int l4), some (.int n), some (.int ki), none], [.int 8, .int ki], wd (mas M sa) (mo M P th c0 c1 c2 c3 lg pc mk en gv ft F w ms B key mark A H G T S St r I K) h) := by
  intro c
  induction c with
  | zero =>
    intro k hk n hn ki hki
    have e : k = 8 := by omega
    subst e; subst hn; subst hki
    refine EV.icT rfl (decide_eq_true (nI_le (a := 8) (b := 8) (Nat.le_refl _) (by omega))) ?_
    exact hK _
  | succ c ih =>
    intro k hk n hn ki hki
    subst hki
    refine EV.icF rfl (decide_eq_false (nI_ge (b := 8) (by omega) (by omega))) ?_
    repeat refine EV.s rfl rfl rfl ?_
    by_cases ha : eqk B H k
    · rw [if_pos ha] at hn
      subst hn
      refine EV.ifF rfl (by decide) ?_
      repeat (first | refine EV.s rfl rfl rfl ?_ | refine EW.get 0 hD rfl rfl rfl rfl ?_)
      refine EW.iald 9 (40 + k) hD rfl rfl rfl (nI_add 40 k) (by omega) (by decide) ?_
      repeat (first | refine EV.s rfl rfl rfl ?_ | refine EW.get 0 hD rfl rfl rfl rfl ?_)
      refine EW.iald 13 (k) hD rfl rfl rfl (rfl) (by omega) (by decide) ?_
      by_cases hb : B (40 + k) = H k
      · refine EV.icF rfl (decide_eq_false (fun z => z hb)) ?_
        repeat refine EV.s rfl rfl rfl ?_
        refine ih (k + 1) (by omega) _ ?_ _ (nI_1 k)
        rw [if_pos]
        intro i hi
        by_cases q : i = k
        · rw [q]; exact hb
        · exact ha i (by omega)
      · refine EV.icT rfl (decide_eq_true hb) ?_
        repeat refine EV.s rfl rfl rfl ?_
        refine ih (k + 1) (by omega) _ ?_ _ (nI_1 k)
        rw [if_neg]
        exact fun z => hb (z k (by omega))
    · rw [if_neg ha] at hn
      subst hn
      refine EV.ifT rfl (by decide) ?_
      repeat refine EV.s rfl rfl rfl ?_
      refine ih (k + 1) (by omega) _ ?_ _ (nI_1 k)
      rw [if_neg]
      exact fun z => ha (fun i hi => z i (by omega))
set_option maxHeartbeats 4000000 in
set_option maxRecDepth 100000 in
theorem m_reload (d M P : Nat) (hP : P ≤ 40) (key mark I K : Nat → Int32) (hbs : bs ≤ M) (hD : (mas M sa).Nodup) (s : zS) (hI : Iv P s) (o : List e_O) (ho : mS M P key mark I K s o) (p e v sl : Int32) :
    CT bs sa (d + 5) 101 [.ref M, .int p, .int e, .int v, .int sl] (mas M sa) o (fun rv o' => rv = some (.int (q_reload P K I key mark p e v sl s).1) ∧ mS M P key mark I K (q_reload P K I key mark p e v sl s).2 o') := by
  obtain ⟨F, w, ms, B, lg, ⟨c0, c1, c2, c3⟩, ⟨en, gv, ft, mk⟩⟩ := s; obtain ⟨th, pc, A, H, G, T, S, St, r, rfl⟩ := ho
  refine CT.mk (T := t_X5_reload) rfl (Nat.le_of_ble_eq_true rfl) (fun h => ?_)
  repeat refine EV.s rfl rfl rfl ?_
  refine EW.putY 0 (mo M P 0 c0 c1 c2 c3 lg pc mk en gv ft F w ms B key mark A H G T S St r I K) hD rfl rfl rfl hbs (Nat.le_of_ble_eq_true rfl) rfl rfl ?_
  repeat refine EV.s rfl rfl rfl ?_
  have no1 : ¬ (ty P F p 0 ∧ ty P F e 1 ∧ ty P F v 4) → ev_E tbs bs sa (d + 4) t_X5_reload (fun y => ∃ vv h', y = .inr (vv, h') ∧ ∃ os2, ((vv = some (.int (q_reload P K I key mark p e v sl (F, w, ms, B, lg, (c0, c1, c2, c3), (en, gv, ft, mk))).1) ∧ mS M P key mark I K (q_reload P K I key mark p e v sl (F, w, ms, B, lg, (c0, c1, c2, c3), (en, gv, ft, mk))).2 os2) ∧ os2.length = (mas M sa).length) ∧ h' = wd (mas M sa) os2 h) (32, [some (.ref M), some (.int p), some (.int e), some (.int v), some (.int sl), none, none, none], [], wd (mas M sa) (mo M P 0 c0 c1 c2 c3 lg pc mk en gv ft F w ms B key mark A H G T S St r I K) h) := by
    intro hn
    have hq : q_reload P K I key mark p e v sl (F, w, ms, B, lg, (c0, c1, c2, c3), (en, gv, ft, mk)) = _ := if_neg hn
    rw [hq]
    repeat refine EV.s rfl rfl rfl ?_
    refine EV.ri rfl rfl ?_
    exact mfin ⟨rfl, 0, pc, A, H, G, T, S, St, r, rfl⟩ rfl
  refine EW.cvY 0 [0, 1] (mo M P 0 c0 c1 c2 c3 lg pc mk en gv ft F w ms B key mark A H G T S St r I K) hD (fun h0 => r_misOf (d + 3) M P hP _ rfl rfl p 0 (F 0) h0 (nd_sub hD [0, 1] (by decide) rfl)) rfl rfl rfl rfl rfl (Nat.le_of_ble_eq_true rfl) (Nat.le_of_ble_eq_true rfl) rfl rfl rfl rfl rfl ?_
  by_cases hp : ty P F p 0
  rotate_left
  · rw [iso_n hp]
    refine EV.ifT rfl (by decide) ?_
    exact no1 (fun z => hp z.1)
  rw [iso_y hp]
  refine EV.ifF rfl (by decide) ?_
  repeat refine EV.s rfl rfl rfl ?_
  refine EW.cvY 0 [0, 1] (mo M P 0 c0 c1 c2 c3 lg pc mk en gv ft F w ms B key mark A H G T S St r I K) hD (fun h0 => r_misOf (d + 3) M P hP _ rfl rfl e 1 (F 0) h0 (nd_sub hD [0, 1] (by decide) rfl)) rfl rfl rfl rfl rfl (Nat.le_of_ble_eq_true rfl) (Nat.le_of_ble_eq_true rfl) rfl rfl rfl rfl rfl ?_
  by_cases he : ty P F e 1
  rotate_left
  · rw [iso_n he]
    refine EV.ifT rfl (by decide) ?_
    exact no1 (fun z => he z.2.1)
  rw [iso_y he]
  refine EV.ifF rfl (by decide) ?_
  repeat refine EV.s rfl rfl rfl ?_
  refine EW.cvY 0 [0, 1] (mo M P 0 c0 c1 c2 c3 lg pc mk en gv ft F w ms B key mark A H G T S St r I K) hD (fun h0 => r_misOf (d + 3) M P hP _ rfl rfl v 4 (F 0) h0 (nd_sub hD [0, 1] (by decide) rfl)) rfl rfl rfl rfl rfl (Nat.le_of_ble_eq_true rfl) (Nat.le_of_ble_eq_true rfl) rfl rfl rfl rfl rfl ?_
  by_cases hv : ty P F v 4
  rotate_left
  · rw [iso_n hv]
    refine EV.ifF rfl (by decide) ?_
    exact no1 (fun z => hv z.2.2)
  rw [iso_y hv]
  refine EV.ifT rfl (by decide) ?_
  clear no1
  have h3 := (⟨hp, he, hv⟩ : ty P F p 0 ∧ ty P F e 1 ∧ ty P F v 4)
  obtain ⟨j, hj, rfl, ht⟩ := ty_j hP hp
  obtain ⟨je, hje, rfl, hte⟩ := ty_j hP he
  obtain ⟨jv, hjv, rfl, htv⟩ := ty_j hP hv
  obtain ⟨g1, g2, g3, g4, g5, gw, gm⟩ := hI.free hj ht
  repeat (first | refine EV.s rfl rfl rfl ?_ | refine EW.get 0 hD rfl rfl rfl rfl ?_)
  refine EW.iald 6 (je) hD rfl rfl rfl (rfl) (by omega) (by decide) ?_
  repeat refine EV.s rfl rfl rfl ?_
  by_cases h5 : F 5 je = 1
  rotate_left
  · refine EV.icF rfl (decide_eq_false h5) ?_
    have hq : q_reload P K I key mark (nI j) (nI je) (nI jv) sl (F, w, ms, B, lg, (c0, c1, c2, c3), (en, gv, ft, mk)) = _ := (if_pos h3).trans (if_neg (by rw [cnI (by omega)]; exact h5))
    rw [hq]
    repeat refine EV.s rfl rfl rfl ?_
    refine EV.ri rfl rfl ?_
    exact mfin ⟨rfl, 0, pc, A, H, G, T, S, St, r, rfl⟩ rfl
  refine EV.icT rfl (decide_eq_true h5) ?_
  have h5' : F 5 (cn (nI je)) = 1 := by rw [cnI (by omega)]; exact h5
  repeat refine EV.s rfl rfl rfl ?_
  by_cases hsl : inI sl 16
  rotate_left
  · have hq : q_reload P K I key mark (nI j) (nI je) (nI jv) sl (F, w, ms, B, lg, (c0, c1, c2, c3), (en, gv, ft, mk)) = _ := (if_pos h3).trans ((if_pos h5').trans (if_neg hsl))
    rw [hq]
    refine EV.ifc rfl (fun hb => ?_) (fun hb => ?_)
    · repeat refine EV.s rfl rfl rfl ?_
      refine EV.ri rfl rfl ?_
      exact mfin ⟨rfl, 0, pc, A, H, G, T, S, St, r, rfl⟩ rfl
    · repeat refine EV.s rfl rfl rfl ?_
      refine EV.icF rfl (decide_eq_false (le1023 (n := 15) (by decide) hsl (of_decide_eq_false hb))) ?_
      repeat refine EV.s rfl rfl rfl ?_
      refine EV.ri rfl rfl ?_
      exact mfin ⟨rfl, 0, pc, A, H, G, T, S, St, r, rfl⟩ rfl
  have hsl' := hsl
  obtain ⟨js, hjs, rfl⟩ := in_nI (by decide) hsl
  refine EV.ifF rfl (decide_eq_false (nI_pos (by omega))) ?_
  repeat refine EV.s rfl rfl rfl ?_
  refine EV.icT rfl (decide_eq_true (nI_le (b := 15) (by omega) (by decide))) ?_
  repeat refine EV.s rfl rfl rfl ?_
  refine EW.cvF 0 [0, 9, 11, 12, 13, 14, 15, 19, 20] hD (r_tag d M _ rfl rfl rfl rfl rfl rfl B mark A H G T I K (nd_sub hD [0, 9, 11, 12, 13, 14, 15, 19, 20] (by decide) rfl) hbs) rfl rfl rfl rfl rfl (Nat.le_of_ble_eq_true rfl) (Nat.le_of_ble_eq_true rfl) rfl rfl rfl ?_
  rintro rv os2 ⟨rfl, A1, H1, G1, T1, rfl, hH1⟩
  refine ⟨(mo M P 0 c0 c1 c2 c3 lg pc mk en gv ft F w ms B key mark A1 H1 G1 T1 S St r I K), rfl, ?_⟩
  repeat refine EV.s rfl rfl rfl ?_
  refine r_mrl_loop (d + 4) M P 0 c0 c1 c2 c3 lg pc mk en gv ft F w ms B key mark A1 H1 G1 T1 S St r I K _ _ _ _ h hD _ (fun ki => ?_) 8 0 rfl _ (by rw [if_pos (fun i hi => absurd hi (by omega))]) _ rfl
  have htg : eqk B H1 8 ↔ tgd K I mark B := by
    constructor
    · exact fun z i hi => by rw [z i hi, hH1 i hi]
    · exact fun z i hi => by rw [z i hi, hH1 i hi]
  repeat refine EV.s rfl rfl rfl ?_
  by_cases hg : tgd K I mark B
  rotate_left
  · rw [if_neg (fun z => hg (htg.mp z))]
    refine EV.ifF rfl (by decide) ?_
    have hq : q_reload P K I key mark (nI j) (nI je) (nI jv) (nI js) (F, w, ms, B, lg, (c0, c1, c2, c3), (en, gv, ft, mk)) = _ := (if_pos h3).trans ((if_pos h5').trans ((if_pos hsl').trans (if_neg hg)))
    rw [hq]
    repeat (first | refine EV.s rfl rfl rfl ?_ | refine EW.get 0 hD rfl rfl rfl rfl ?_)
    refine EW.putY 0 (mo M P 0 c0 (c1 + 1) c2 c3 lg pc mk en gv ft F w ms B key mark A1 H1 G1 T1 S St r I K) hD rfl rfl rfl hbs (Nat.le_of_ble_eq_true rfl) rfl rfl ?_
    repeat refine EV.s rfl rfl rfl ?_
    refine EV.ri rfl rfl ?_
    exact mfin ⟨rfl, 0, pc, A1, H1, G1, T1, S, St, r, rfl⟩ rfl
  rw [if_pos (htg.mpr hg)]
  refine EV.ifT rfl (by decide) ?_
  have no5 : ¬ frs F w B je jv js → ∀ l5 l6 l7, ev_E tbs bs sa (d + 4) t_X5_reload (fun y => ∃ vv h', y = .inr (vv, h') ∧ ∃ os2, ((vv = some (.int (q_reload P K I key mark (nI j) (nI je) (nI jv) (nI js) (F, w, ms, B, lg, (c0, c1, c2, c3), (en, gv, ft, mk))).1) ∧ mS M P key mark I K (q_reload P K I key mark (nI j) (nI je) (nI jv) (nI js) (F, w, ms, B, lg, (c0, c1, c2, c3), (en, gv, ft, mk))).2 os2) ∧ os2.length = (mas M sa).length) ∧ h' = wd (mas M sa) os2 h) (191, [some (.ref M), some (.int (nI j)), some (.int (nI je)), some (.int (nI jv)), some (.int (nI js)), l5, l6, l7], [], wd (mas M sa) (mo M P 0 c0 c1 c2 c3 lg pc mk en gv ft F w ms B key mark A1 H1 G1 T1 S St r I K) h) := by
    intro hn l5 l6 l7
    have hq : q_reload P K I key mark (nI j) (nI je) (nI jv) (nI js) (F, w, ms, B, lg, (c0, c1, c2, c3), (en, gv, ft, mk)) = _ := (if_pos h3).trans ((if_pos h5').trans ((if_pos hsl').trans ((if_pos hg).trans (if_neg (by rw [cnI (j := je) (by omega), cnI (j := jv) (by omega), cnI (j := js) (by omega)]; exact hn)))))
    rw [hq]
    repeat (first | refine EV.s rfl rfl rfl ?_ | refine EW.get 0 hD rfl rfl rfl rfl ?_)
    refine EW.putY 0 (mo M P 0 c0 c1 (c2 + 1) c3 lg pc mk en gv ft F w ms B key mark A1 H1 G1 T1 S St r I K) hD rfl rfl rfl hbs (Nat.le_of_ble_eq_true rfl) rfl rfl ?_
    repeat refine EV.s rfl rfl rfl ?_
    refine EV.ri rfl rfl ?_
    exact mfin ⟨rfl, 0, pc, A1, H1, G1, T1, S, St, r, rfl⟩ rfl
  repeat (first | refine EV.s rfl rfl rfl ?_ | refine EW.get 0 hD rfl rfl rfl rfl ?_)
  refine EW.iald 9 (4) hD rfl rfl rfl (rfl) (by decide) (by decide) ?_
  repeat (first | refine EV.s rfl rfl rfl ?_ | refine EW.get 0 hD rfl rfl rfl rfl ?_)
  refine EW.iald 9 (5) hD rfl rfl rfl (rfl) (by decide) (by decide) ?_
  repeat (first | refine EV.s rfl rfl rfl ?_ | refine EW.get 0 hD rfl rfl rfl rfl ?_)
  refine EW.iald 9 (3) hD rfl rfl rfl (rfl) (by decide) (by decide) ?_
  repeat (first | refine EV.s rfl rfl rfl ?_ | refine EW.get 0 hD rfl rfl rfl rfl ?_)
  refine EW.iald 5 (je) hD rfl rfl rfl (rfl) (by omega) (by decide) ?_
  by_cases h4 : B 3 = F 4 je
  rotate_left
  · refine EV.icT rfl (decide_eq_true h4) ?_
    exact no5 (fun z => h4 z.2) _ _ _
  refine EV.icF rfl (decide_eq_false (fun z => z h4)) ?_
  repeat refine EV.s rfl rfl rfl ?_
  refine EW.cvY 0 [0, 7] (mo M P 0 c0 c1 c2 c3 lg pc mk en gv ft F w ms B key mark A1 H1 G1 T1 S St r I K) hD (fun h0 => r_inSlot (d + 3) M jv js _ rfl (by omega) (by omega) (fl32 w) h0 (nd_sub hD [0, 7] (by decide) rfl)) rfl rfl rfl rfl rfl (Nat.le_of_ble_eq_true rfl) (Nat.le_of_ble_eq_true rfl) rfl rfl rfl rfl rfl ?_
  rw [Nat.add_assoc, fl32_at w jv (2 * js) (by omega), fl32_at w jv (2 * js + 1) (by omega)]
  repeat refine EV.s rfl rfl rfl ?_
  by_cases heq : jn (B 4) (B 5) = jn (w jv (2 * js)) (w jv (2 * js + 1))
  rotate_left
  · refine EV.ifT rfl (decide_eq_true (fun z => heq ((lg_cmp_eq _ _).mp z))) ?_
    exact no5 (fun z => heq z.1.2) _ _ _
  refine EV.ifF rfl (decide_eq_false (fun z => z ((lg_cmp_eq _ _).mpr heq))) ?_
  repeat refine EV.s rfl rfl rfl ?_
  by_cases hnz : jn (B 4) (B 5) = 0
  · refine EV.ifF rfl (decide_eq_false (fun z => z ((lg_cmp_eq _ _).mpr hnz))) ?_
    exact no5 (fun z => z.1.1 hnz) _ _ _
  refine EV.ifT rfl (decide_eq_true (fun z => hnz ((lg_cmp_eq _ _).mp z))) ?_
  clear no5
  have hq : q_reload P K I key mark (nI j) (nI je) (nI jv) (nI js) (F, w, ms, B, lg, (c0, c1, c2, c3), (en, gv, ft, mk)) = _ := (if_pos h3).trans ((if_pos h5').trans ((if_pos hsl').trans ((if_pos hg).trans (if_pos (by rw [cnI (j := je) (by omega), cnI (j := jv) (by omega), cnI (j := js) (by omega)]; exact ⟨⟨hnz, heq⟩, h4⟩)))))
  rw [hq, cnI (j := j) (by omega), cnI (j := jv) (by omega), cnI (j := js) (by omega)]
  have hne : j ≠ jv := by
    intro z; subst z; rw [htv] at ht; exact absurd ht (by decide)
  have em : (32 : Int32) * nI j = nI (32 * j) := pk_mul 32 j
  have tail : ∀ F', ∀ l5 l6 l7, ev_E tbs bs sa (d + 4) t_X5_reload (fun y => ∃ vv h', y = .inr (vv, h') ∧ ∃ os2, ((vv = some (.int 0) ∧ mS M P key mark I K (F', svW (upp w j (xk (va_cpy B (w j) 8 0 32) 0 (sm cc4 key (B 4) (B 5)) 32)) jv js 0, ms, B, lg, (c0, c1, c2, c3 + 1), (en, gv, ft, mk)) os2) ∧ os2.length = (mas M sa).length) ∧ h' = wd (mas M sa) os2 h) (264, [some (.ref M), some (.int (nI j)), some (.int (nI je)), some (.int (nI jv)), some (.int (nI js)), l5, l6, l7], [], wd (mas M sa) (mo M P 0 c0 c1 c2 c3 lg pc mk en gv ft F' w ms B key mark A1 H1 G1 T1 S St r I K) h) := by
    intro F' l5 l6 l7
    repeat (first | refine EV.s rfl rfl rfl ?_ | refine EW.get 0 hD rfl rfl rfl rfl ?_)
    refine EW.cvF 0 [0, 7, 9, 10, 16, 17] hD (r_sealB d M 8 (32 * j) _ rfl rfl rfl rfl (by decide) (by omega) (fl32 w) B key S St hbs (nd_sub hD [0, 7, 9, 10, 16, 17] (by decide) rfl)) rfl rfl rfl rfl rfl (Nat.le_of_ble_eq_true rfl) (Nat.le_of_ble_eq_true rfl) (by rw [← em]; rfl) rfl rfl ?_
    rintro rv os2 ⟨rfl, S', St', rfl⟩
    refine ⟨(mo M P 0 c0 c1 c2 c3 lg pc mk en gv ft F' (upp w j (xk (va_cpy B (w j) 8 0 32) 0 (sm cc4 key (B 4) (B 5)) 32)) ms B key mark A1 H1 G1 T1 S' St' r I K), by rw [fx_rel]; rfl, ?_⟩
    repeat refine EV.s rfl rfl rfl ?_
    refine EW.cvY 0 [0, 7] (mo M P 0 c0 c1 c2 c3 lg pc mk en gv ft F' (svW (upp w j (xk (va_cpy B (w j) 8 0 32) 0 (sm cc4 key (B 4) (B 5)) 32)) jv js 0) ms B key mark A1 H1 G1 T1 S' St' r I K) hD (fun h0 => r_setSlot (d + 3) M jv js 0 _ rfl (by omega) (by omega) (fl32 (upp w j (xk (va_cpy B (w j) 8 0 32) 0 (sm cc4 key (B 4) (B 5)) 32))) h0 (nd_sub hD [0, 7] (by decide) rfl) hbs) rfl rfl rfl rfl rfl (Nat.le_of_ble_eq_true rfl) (Nat.le_of_ble_eq_true rfl) (rfl) rfl rfl rfl (by rw [svW_fl _ jv js _ hjs]; rfl) ?_
    repeat (first | refine EV.s rfl rfl rfl ?_ | refine EW.get 0 hD rfl rfl rfl rfl ?_)
    refine EW.putY 0 (mo M P 0 c0 c1 c2 (c3 + 1) lg pc mk en gv ft F' (svW (upp w j (xk (va_cpy B (w j) 8 0 32) 0 (sm cc4 key (B 4) (B 5)) 32)) jv js 0) ms B key mark A1 H1 G1 T1 S' St' r I K) hD rfl rfl rfl hbs (Nat.le_of_ble_eq_true rfl) rfl rfl ?_
    repeat refine EV.s rfl rfl rfl ?_
    refine EV.ri rfl rfl ?_
    exact mfin ⟨rfl, 0, pc, A1, H1, G1, T1, S', St', r, rfl⟩ rfl
  repeat (first | refine EV.s rfl rfl rfl ?_ | refine EW.get 0 hD rfl rfl rfl rfl ?_)
  refine EW.iald 9 (0) hD rfl rfl rfl (rfl) (by decide) (by decide) ?_
  repeat refine EV.s rfl rfl rfl ?_
  by_cases b2 : B 0 = 2
  · rw [if_pos b2]
    refine EV.icF rfl (decide_eq_false (fun z => z b2)) ?_
    repeat refine EV.s rfl rfl rfl ?_
    refine EW.cvY 0 [0, 1, 2, 3, 4, 5, 6, 7, 8] (mo M P 0 c0 c1 c2 c3 lg pc mk en gv ft (uF F 0 j 2) w ms B key mark A1 H1 G1 T1 S St r I K) hD (fun h0 => r_becF (d + 3) M j 2 _ rfl rfl rfl rfl rfl rfl rfl rfl (by omega) F w ms g1 g2 g3 g4 g5 gw gm h0 (nd_sub hD [0, 1, 2, 3, 4, 5, 6, 7, 8] (by decide) rfl) hbs) rfl rfl rfl rfl rfl (Nat.le_of_ble_eq_true rfl) (Nat.le_of_ble_eq_true rfl) rfl rfl rfl rfl rfl ?_
    repeat (first | refine EV.s rfl rfl rfl ?_ | refine EW.get 0 hD rfl rfl rfl rfl ?_)
    refine EW.iastY 2 (j) (mo M P 0 c0 c1 c2 c3 lg pc mk en gv ft (uF (uF F 0 j 2) 1 j (nI je)) w ms B key mark A1 H1 G1 T1 S St r I K) hD rfl rfl rfl (by omega) (rfl) (by omega) (by decide) (rfl) ?_
    repeat (first | refine EV.s rfl rfl rfl ?_ | refine EW.get 0 hD rfl rfl rfl rfl ?_)
    refine EW.iald 1 (j) hD rfl rfl rfl (rfl) (by omega) (by decide) ?_
    have e2 : (uF (uF F 0 j 2) 1 j (nI je)) 0 j = 2 := by simp [uF, upp, upd]
    rw [e2]
    repeat refine EV.s rfl rfl rfl ?_
    refine EV.icT rfl (by decide) ?_
    exact tail _ _ _ _
  · rw [if_neg b2]
    refine EV.icT rfl (decide_eq_true b2) ?_
    repeat refine EV.s rfl rfl rfl ?_
    refine EW.cvY 0 [0, 1, 2, 3, 4, 5, 6, 7, 8] (mo M P 0 c0 c1 c2 c3 lg pc mk en gv ft (uF F 0 j 3) w ms B key mark A1 H1 G1 T1 S St r I K) hD (fun h0 => r_becF (d + 3) M j 3 _ rfl rfl rfl rfl rfl rfl rfl rfl (by omega) F w ms g1 g2 g3 g4 g5 gw gm h0 (nd_sub hD [0, 1, 2, 3, 4, 5, 6, 7, 8] (by decide) rfl) hbs) rfl rfl rfl rfl rfl (Nat.le_of_ble_eq_true rfl) (Nat.le_of_ble_eq_true rfl) rfl rfl rfl rfl rfl ?_
    repeat (first | refine EV.s rfl rfl rfl ?_ | refine EW.get 0 hD rfl rfl rfl rfl ?_)
    refine EW.iastY 2 (j) (mo M P 0 c0 c1 c2 c3 lg pc mk en gv ft (uF (uF F 0 j 3) 1 j (nI je)) w ms B key mark A1 H1 G1 T1 S St r I K) hD rfl rfl rfl (by omega) (rfl) (by omega) (by decide) (rfl) ?_
    repeat (first | refine EV.s rfl rfl rfl ?_ | refine EW.get 0 hD rfl rfl rfl rfl ?_)
    refine EW.iald 1 (j) hD rfl rfl rfl (rfl) (by omega) (by decide) ?_
    have e2 : (uF (uF F 0 j 3) 1 j (nI je)) 0 j = 3 := by simp [uF, upp, upd]
    rw [e2]
    repeat refine EV.s rfl rfl rfl ?_
    refine EV.icF rfl (by decide) ?_
    repeat (first | refine EV.s rfl rfl rfl ?_ | refine EW.get 0 hD rfl rfl rfl rfl ?_)
    refine EW.iald 9 (1) hD rfl rfl rfl (rfl) (by decide) (by decide) ?_
    refine EW.iastY 3 (j) (mo M P 0 c0 c1 c2 c3 lg pc mk en gv ft (uF (uF (uF F 0 j 3) 1 j (nI je)) 2 j (B 1)) w ms B key mark A1 H1 G1 T1 S St r I K) hD rfl rfl rfl (by omega) (rfl) (by omega) (by decide) (rfl) ?_
    repeat (first | refine EV.s rfl rfl rfl ?_ | refine EW.get 0 hD rfl rfl rfl rfl ?_)
    refine EW.iald 9 (2) hD rfl rfl rfl (rfl) (by decide) (by decide) ?_
    refine EW.iastY 4 (j) (mo M P 0 c0 c1 c2 c3 lg pc mk en gv ft (uF (uF (uF (uF F 0 j 3) 1 j (nI je)) 2 j (B 1)) 3 j (B 2)) w ms B key mark A1 H1 G1 T1 S St r I K) hD rfl rfl rfl (by omega) (rfl) (by omega) (by decide) (rfl) ?_
    exact tail _ _ _ _
end MPK
