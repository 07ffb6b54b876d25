theorem fx_evC (F w : Nat → Nat → Int32) (B key : Nat → Int32) (lg : Int64) (j : Nat) : fx (fl32 w) (32 * j) (evB F w B lg j) 8 (sm cc4 key (evB F w B lg j 4) (evB F w B lg j 5)) 32 = evC F w B key lg j := by
  have e4 : evB F w B lg j 4 = up64 lg := by simp [evB, upd]
  have e5 : evB F w B lg j 5 = lg.toInt32 := by simp [evB, upd]
  rw [e4, e5]
  funext i
  simp only [fx, evC, xk, va_cpy]
  by_cases c : 8 ≤ i ∧ i < 8 + 32
  · rw [if_pos c, if_pos c, if_pos c, fl32_at w j (i - 8) (by omega), Nat.zero_add]
  · rw [if_neg c, if_neg c, if_neg c]
theorem fx_rel (w : Nat → Nat → Int32) (B g : Nat → Int32) (j : Nat) : fx B 8 (fl32 w) (32 * j) g 32 = fl32 (upp w j (xk (va_cpy B (w j) 8 0 32) 0 g 32)) := by
  funext i
  simp only [fx, fl32, upp]
  by_cases c : i / 32 = j
  · rw [if_pos (by omega), if_pos c]
    show _ = if 0 ≤ i % 32 ∧ i % 32 < 0 + 32 then (if 0 ≤ i % 32 ∧ i % 32 < 0 + 32 then B (8 + (i % 32 - 0)) else w j (i % 32)) ^^^ g (i % 32 - 0) else _
    rw [if_pos (by omega), if_pos (by omega)]
    rw [show i - 32 * j = i % 32 by omega, Nat.sub_zero]
  · rw [if_neg (by omega), if_neg c]
theorem svW_fl (w : Nat → Nat → Int32) (v s : Nat) (x : Int64) (hs : s < 16) : upd (upd (fl32 w) (32 * v + 2 * s) (ua64 x)) (32 * v + 2 * s + 1) x.toInt32 = fl32 (svW w v s x) := by
  rw [fl32_up w v (2 * s) (by omega), Nat.add_assoc, fl32_up _ v (2 * s + 1) (by omega), upp2, upp_at, ua_up]; rfl
section MPJ
variable {bs : Nat} {sa : Nat → Nat}
set_option maxHeartbeats 1000000 in
set_option maxRecDepth 100000 in
theorem r_mev_c (d M P : Nat) (th c0 c1 c2 c3 : Int32) (lg : Int64) (pc mk en gv ft : Int32) (F w ms : Nat → Nat → Int32) (B key mark A H G T S St r I K : Nat → Int32) (hbs : bs ≤ M) (l1 l2 l3 : Int32) (h : e_H) (hD : (mas M sa).Nodup) (E : e_C ⊕ (Option Value × e_H) → Prop)
    (hK : ∀ (ki : Int32), ev_E tbs bs sa (d) t_X5_evict E (233, [some (.ref M), some (.int l1), some (.int l2), some (.int l3), some (.int ki)], [], wd (mas M sa) (mo M P th c0 c1 c2 c3 lg pc mk en gv ft F w ms (va_cpy H B 0 40 8) key mark A H G T S St r I K) h)) :
    ∀ (c k : Nat), k + c = 8 → ∀ Z, Z = va_cpy H B 0 40 k → ∀ (ki : Int32), ki = nI k → ev_E tbs bs sa (d) t_X5_evict E (207, [some (.ref M), some (.int l1), some (.int l2), some (.int l3), some (.int ki)], [.int 8, .int ki], wd (mas M sa) (mo M P th c0 c1 c2 c3 lg pc mk en gv ft F w ms Z key mark A H G T S St r I K) h) := by
  intro c
  induction c with
  | zero =>
    intro k hkc Z hZ ki hki
    have e : k = 8 := by omega
    subst e; subst hZ; subst hki
    refine EV.icm rfl (fun hc => ?_) (fun hc => ?_)
    · exact hK _
    · exact absurd (by decide : (8 : Int32) ≤ nI 8) (of_decide_eq_false hc)
  | succ c ih =>
    intro k hkc Z hZ ki hki
    subst hki; subst hZ
    refine EV.icm rfl (fun hc => ?_) (fun hc => ?_)
    · exact absurd (of_decide_eq_true hc) (nI_ge (b := 8) (by omega) (by decide))
    · repeat (first | refine EV.s rfl rfl rfl ?_ | refine EW.get 0 hD rfl rfl rfl rfl ?_)
      refine EW.iald 13 (k) hD rfl rfl rfl (rfl) (by omega) (by decide) ?_
      refine EW.iastY 9 (40 + k) (mo M P th c0 c1 c2 c3 lg pc mk en gv ft F w ms (va_cpy H B 0 40 (k + 1)) key mark A H G T S St r I K) hD rfl rfl rfl (by omega) (nI_add 40 k) (by omega) (by decide) (by rw [cpyS, Nat.zero_add]; rfl) ?_
      repeat refine EV.s rfl rfl rfl ?_
      exact ih (k + 1) (by omega) _ (rfl) _ (nI_1 k)
set_option maxHeartbeats 4000000 in
set_option maxRecDepth 100000 in
theorem m_evict (d M P : Nat) (hP : P ≤ 40) (key mark I K : Nat → Int32) (hbs : bs ≤ M) (hD : (mas M sa).Nodup) (s : zS) (hI : Iv P s) (o : List e_O) (ho : mS M P key mark I K s o) (p v sl : Int32) :
    CT bs sa (d + 5) 100 [.ref M, .int p, .int v, .int sl] (mas M sa) o (fun rv o' => rv = some (.int (q_evict P K I key mark p v sl s).1) ∧ mS M P key mark I K (q_evict P K I key mark p v sl s).2 o') := by
  obtain ⟨F, w, ms, B, lg, ⟨c0, c1, c2, c3⟩, ⟨en, gv, ft, mk⟩⟩ := s; obtain ⟨th, pc, A, H, G, T, S, St, r, rfl⟩ := ho
  refine CT.mk (T := t_X5_evict) rfl (Nat.le_of_ble_eq_true rfl) (fun h => ?_)
  repeat refine EV.s rfl rfl rfl ?_
  refine EW.putY 0 (mo M P 0 c0 c1 c2 c3 lg pc mk en gv ft F w ms B key mark A H G T S St r I K) hD rfl rfl rfl hbs (Nat.le_of_ble_eq_true rfl) rfl rfl ?_
  repeat refine EV.s rfl rfl rfl ?_
  have no1 : ¬ ((ty P F p 2 ∨ ty P F p 3) ∧ ty P F v 4) → ev_E tbs bs sa (d + 4) t_X5_evict (fun y => ∃ vv h', y = .inr (vv, h') ∧ ∃ os2, ((vv = some (.int (q_evict P K I key mark p v sl (F, w, ms, B, lg, (c0, c1, c2, c3), (en, gv, ft, mk))).1) ∧ mS M P key mark I K (q_evict P K I key mark p v sl (F, w, ms, B, lg, (c0, c1, c2, c3), (en, gv, ft, mk))).2 os2) ∧ os2.length = (mas M sa).length) ∧ h' = wd (mas M sa) os2 h) (32, [some (.ref M), some (.int p), some (.int v), some (.int sl), none], [], wd (mas M sa) (mo M P 0 c0 c1 c2 c3 lg pc mk en gv ft F w ms B key mark A H G T S St r I K) h) := by
    intro hn
    have hq : q_evict P K I key mark p v sl (F, w, ms, B, lg, (c0, c1, c2, c3), (en, gv, ft, mk)) = _ := if_neg hn
    rw [hq]
    repeat refine EV.s rfl rfl rfl ?_
    refine EV.ri rfl rfl ?_
    exact mfin ⟨rfl, 0, pc, A, H, G, T, S, St, r, rfl⟩ rfl
  have main : (ty P F p 2 ∨ ty P F p 3) → ev_E tbs bs sa (d + 4) t_X5_evict (fun y => ∃ vv h', y = .inr (vv, h') ∧ ∃ os2, ((vv = some (.int (q_evict P K I key mark p v sl (F, w, ms, B, lg, (c0, c1, c2, c3), (en, gv, ft, mk))).1) ∧ mS M P key mark I K (q_evict P K I key mark p v sl (F, w, ms, B, lg, (c0, c1, c2, c3), (en, gv, ft, mk))).2 os2) ∧ os2.length = (mas M sa).length) ∧ h' = wd (mas M sa) os2 h) (23, [some (.ref M), some (.int p), some (.int v), some (.int sl), none], [], wd (mas M sa) (mo M P 0 c0 c1 c2 c3 lg pc mk en gv ft F w ms B key mark A H G T S St r I K) h) := by
    intro hp
    repeat refine EV.s rfl rfl rfl ?_
    refine EW.cvY 0 [0, 1] (mo M P 0 c0 c1 c2 c3 lg pc mk en gv ft F w ms B key mark A H G T S St r I K) hD (fun h0 => r_misOf (d + 3) M P hP _ rfl rfl v 4 (F 0) h0 (nd_sub hD [0, 1] (by decide) rfl)) rfl rfl rfl rfl rfl (Nat.le_of_ble_eq_true rfl) (Nat.le_of_ble_eq_true rfl) rfl rfl rfl rfl rfl ?_
    by_cases hv : ty P F v 4
    rotate_left
    · rw [iso_n hv]
      refine EV.ifF rfl (by decide) ?_
      exact no1 (fun z => hv z.2)
    rw [iso_y hv]
    refine EV.ifT rfl (by decide) ?_
    clear no1
    have hpj : ∃ j, j < P ∧ p = nI j ∧ (F 0 j = 2 ∨ F 0 j = 3) := by
      rcases hp with z | z
      · obtain ⟨j, a, b, c⟩ := ty_j hP z
        exact ⟨j, a, b, Or.inl c⟩
      · obtain ⟨j, a, b, c⟩ := ty_j hP z
        exact ⟨j, a, b, Or.inr c⟩
    obtain ⟨j, hj, rfl, ht⟩ := hpj
    obtain ⟨jv, hjv, rfl, htv⟩ := ty_j hP hv
    obtain ⟨e, he, hoe, hte, hfin⟩ := hI.own hj hP ht
    have c1' := hp
    repeat (first | refine EV.s rfl rfl rfl ?_ | refine EW.get 0 hD rfl rfl rfl rfl ?_)
    refine EW.iald 2 (j) hD rfl rfl rfl (rfl) (by omega) (by decide) ?_
    rw [hoe]
    refine EW.iald 6 (e) hD rfl rfl rfl (rfl) (by omega) (by decide) ?_
    repeat refine EV.s rfl rfl rfl ?_
    by_cases h5 : F 5 e = 1
    rotate_left
    · refine EV.icF rfl (decide_eq_false h5) ?_
      have hq : q_evict P K I key mark (nI j) (nI jv) sl (F, w, ms, B, lg, (c0, c1, c2, c3), (en, gv, ft, mk)) = _ := (if_pos ⟨hp, hv⟩).trans (if_neg (by rw [cnI (by omega)]; exact fun z => h5 (hfin.mp z)))
      rw [hq]
      repeat refine EV.s rfl rfl rfl ?_
      refine EV.ri rfl rfl ?_
      exact mfin ⟨rfl, 0, pc, A, H, G, T, S, St, r, rfl⟩ rfl
    refine EV.icT rfl (decide_eq_true h5) ?_
    have hok : fin1 P F (F 1 (cn (nI j))) := by rw [cnI (by omega)]; exact hfin.mpr h5
    have no3 : ¬ (inI sl 16 ∧ jn (w (cn (nI jv)) (2 * cn sl)) (w (cn (nI jv)) (2 * cn sl + 1)) = 0) → ev_E tbs bs sa (d + 4) t_X5_evict (fun y => ∃ vv h', y = .inr (vv, h') ∧ ∃ os2, ((vv = some (.int (q_evict P K I key mark (nI j) (nI jv) sl (F, w, ms, B, lg, (c0, c1, c2, c3), (en, gv, ft, mk))).1) ∧ mS M P key mark I K (q_evict P K I key mark (nI j) (nI jv) sl (F, w, ms, B, lg, (c0, c1, c2, c3), (en, gv, ft, mk))).2 os2) ∧ os2.length = (mas M sa).length) ∧ h' = wd (mas M sa) os2 h) (72, [some (.ref M), some (.int (nI j)), some (.int (nI jv)), some (.int sl), none], [], wd (mas M sa) (mo M P 0 c0 c1 c2 c3 lg pc mk en gv ft F w ms B key mark A H G T S St r I K) h) := by
      intro hn
      have hq : q_evict P K I key mark (nI j) (nI jv) sl (F, w, ms, B, lg, (c0, c1, c2, c3), (en, gv, ft, mk)) = _ := (if_pos ⟨hp, hv⟩).trans ((if_pos hok).trans (if_neg hn))
      rw [hq]
      repeat refine EV.s rfl rfl rfl ?_
      refine EV.ri rfl rfl ?_
      exact mfin ⟨rfl, 0, pc, A, H, G, T, S, St, r, rfl⟩ rfl
    repeat refine EV.s rfl rfl rfl ?_
    by_cases hsl : inI sl 16
    rotate_left
    · refine EV.ifc rfl (fun hb => ?_) (fun hb => ?_)
      · exact no3 (fun z => hsl z.1)
      · repeat refine EV.s rfl rfl rfl ?_
        refine EV.icT rfl (decide_eq_true (Int32.not_le.mp (le1023 (n := 15) (by decide) hsl (of_decide_eq_false hb)))) ?_
        exact no3 (fun z => hsl z.1)
    obtain ⟨js, hjs, rfl⟩ := in_nI (by decide) hsl
    rw [cnI (j := jv) (by omega), cnI (j := js) (by omega)] at no3
    refine EV.ifF rfl (decide_eq_false (nI_pos (by omega))) ?_
    repeat refine EV.s rfl rfl rfl ?_
    refine EV.icF rfl (decide_eq_false (nI_nlt (a := 15) (by omega) (by decide))) ?_
    repeat refine EV.s rfl rfl rfl ?_
    refine EW.cvY 0 [0, 7] (mo M P 0 c0 c1 c2 c3 lg pc mk en gv ft F w ms B key mark A H G T S St r I K) hD (fun h0 => r_inSlot (d + 3) M jv js _ rfl (by omega) (by omega) (fl32 w) h0 (nd_sub hD [0, 7] (by decide) rfl)) rfl rfl rfl rfl rfl (Nat.le_of_ble_eq_true rfl) (Nat.le_of_ble_eq_true rfl) rfl rfl rfl rfl rfl ?_
    rw [Nat.add_assoc, fl32_at w jv (2 * js) (by omega), fl32_at w jv (2 * js + 1) (by omega)]
    repeat refine EV.s rfl rfl rfl ?_
    by_cases hz : jn (w jv (2 * js)) (w jv (2 * js + 1)) = 0
    rotate_left
    · refine EV.ifF rfl (decide_eq_false (fun z => hz ((lg_cmp_eq _ _).mp z))) ?_
      exact no3 (fun z => hz z.2)
    refine EV.ifT rfl (decide_eq_true ((lg_cmp_eq _ _).mpr hz)) ?_
    have hq : q_evict P K I key mark (nI j) (nI jv) (nI js) (F, w, ms, B, lg, (c0, c1, c2, c3), (en, gv, ft, mk)) = _ := (if_pos ⟨hp, hv⟩).trans ((if_pos hok).trans (if_pos ⟨hsl, by rw [cnI (j := jv) (by omega), cnI (j := js) (by omega)]; exact hz⟩))
    rw [hq, cnI (j := j) (by omega), cnI (j := jv) (by omega), cnI (j := js) (by omega)]
    clear no3
    have hne : j ≠ jv := by
      intro z; subst z; rw [htv] at ht; rcases ht with z | z <;> exact absurd z (by decide)
    have em : (32 : Int32) * nI j = nI (32 * j) := pk_mul 32 j
    repeat (first | refine EV.s rfl rfl rfl ?_ | refine EW.get 0 hD rfl rfl rfl rfl ?_)
    refine EW.putY 0 (mo M P 0 c0 c1 c2 c3 (lg + 1) pc mk en gv ft F w ms B key mark A H G T S St r I K) hD rfl rfl rfl hbs (Nat.le_of_ble_eq_true rfl) rfl rfl ?_
    repeat (first | refine EV.s rfl rfl rfl ?_ | refine EW.get 0 hD rfl rfl rfl rfl ?_)
    refine EW.iald 1 (j) hD rfl rfl rfl (rfl) (by omega) (by decide) ?_
    refine EW.iastY 9 (0) (mo M P 0 c0 c1 c2 c3 (lg + 1) pc mk en gv ft F w ms (upd B 0 (F 0 j)) key mark A H G T S St r I K) hD rfl rfl rfl (by omega) (rfl) (by decide) (by decide) (rfl) ?_
    repeat (first | refine EV.s rfl rfl rfl ?_ | refine EW.get 0 hD rfl rfl rfl rfl ?_)
    refine EW.iald 3 (j) hD rfl rfl rfl (rfl) (by omega) (by decide) ?_
    refine EW.iastY 9 (1) (mo M P 0 c0 c1 c2 c3 (lg + 1) pc mk en gv ft F w ms (upd (upd B 0 (F 0 j)) 1 (F 2 j)) key mark A H G T S St r I K) hD rfl rfl rfl (by omega) (rfl) (by decide) (by decide) (rfl) ?_
    repeat (first | refine EV.s rfl rfl rfl ?_ | refine EW.get 0 hD rfl rfl rfl rfl ?_)
    refine EW.iald 4 (j) hD rfl rfl rfl (rfl) (by omega) (by decide) ?_
    refine EW.iastY 9 (2) (mo M P 0 c0 c1 c2 c3 (lg + 1) pc mk en gv ft F w ms (upd (upd (upd B 0 (F 0 j)) 1 (F 2 j)) 2 (F 3 j)) key mark A H G T S St r I K) hD rfl rfl rfl (by omega) (rfl) (by decide) (by decide) (rfl) ?_
    repeat (first | refine EV.s rfl rfl rfl ?_ | refine EW.get 0 hD rfl rfl rfl rfl ?_)
    refine EW.iald 2 (j) hD rfl rfl rfl (rfl) (by omega) (by decide) ?_
    rw [hoe]
    refine EW.iald 5 (e) hD rfl rfl rfl (rfl) (by omega) (by decide) ?_
    refine EW.iastY 9 (3) (mo M P 0 c0 c1 c2 c3 (lg + 1) pc mk en gv ft F w ms (upd (upd (upd (upd B 0 (F 0 j)) 1 (F 2 j)) 2 (F 3 j)) 3 (F 4 e)) key mark A H G T S St r I K) hD rfl rfl rfl (by omega) (rfl) (by decide) (by decide) (rfl) ?_
    repeat (first | refine EV.s rfl rfl rfl ?_ | refine EW.get 0 hD rfl rfl rfl rfl ?_)
    refine EW.iastY 9 (4) (mo M P 0 c0 c1 c2 c3 (lg + 1) pc mk en gv ft F w ms (upd (upd (upd (upd (upd B 0 (F 0 j)) 1 (F 2 j)) 2 (F 3 j)) 3 (F 4 e)) 4 (up64 (lg + 1))) key mark A H G T S St r I K) hD rfl rfl rfl (by omega) (rfl) (by decide) (by decide) (by rw [← ua_up]; rfl) ?_
    repeat (first | refine EV.s rfl rfl rfl ?_ | refine EW.get 0 hD rfl rfl rfl rfl ?_)
    refine EW.iastY 9 (5) (mo M P 0 c0 c1 c2 c3 (lg + 1) pc mk en gv ft F w ms (upd (upd (upd (upd (upd (upd B 0 (F 0 j)) 1 (F 2 j)) 2 (F 3 j)) 3 (F 4 e)) 4 (up64 (lg + 1))) 5 (lg + 1).toInt32) key mark A H G T S St r I K) hD rfl rfl rfl (by omega) (rfl) (by decide) (by decide) (rfl) ?_
    repeat (first | refine EV.s rfl rfl rfl ?_ | refine EW.get 0 hD rfl rfl rfl rfl ?_)
    refine EW.iastY 9 (6) (mo M P 0 c0 c1 c2 c3 (lg + 1) pc mk en gv ft F w ms (upd (upd (upd (upd (upd (upd (upd B 0 (F 0 j)) 1 (F 2 j)) 2 (F 3 j)) 3 (F 4 e)) 4 (up64 (lg + 1))) 5 (lg + 1).toInt32) 6 0) key mark A H G T S St r I K) hD rfl rfl rfl (by omega) (rfl) (by decide) (by decide) (rfl) ?_
    repeat (first | refine EV.s rfl rfl rfl ?_ | refine EW.get 0 hD rfl rfl rfl rfl ?_)
    refine EW.iastY 9 (7) (mo M P 0 c0 c1 c2 c3 (lg + 1) pc mk en gv ft F w ms (evB F w B (lg + 1) j) key mark A H G T S St r I K) hD rfl rfl rfl (by omega) (rfl) (by decide) (by decide) (by simp only [evB]; rw [hoe, cnI (by omega)]; rfl) ?_
    repeat (first | refine EV.s rfl rfl rfl ?_ | refine EW.get 0 hD rfl rfl rfl rfl ?_)
    refine EW.cvF 0 [0, 7, 9, 10, 16, 17] hD (r_sealA d M (32 * j) 8 _ rfl rfl rfl rfl (by omega) (by decide) (by decide) _ _ key S St hbs (nd_sub hD [0, 7, 9, 10, 16, 17] (by decide) rfl)) rfl rfl rfl rfl rfl (Nat.le_of_ble_eq_true rfl) (Nat.le_of_ble_eq_true rfl) (by rw [← em]; rfl) rfl rfl ?_
    rintro rv os2 ⟨rfl, S', St', rfl⟩
    refine ⟨(mo M P 0 c0 c1 c2 c3 (lg + 1) pc mk en gv ft F w ms (evC F w B key (lg + 1) j) key mark A H G T S' St' r I K), by rw [fx_evC]; rfl, ?_⟩
    repeat refine EV.s rfl rfl rfl ?_
    refine EW.cvF 0 [0, 9, 11, 12, 13, 14, 15, 19, 20] hD (r_tag d M _ rfl rfl rfl rfl rfl rfl _ mark A H G T I K (nd_sub hD [0, 9, 11, 12, 13, 14, 15, 19, 20] (by decide) rfl) hbs) rfl rfl rfl rfl rfl (Nat.le_of_ble_eq_true rfl) (Nat.le_of_ble_eq_true rfl) rfl rfl rfl ?_
    rintro rv os2 ⟨rfl, A1, H1, G1, T1, rfl, hH1⟩
    refine ⟨(mo M P 0 c0 c1 c2 c3 (lg + 1) pc mk en gv ft F w ms (evC F w B key (lg + 1) j) key mark A1 H1 G1 T1 S' St' r I K), rfl, ?_⟩
    repeat refine EV.s rfl rfl rfl ?_
    refine r_mev_c (d + 4) M P 0 c0 c1 c2 c3 (lg + 1) pc mk en gv ft F w ms (evC F w B key (lg + 1) j) key mark A1 H1 G1 T1 S' St' r I K hbs _ _ _ h hD _ (fun ki => ?_) 8 0 rfl _ (cpy0 _ _ _ _).symm _ rfl
    have hB : va_cpy H1 (evC F w B key (lg + 1) j) 0 40 8 = evD F w B K I key mark (lg + 1) j := cpy_ext hH1
    rw [hB]
    repeat (first | refine EV.s rfl rfl rfl ?_ | refine EW.get 0 hD rfl rfl rfl rfl ?_)
    refine EW.cvY 0 [0, 7] (mo M P 0 c0 c1 c2 c3 (lg + 1) pc mk en gv ft F (svW w jv js (lg + 1)) ms (evD F w B K I key mark (lg + 1) j) key mark A1 H1 G1 T1 S' St' r I K) hD (fun h0 => r_setSlot (d + 3) M jv js (lg + 1) _ rfl (by omega) (by omega) (fl32 w) h0 (nd_sub hD [0, 7] (by decide) rfl) hbs) rfl rfl rfl rfl rfl (Nat.le_of_ble_eq_true rfl) (Nat.le_of_ble_eq_true rfl) (rfl) rfl rfl rfl (by rw [svW_fl w jv js _ hjs]; rfl) ?_
    repeat refine EV.s rfl rfl rfl ?_
    refine EW.cvY 0 [0, 1, 2, 3, 4, 5, 6, 7, 8] (mo M P 0 c0 c1 c2 c3 (lg + 1) pc mk en gv ft (clF F j) (upp (svW w jv js (lg + 1)) j (zf ((svW w jv js (lg + 1)) j) 0 32)) (upp ms j (zf (ms j) 0 8)) (evD F w B K I key mark (lg + 1) j) key mark A1 H1 G1 T1 S' St' r I K) hD (fun h0 => r_becC (d + 3) M j _ rfl rfl rfl rfl rfl rfl rfl rfl (by omega) F _ ms h0 (nd_sub hD [0, 1, 2, 3, 4, 5, 6, 7, 8] (by decide) rfl) hbs) rfl rfl rfl rfl rfl (Nat.le_of_ble_eq_true rfl) (Nat.le_of_ble_eq_true rfl) rfl rfl rfl rfl rfl ?_
    have hsv : svW w jv js (lg + 1) j = w j := upp_ne _ _ hne
    rw [hsv]
    repeat refine EV.s rfl rfl rfl ?_
    refine EV.ri rfl rfl ?_
    exact mfin ⟨rfl, 0, pc, A1, H1, G1, T1, S', St', r, rfl⟩ rfl
  refine EW.cvY 0 [0, 1] (mo M P 0 c0 c1 c2 c3 lg pc mk en gv ft F w ms B key mark A H G T S St r I K) hD (fun h0 => r_misOf (d + 3) M P hP _ rfl rfl p 2 (F 0) h0 (nd_sub hD [0, 1] (by decide) rfl)) rfl rfl rfl rfl rfl (Nat.le_of_ble_eq_true rfl) (Nat.le_of_ble_eq_true rfl) rfl rfl rfl rfl rfl ?_
  by_cases h2 : ty P F p 2
  · rw [iso_y h2]
    refine EV.ifT rfl (by decide) ?_
    exact main (Or.inl h2)
  rw [iso_n h2]
  refine EV.ifF rfl (by decide) ?_
  repeat refine EV.s rfl rfl rfl ?_
  refine EW.cvY 0 [0, 1] (mo M P 0 c0 c1 c2 c3 lg pc mk en gv ft F w ms B key mark A H G T S St r I K) hD (fun h0 => r_misOf (d + 3) M P hP _ rfl rfl p 3 (F 0) h0 (nd_sub hD [0, 1] (by decide) rfl)) rfl rfl rfl rfl rfl (Nat.le_of_ble_eq_true rfl) (Nat.le_of_ble_eq_true rfl) rfl rfl rfl rfl rfl ?_
  by_cases h3 : ty P F p 3
  · rw [iso_y h3]
    refine EV.ifF rfl (by decide) ?_
    exact main (Or.inr h3)
  rw [iso_n h3]
  refine EV.ifT rfl (by decide) ?_
  exact no1 (fun z => by rcases z.1 with y | y; exact h2 y; exact h3 y)
end MPJ
