def al8 (r r2 : Nat → Int32) : Prop := ∀ k, k < 8 → r k = r2 k
theorem al8_upd {r r2 : Nat → Int32} (h : al8 r r2) (i : Nat) (x : Int32) : al8 (upd r i x) (upd r2 i x) := by
  intro k hk
  simp only [upd]
  by_cases e : k = i
  · rw [if_pos e, if_pos e]
  · rw [if_neg e, if_neg e, h k hk]
theorem opc_cases (x : Int32) : opc x = 0 ∨ opc x = 1 ∨ opc x = 2 ∨ opc x = 3 ∨ opc x = 4 ∨ opc x = 5 ∨ opc x = 6 ∨ opc x = 7 ∨ opc x = 8 ∨ opc x = 9 ∨ ∃ n, opc x = n + 10 := by
  by_cases c : opc x < 10
  · omega
  · exact Or.inr (Or.inr (Or.inr (Or.inr (Or.inr (Or.inr (Or.inr (Or.inr (Or.inr (Or.inr ⟨opc x - 10, by omega⟩)))))))))
theorem stx_al {P : Nat} {F ms : Nat → Nat → Int32} {e : Nat} {w : Nat → Nat → Int32} {r r2 : Nat → Int32} {pc gv ft x : Int32} (h : al8 r r2) : ∃ hw w' pc' gv' ft' r' r2', stx P F ms e w r pc gv ft x = (hw, w', r', pc', gv', ft') ∧ stx P F ms e w r2 pc gv ft x = (hw, w', r2', pc', gv', ft') ∧ al8 r' r2' := by
  have ha := h _ (ra_lt x)
  have hb := h _ (rb_lt x)
  have hc := h _ (rc_lt x)
  unfold stx
  rw [ha, hb, hc]
  rcases opc_cases x with k | k | k | k | k | k | k | k | k | k | ⟨n, k⟩ <;> rw [k]
  · exact ⟨_, _, _, _, _, _, _, rfl, rfl, h⟩
  · exact ⟨_, _, _, _, _, _, _, rfl, rfl, al8_upd h _ _⟩
  · exact ⟨_, _, _, _, _, _, _, rfl, rfl, al8_upd h _ _⟩
  · exact ⟨_, _, _, _, _, _, _, rfl, rfl, al8_upd h _ _⟩
  · exact ⟨_, _, _, _, _, _, _, rfl, rfl, al8_upd h _ _⟩
  · cases rcp P F (nI e) (r2 (rb x) + (x &&& 255)) 1 with
    | none => exact ⟨_, _, _, _, _, _, _, rfl, rfl, h⟩
    | some q => exact ⟨_, _, _, _, _, _, _, rfl, rfl, al8_upd h _ _⟩
  · cases rcp P F (nI e) (r2 (rb x) + (x &&& 255)) 2 with
    | none => exact ⟨_, _, _, _, _, _, _, rfl, rfl, h⟩
    | some q => exact ⟨_, _, _, _, _, _, _, rfl, rfl, h⟩
  · exact ⟨_, _, _, _, _, _, _, rfl, rfl, h⟩
  · exact ⟨_, _, _, _, _, _, _, rfl, rfl, al8_upd h _ _⟩
  · exact ⟨_, _, _, _, _, _, _, rfl, rfl, al8_upd h _ _⟩
  · exact ⟨_, _, _, _, _, _, _, rfl, rfl, h⟩
theorem stp_al {P : Nat} {F ms : Nat → Nat → Int32} {e : Nat} {w : Nat → Nat → Int32} {r r2 : Nat → Int32} {pc gv ft : Int32} (h : al8 r r2) : ∃ hw w' pc' gv' ft' r' r2', stp P F ms e w r pc gv ft = (hw, w', r', pc', gv', ft') ∧ stp P F ms e w r2 pc gv ft = (hw, w', r2', pc', gv', ft') ∧ al8 r' r2' := by
  unfold stp
  cases rcp P F (nI e) pc 4 with
  | none => exact ⟨_, _, _, _, _, _, _, rfl, rfl, h⟩
  | some q => exact stx_al h
theorem rnn_al {P : Nat} {F ms : Nat → Nat → Int32} {e : Nat} : ∀ (n : Nat) (w : Nat → Nat → Int32) (r r2 : Nat → Int32) (pc m gv ft : Int32), al8 r r2 → ∃ hw w' pc' m' gv' ft' r' r2', rnn P F ms e n w r pc m gv ft = (hw, w', r', pc', m', gv', ft') ∧ rnn P F ms e n w r2 pc m gv ft = (hw, w', r2', pc', m', gv', ft') ∧ al8 r' r2'
  | 0, w, r, r2, pc, m, gv, ft, h => ⟨_, _, _, _, _, _, _, _, rfl, rfl, h⟩
  | n + 1, w, r, r2, pc, m, gv, ft, h => by
    obtain ⟨hw, w1, pc1, gv1, ft1, r1, r21, e1, e2, h1⟩ := stp_al (P := P) (F := F) (ms := ms) (e := e) (w := w) (pc := pc) (gv := gv) (ft := ft) h
    simp only [rnn, e1, e2]
    by_cases c : hw = -1
    · rw [if_pos c, if_pos c]; exact rnn_al n w1 r1 r21 pc1 (m + 1) gv1 ft1 h1
    · rw [if_neg c, if_neg c]; exact ⟨_, _, _, _, _, _, _, _, rfl, rfl, h1⟩
theorem rnf_al {w : Nat → Nat → Int32} {t : Nat} {hw pc : Int32} {r r2 : Nat → Int32} (h : al8 r r2) : rnf w t hw pc r = rnf w t hw pc r2 := by
  unfold rnf rnk
  congr 1
  funext i
  by_cases c : 3 ≤ i ∧ i < 3 + 8
  · rw [if_pos c, if_pos c, h (i - 3) (by omega)]
  · rw [if_neg c, if_neg c]
section MPE
variable {bs : Nat} {sa : Nat → Nat}
theorem r_becC (d M p : Nat) (fs : List Value) (h2 : fs[2]? = some (.ref (M + 1))) (h3 : fs[3]? = some (.ref (M + 2))) (h4 : fs[4]? = some (.ref (M + 3))) (h5 : fs[5]? = some (.ref (M + 4))) (h6 : fs[6]? = some (.ref (M + 5))) (h7 : fs[7]? = some (.ref (M + 6))) (h8 : fs[8]? = some (.ref (M + 7))) (h9 : fs[9]? = some (.ref (M + 8))) (hp : p < 40) (F w ms : Nat → Nat → Int32) (h : e_H) (hD : [M, M + 1, M + 2, M + 3, M + 4, M + 5, M + 6, M + 7, M + 8].Nodup) (hb : bs ≤ M) :
    ev_run tbs bs sa (d + 1) 80 [.ref M, .int (nI p), .int 0] (wd [M, M + 1, M + 2, M + 3, M + 4, M + 5, M + 6, M + 7, M + 8] [.inl (5, fs), .inr (.inl (40, F 0)), .inr (.inl (40, F 1)), .inr (.inl (40, F 2)), .inr (.inl (40, F 3)), .inr (.inl (40, F 4)), .inr (.inl (40, F 5)), .inr (.inl (1280, fl32 w)), .inr (.inl (320, fl8 ms))] h) none
      (wd [M, M + 1, M + 2, M + 3, M + 4, M + 5, M + 6, M + 7, M + 8] [.inl (5, fs), .inr (.inl (40, upd (F 0) p 0)), .inr (.inl (40, upd (F 1) p (-1))), .inr (.inl (40, upd (F 2) p 0)), .inr (.inl (40, upd (F 3) p 0)), .inr (.inl (40, upd (F 4) p 0)), .inr (.inl (40, upd (F 5) p 0)), .inr (.inl (1280, fl32 (upp w p (zf (w p) 0 32)))), .inr (.inl (320, fl8 (upp ms p (zf (ms p) 0 8))))] h) := by
  have q := r_becomes (bs := bs) (sa := sa) d M p 0 fs h2 h3 h4 h5 h6 h7 h8 h9 hp (F 0) (F 1) (F 2) (F 3) (F 4) (F 5) (fl32 w) (fl8 ms) h hD hb
  rw [zf32c, zf8c] at q
  exact q
set_option maxHeartbeats 2000000 in
set_option maxRecDepth 100000 in
theorem m_remove (d M P : Nat) (hP : P ≤ 40) (key mark I K : Nat → Int32) (hbs : bs ≤ M) (hD : (mas M sa).Nodup) (s : zS) (hI : Iv P s) (o : List e_O) (ho : mS M P key mark I K s o) (p : Int32) :
    CT bs sa (d + 2) 91 [.ref M, .int p] (mas M sa) o (fun rv o' => rv = some (.int (q_remove P p s).1) ∧ mS M P key mark I K (q_remove P p s).2 o') := by
  obtain ⟨F, w, ms, B, lg, ⟨c0, c1, c2, c3⟩, ⟨en, gv, ft, mk⟩⟩ := s; obtain ⟨th, pc, A, H, G, T, S, St, r, rfl⟩ := ho
  refine CT.mk (T := t_X5_remove) rfl (Nat.le_of_ble_eq_true rfl) (fun h => ?_)
  repeat refine EV.s rfl rfl rfl ?_
  refine EW.putY 0 (mo M P 0 c0 c1 c2 c3 lg pc mk en gv ft F w ms B key mark A H G T S St r I K) hD rfl rfl rfl hbs (Nat.le_of_ble_eq_true rfl) rfl rfl ?_
  repeat refine EV.s rfl rfl rfl ?_
  have no : ¬ (inI p P ∧ F 0 (cn p) ≠ 0) → ev_E tbs bs sa (d + 1) t_X5_remove (fun y => ∃ v h', y = .inr (v, h') ∧ ∃ os2, ((v = some (.int (q_remove P p (F, w, ms, B, lg, (c0, c1, c2, c3), (en, gv, ft, mk))).1) ∧ mS M P key mark I K (q_remove P p (F, w, ms, B, lg, (c0, c1, c2, c3), (en, gv, ft, mk))).2 os2) ∧ os2.length = (mas M sa).length) ∧ h' = wd (mas M sa) os2 h) (26, [some (.ref M), some (.int p)], [], wd (mas M sa) (mo M P 0 c0 c1 c2 c3 lg pc mk en gv ft F w ms B key mark A H G T S St r I K) h) := by
    intro hn
    have hq : q_remove P p (F, w, ms, B, lg, (c0, c1, c2, c3), (en, gv, ft, mk)) = _ := if_neg hn
    rw [hq]
    repeat refine EV.s rfl rfl rfl ?_
    refine EV.ri rfl rfl ?_
    exact mfin ⟨rfl, 0, pc, A, H, G, T, S, St, r, rfl⟩ rfl
  by_cases hp : inI p P
  rotate_left
  · refine EV.ifc rfl (fun hb => ?_) (fun hb => ?_)
    · exact no (fun z => hp z.1)
    · repeat (first | refine EV.s rfl rfl rfl ?_ | refine EW.get 0 hD rfl rfl rfl rfl ?_)
      refine EV.icm rfl (fun hc => ?_) (fun hc => ?_)
      · exact no (fun z => hp z.1)
      · exact absurd ⟨Int32.not_lt.mp (of_decide_eq_false hb), Int32.not_le.mp (of_decide_eq_false hc)⟩ hp
  have hp' := hp
  obtain ⟨j, hj, rfl⟩ := in_nI (by omega) hp
  refine EV.ifF rfl (decide_eq_false (nI_pos (by omega))) ?_
  repeat (first | refine EV.s rfl rfl rfl ?_ | refine EW.get 0 hD rfl rfl rfl rfl ?_)
  refine EV.icF rfl (decide_eq_false (nI_ge hj (by omega))) ?_
  repeat (first | refine EV.s rfl rfl rfl ?_ | refine EW.get 0 hD rfl rfl rfl rfl ?_)
  refine EW.iald 1 (j) hD rfl rfl rfl (rfl) (by omega) (by decide) ?_
  by_cases h0 : F 0 j = 0
  · refine EV.ifF rfl (decide_eq_false (fun z => z h0)) ?_
    exact no (fun z => z.2 (by rw [cnI (by omega)]; exact h0))
  refine EV.ifT rfl (decide_eq_true h0) ?_
  have h0' : inI (nI j) P ∧ F 0 (cn (nI j)) ≠ 0 := ⟨hp', by rw [cnI (by omega)]; exact h0⟩
  clear no
  have ret2 : ¬ rmv P F (nI j) → ∀ pc2, pc2 = 53 ∨ pc2 = 83 → ev_E tbs bs sa (d + 1) t_X5_remove (fun y => ∃ v h', y = .inr (v, h') ∧ ∃ os2, ((v = some (.int (q_remove P (nI j) (F, w, ms, B, lg, (c0, c1, c2, c3), (en, gv, ft, mk))).1) ∧ mS M P key mark I K (q_remove P (nI j) (F, w, ms, B, lg, (c0, c1, c2, c3), (en, gv, ft, mk))).2 os2) ∧ os2.length = (mas M sa).length) ∧ h' = wd (mas M sa) os2 h) (pc2, [some (.ref M), some (.int (nI j))], [], wd (mas M sa) (mo M P 0 c0 c1 c2 c3 lg pc mk en gv ft F w ms B key mark A H G T S St r I K) h) := by
    intro hn pc2 hpc
    have hq : q_remove P (nI j) (F, w, ms, B, lg, (c0, c1, c2, c3), (en, gv, ft, mk)) = _ := (if_pos h0').trans (if_neg hn)
    rw [hq]
    rcases hpc with rfl | rfl
    · repeat refine EV.s rfl rfl rfl ?_
      refine EV.ri rfl rfl ?_
      exact mfin ⟨rfl, 0, pc, A, H, G, T, S, St, r, rfl⟩ rfl
    · repeat refine EV.s rfl rfl rfl ?_
      refine EV.ri rfl rfl ?_
      exact mfin ⟨rfl, 0, pc, A, H, G, T, S, St, r, rfl⟩ rfl
  have done : rmv P F (nI j) → ev_E tbs bs sa (d + 1) t_X5_remove (fun y => ∃ v h', y = .inr (v, h') ∧ ∃ os2, ((v = some (.int (q_remove P (nI j) (F, w, ms, B, lg, (c0, c1, c2, c3), (en, gv, ft, mk))).1) ∧ mS M P key mark I K (q_remove P (nI j) (F, w, ms, B, lg, (c0, c1, c2, c3), (en, gv, ft, mk))).2 os2) ∧ os2.length = (mas M sa).length) ∧ h' = wd (mas M sa) os2 h) (85, [some (.ref M), some (.int (nI j))], [], wd (mas M sa) (mo M P 0 c0 c1 c2 c3 lg pc mk en gv ft F w ms B key mark A H G T S St r I K) h) := by
    intro hn
    have hq : q_remove P (nI j) (F, w, ms, B, lg, (c0, c1, c2, c3), (en, gv, ft, mk)) = _ := (if_pos h0').trans (if_pos hn)
    rw [hq, cnI (by omega)]
    repeat refine EV.s rfl rfl rfl ?_
    refine EW.cvY 0 [0, 1, 2, 3, 4, 5, 6, 7, 8] (mo M P 0 c0 c1 c2 c3 lg pc mk en gv ft (clF F j) (upp w j (zf (w j) 0 32)) (upp ms j (zf (ms j) 0 8)) B key mark A H G T S St r I K) hD (fun h0 => r_becC d M j _ rfl rfl rfl rfl rfl rfl rfl rfl (by omega) F w ms h0 (nd_sub hD [0, 1, 2, 3, 4, 5, 6, 7, 8] (by decide) rfl) hbs) rfl rfl rfl rfl rfl (Nat.le_of_ble_eq_true rfl) (Nat.le_of_ble_eq_true rfl) rfl rfl rfl rfl rfl ?_
    repeat refine EV.s rfl rfl rfl ?_
    refine EV.ri rfl rfl ?_
    exact mfin ⟨rfl, 0, pc, A, H, G, T, S, St, r, rfl⟩ rfl
  obtain ⟨-, i2, i3, i4, -, -⟩ := hI j hj
  repeat (first | refine EV.s rfl rfl rfl ?_ | refine EW.get 0 hD rfl rfl rfl rfl ?_)
  refine EW.iald 2 (j) hD rfl rfl rfl (rfl) (by omega) (by decide) ?_
  repeat refine EV.s rfl rfl rfl ?_
  by_cases h23 : F 0 j = 2 ∨ F 0 j = 3
  · obtain ⟨e, he, hoe, hte⟩ := i3 h23
    have hoe : F 1 j = nI e := hoe
    have hte : F 0 e = 1 := hte
    have n1 : F 0 j ≠ 1 := by rcases h23 with z | z <;> rw [z] <;> decide
    have n4 : F 0 j ≠ 4 := by rcases h23 with z | z <;> rw [z] <;> decide
    rw [hoe]
    refine EV.icF rfl (decide_eq_false (m1_nI (by omega))) ?_
    repeat (first | refine EV.s rfl rfl rfl ?_ | refine EW.get 0 hD rfl rfl rfl rfl ?_)
    refine EW.iald 2 (j) hD rfl rfl rfl (rfl) (by omega) (by decide) ?_
    rw [hoe]
    refine EW.iald 6 (e) hD rfl rfl rfl (rfl) (by omega) (by decide) ?_
    repeat refine EV.s rfl rfl rfl ?_
    have hr : rmv P F (nI j) ↔ F 5 e = 2 := by
      unfold rmv
      rw [cnI (by omega), if_neg n1, hoe, cnI (by omega)]
      constructor
      · intro z
        rcases z with z | z
        · exact absurd z n4
        · exact z.2
      · intro z
        exact Or.inr ⟨⟨nI_pos' (by omega), nI_lt he (by omega), by rw [cnI (by omega)]; exact hte⟩, z⟩
    by_cases h5 : F 5 e = 2
    · refine EV.icT rfl (decide_eq_true h5) ?_
      repeat (first | refine EV.s rfl rfl rfl ?_ | refine EW.get 0 hD rfl rfl rfl rfl ?_)
      refine EW.iald 1 (j) hD rfl rfl rfl (rfl) (by omega) (by decide) ?_
      repeat refine EV.s rfl rfl rfl ?_
      refine EV.icT rfl (decide_eq_true n1) ?_
      exact done (hr.mpr h5)
    · refine EV.icF rfl (decide_eq_false h5) ?_
      exact ret2 (fun z => h5 (hr.mp z)) 53 (Or.inl rfl)
  · have n2 : F 0 j ≠ 2 := fun z => h23 (Or.inl z)
    have n3 : F 0 j ≠ 3 := fun z => h23 (Or.inr z)
    have ho : F 1 j = -1 := i4 n2 n3
    rw [ho]
    refine EV.icT rfl (by decide) ?_
    repeat (first | refine EV.s rfl rfl rfl ?_ | refine EW.get 0 hD rfl rfl rfl rfl ?_)
    refine EW.iald 1 (j) hD rfl rfl rfl (rfl) (by omega) (by decide) ?_
    repeat refine EV.s rfl rfl rfl ?_
    by_cases h1 : F 0 j = 1
    · have hr : rmv P F (nI j) ↔ F 5 j = 2 ∧ cnt (F 1) (nI j) P = 0 := by
        unfold rmv
        rw [cnI (by omega), if_pos h1]
      refine EV.icF rfl (decide_eq_false (fun z => z h1)) ?_
      repeat (first | refine EV.s rfl rfl rfl ?_ | refine EW.get 0 hD rfl rfl rfl rfl ?_)
      refine EW.iald 6 (j) hD rfl rfl rfl (rfl) (by omega) (by decide) ?_
      repeat refine EV.s rfl rfl rfl ?_
      by_cases h5 : F 5 j = 2
      · refine EV.icF rfl (decide_eq_false (fun z => z h5)) ?_
        repeat refine EV.s rfl rfl rfl ?_
        refine EW.cvY 0 [0, 2] (mo M P 0 c0 c1 c2 c3 lg pc mk en gv ft F w ms B key mark A H G T S St r I K) hD (fun h0 => r_mowned d M P hP _ rfl rfl (nI j) (F 1) h0 (nd_sub hD [0, 2] (by decide) rfl)) rfl rfl rfl rfl rfl (Nat.le_of_ble_eq_true rfl) (Nat.le_of_ble_eq_true rfl) rfl rfl rfl rfl rfl ?_
        by_cases hc : cnt (F 1) (nI j) P = 0
        · refine EV.ifT rfl (decide_eq_true ((cnt_le0 _ _ hP).mpr hc)) ?_
          exact done (hr.mpr ⟨h5, hc⟩)
        · refine EV.ifF rfl (decide_eq_false (fun z => hc ((cnt_le0 _ _ hP).mp z))) ?_
          exact ret2 (fun z => hc (hr.mp z).2) 83 (Or.inr rfl)
      · refine EV.icT rfl (decide_eq_true h5) ?_
        exact ret2 (fun z => h5 (hr.mp z).1) 83 (Or.inr rfl)
    · refine EV.icT rfl (decide_eq_true h1) ?_
      have h4 : F 0 j = 4 := by
        rcases i2 with z | z | z | z | z
        · exact absurd z h0
        · exact absurd z h1
        · exact absurd z n2
        · exact absurd z n3
        · exact z
      refine done ?_
      unfold rmv
      rw [cnI (by omega), if_neg h1]
      exact Or.inl h4
end MPE
