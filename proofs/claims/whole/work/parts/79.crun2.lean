section CRV
variable {bs : Nat} {sa : Nat → Nat}
set_option maxHeartbeats 4000000 in
set_option maxRecDepth 100000 in
theorem c_step_x {B P z : Nat} {F w ms : Nat → Nat → Int32} {h : e_H} {c0 c1 c2 c3 : Int32} {lg : Int64} {o0 o1 o2 o3 : Int32} {Bf D : Nat → Int32} {L : Int32} {hm hs hh : Nat → Int32} {sp : Nat → Option Nat} {L2 : Int32} {gm gs gh key mark X S Bk I K : Nat → Int32} (d : Nat) (hP : P ≤ 40) (hO : cOK bs B P z sa) (e : Nat) (he : e < P) (hsp : ∀ k, k < 32 → sp k = (fat P (F 0) (F 1) (F 2) (nI e) (nI k)).map (fun p => B + 10 + 3 * p)) (t : Nat) (ht : t < P) (h3 : F 0 t ≠ 3) (pc gv : Int32) (r : Nat → Int32) (x : Int32) (hw : Int32) (w' : Nat → Nat → Int32) (r' : Nat → Int32) (pc' gv' ft' : Int32) (hst : stx P F ms e w r pc gv (-1) x = (hw, w', r', pc', gv', ft')) (o : Int32) (ho : o = nI (opc x)) (l4 : Option Value) (E : e_C ⊕ (Option Value × e_H) → Prop) (hE : E (.inr (some (.int hw), wd (cas B z sa) (cos B P z c0 c1 c2 c3 lg o0 gv' ft' o3 Bf D L hm hs hh sp L2 gm gs gh key mark X S Bk I K) (pgH B P F (cxw w' t pc' r') ms h)))) :
    ev_E tbs bs sa (d + 3) t_X2_step E (68, [some (.ref (B + 7)), some (.ref (B + 11 + 3 * t)), some (.ref (B + 12 + 3 * e)), some (.int pc), l4, some (.int x), some (.int (nI (3 + ra x))), some (.int (nI (3 + rb x))), some (.int (nI (3 + rc x))), some (.int (pc + 1))], [.int o], wd (cas B z sa) (cos B P z c0 c1 c2 c3 lg o0 gv (-1) o3 Bf D L hm hs hh sp L2 gm gs gh key mark X S Bk I K) (pgH B P F (cxw w t pc r) ms h)) := by
  have hD := hO.1
  have hbB := hO.2.2.1
  have hra := ra_lt x
  have hrb := rb_lt x
  have hrc := rc_lt x
  have hnt : B + 11 + 3 * t ∉ cas B z sa := hO.2.1 _ (by omega) (by omega)
  rw [stx] at hst
  have go : ∀ (w r gv ft y), hw = -1 → w' = w → r' = r → pc' = y → gv' = gv → ft' = ft → ev_E tbs bs sa (d + 3) t_X2_step E (298, [some (.ref (B + 7)), some (.ref (B + 11 + 3 * t)), some (.ref (B + 12 + 3 * e)), some (.int pc), l4, some (.int x), some (.int (nI (3 + ra x))), some (.int (nI (3 + rb x))), some (.int (nI (3 + rc x))), some (.int y)], [.int y, .int 2, .ref (B + 11 + 3 * t)], wd (cas B z sa) (cos B P z c0 c1 c2 c3 lg o0 gv ft o3 Bf D L hm hs hh sp L2 gm gs gh key mark X S Bk I K) (pgH B P F (cxw w t pc r) ms h)) := by
    intro w r gv ft y q1 q2 q3 q4 q5 q6
    subst q1; subst q2; subst q3; subst q4; subst q5; subst q6
    refine EP.st 2 hnt ht hbB rfl rfl (by decide) ?_
    rw [cxw_pc]
    repeat refine EV.s rfl rfl rfl ?_
    refine EV.ri rfl rfl ?_
    exact hE
  have hk : opc x = 0 ∨ opc x = 1 ∨ opc x = 2 ∨ opc x = 3 ∨ opc x = 4 ∨ opc x = 5 ∨ opc x = 6 ∨ opc x = 7 ∨ opc x = 8 ∨ opc x = 9 ∨ ∃ n, opc x = n + 10 := by
    by_cases c : opc x < 10
    · omega
    · exact Or.inr (Or.inr (Or.inr (Or.inr (Or.inr (Or.inr (Or.inr (Or.inr (Or.inr (Or.inr ⟨opc x - 10, by omega⟩)))))))))
  rcases hk with k | k | k | k | k | k | k | k | k | k | ⟨n, k⟩
  · rw [k] at hst ho
    cases hst
    refine EV.tsw 0 ⟨_, rfl, fun _ _ _ => rfl⟩ ho (by decide) ?_
    repeat refine EV.s rfl rfl rfl ?_
    refine EC.ld (ra x) hnt ht rfl rfl hra ?_
    refine EW.putY 7 (cos B P z c0 c1 c2 c3 lg o0 (r (ra x)) (-1) o3 Bf D L hm hs hh sp L2 gm gs gh key mark X S Bk I K) hD rfl rfl rfl (by omega) (Nat.le_of_ble_eq_true rfl) rfl rfl ?_
    repeat refine EV.s rfl rfl rfl ?_
    refine EV.ri rfl rfl ?_
    exact hE
  · rw [k] at hst ho
    cases hst
    refine EV.tsw 1 ⟨_, rfl, fun _ _ _ => rfl⟩ ho (by decide) ?_
    repeat refine EV.s rfl rfl rfl ?_
    refine EC.st (ra x) hnt ht hbB rfl rfl hra ?_
    repeat refine EV.s rfl rfl rfl ?_
    exact go _ _ _ _ _ rfl rfl rfl rfl rfl rfl
  · rw [k] at hst ho
    cases hst
    refine EV.tsw 2 ⟨_, rfl, fun _ _ _ => rfl⟩ ho (by decide) ?_
    repeat refine EV.s rfl rfl rfl ?_
    refine EC.ld (rb x) hnt ht rfl rfl hrb ?_
    repeat refine EV.s rfl rfl rfl ?_
    refine EC.ld (rc x) hnt ht rfl rfl hrc ?_
    repeat refine EV.s rfl rfl rfl ?_
    refine EC.st (ra x) hnt ht hbB rfl rfl hra ?_
    repeat refine EV.s rfl rfl rfl ?_
    exact go _ _ _ _ _ rfl rfl rfl rfl rfl rfl
  · rw [k] at hst ho
    cases hst
    refine EV.tsw 3 ⟨_, rfl, fun _ _ _ => rfl⟩ ho (by decide) ?_
    repeat refine EV.s rfl rfl rfl ?_
    refine EC.ld (rb x) hnt ht rfl rfl hrb ?_
    repeat refine EV.s rfl rfl rfl ?_
    refine EC.ld (rc x) hnt ht rfl rfl hrc ?_
    repeat refine EV.s rfl rfl rfl ?_
    refine EC.st (ra x) hnt ht hbB rfl rfl hra ?_
    repeat refine EV.s rfl rfl rfl ?_
    exact go _ _ _ _ _ rfl rfl rfl rfl rfl rfl
  · rw [k] at hst ho
    cases hst
    refine EV.tsw 4 ⟨_, rfl, fun _ _ _ => rfl⟩ ho (by decide) ?_
    repeat refine EV.s rfl rfl rfl ?_
    refine EC.ld (rb x) hnt ht rfl rfl hrb ?_
    repeat refine EV.s rfl rfl rfl ?_
    refine EC.ld (rc x) hnt ht rfl rfl hrc ?_
    repeat refine EV.s rfl rfl rfl ?_
    refine EC.st (ra x) hnt ht hbB rfl rfl hra ?_
    repeat refine EV.s rfl rfl rfl ?_
    exact go _ _ _ _ _ rfl rfl rfl rfl rfl rfl
  · rw [k] at hst ho
    refine EV.tsw 5 ⟨_, rfl, fun _ _ _ => rfl⟩ ho (by decide) ?_
    repeat refine EV.s rfl rfl rfl ?_
    refine EC.ld (rb x) hnt ht rfl rfl hrb ?_
    repeat refine EV.s rfl rfl rfl ?_
    cases hq : rcp P F (nI e) (r (rb x) + (x &&& 255)) 1 with
    | none =>
      simp only [hq] at hst
      cases hst
      refine EV.cv rfl rfl ((wd_at (q := 7) hD rfl rfl)) (Nat.le_of_ble_eq_true rfl) (Nat.le_of_ble_eq_true rfl) (c_fetchN (o2 := 0) d hP hO e hsp t (nI (3 + ra x)) (r (rb x) + (x &&& 255)) hq) ?_
      refine EV.ifF rfl (by decide) ?_
      repeat refine EV.s rfl rfl rfl ?_
      refine EV.ri rfl rfl ?_
      exact hE
    | some q =>
      simp only [hq] at hst
      cases hst
      refine EV.cv rfl rfl ((wd_at (q := 7) hD rfl rfl)) (Nat.le_of_ble_eq_true rfl) (Nat.le_of_ble_eq_true rfl) (c_fetchS d hP hO e hsp t ht h3 pc r (ra x) hra (r (rb x) + (x &&& 255)) q hq) ?_
      refine EV.ifT rfl (by decide) ?_
      repeat refine EV.s rfl rfl rfl ?_
      exact go _ _ _ _ _ rfl rfl rfl rfl rfl rfl
  · rw [k] at hst ho
    refine EV.tsw 6 ⟨_, rfl, fun _ _ _ => rfl⟩ ho (by decide) ?_
    repeat refine EV.s rfl rfl rfl ?_
    refine EC.ld (ra x) hnt ht rfl rfl hra ?_
    repeat refine EV.s rfl rfl rfl ?_
    refine EC.ld (rb x) hnt ht rfl rfl hrb ?_
    repeat refine EV.s rfl rfl rfl ?_
    cases hq : rcp P F (nI e) (r (rb x) + (x &&& 255)) 2 with
    | none =>
      simp only [hq] at hst
      cases hst
      refine EV.cv rfl rfl ((wd_at (q := 7) hD rfl rfl)) (Nat.le_of_ble_eq_true rfl) (Nat.le_of_ble_eq_true rfl) (c_storeN (o2 := 0) d hP hO e hsp (r (ra x)) (r (rb x) + (x &&& 255)) hq) ?_
      refine EV.ifF rfl (by decide) ?_
      repeat refine EV.s rfl rfl rfl ?_
      refine EV.ri rfl rfl ?_
      exact hE
    | some q =>
      simp only [hq] at hst
      cases hst
      refine EV.cv rfl rfl ((wd_at (q := 7) hD rfl rfl)) (Nat.le_of_ble_eq_true rfl) (Nat.le_of_ble_eq_true rfl) (c_storeS d hP hO e hsp t ht h3 pc r (r (ra x)) (r (rb x) + (x &&& 255)) q hq) ?_
      refine EV.ifT rfl (by decide) ?_
      repeat refine EV.s rfl rfl rfl ?_
      exact go _ _ _ _ _ rfl rfl rfl rfl rfl rfl
  · rw [k] at hst ho
    cases hst
    refine EV.tsw 7 ⟨_, rfl, fun _ _ _ => rfl⟩ ho (by decide) ?_
    repeat refine EV.s rfl rfl rfl ?_
    refine EC.ld (ra x) hnt ht rfl rfl hra ?_
    by_cases hb : r (ra x) = 0
    · refine EV.ifT rfl (decide_eq_true hb) ?_
      repeat refine EV.s rfl rfl rfl ?_
      exact go _ _ _ _ _ rfl rfl rfl (if_pos hb) rfl rfl
    · refine EV.ifF rfl (decide_eq_false hb) ?_
      repeat refine EV.s rfl rfl rfl ?_
      exact go _ _ _ _ _ rfl rfl rfl (if_neg hb) rfl rfl
  · rw [k] at hst ho
    cases hst
    refine EV.tsw 8 ⟨_, rfl, fun _ _ _ => rfl⟩ ho (by decide) ?_
    repeat refine EV.s rfl rfl rfl ?_
    refine EC.ld (rb x) hnt ht rfl rfl hrb ?_
    repeat refine EV.s rfl rfl rfl ?_
    refine EC.st (ra x) hnt ht hbB rfl rfl hra ?_
    repeat refine EV.s rfl rfl rfl ?_
    exact go _ _ _ _ _ rfl rfl rfl rfl rfl rfl
  · rw [k] at hst ho
    cases hst
    refine EV.tsw 9 ⟨_, rfl, fun _ _ _ => rfl⟩ ho (by decide) ?_
    repeat refine EV.s rfl rfl rfl ?_
    refine EP.ldm (rc x) (hO.2.1 _ (by omega) (by omega)) he rfl (rc_eq x) hrc ?_
    refine EC.st (ra x) hnt ht hbB rfl rfl hra ?_
    repeat refine EV.s rfl rfl rfl ?_
    exact go _ _ _ _ _ rfl rfl rfl rfl rfl rfl
  · have hlt := opc_lt x
    rw [k] at hst ho
    cases hst
    refine EV.tsw (n + 10) ⟨_, rfl, fun _ _ _ => rfl⟩ ho (by omega) ?_
    simp only [List.getD, List.getElem?_cons_succ, List.getElem?_nil, Option.getD_none]
    repeat refine EV.s rfl rfl rfl ?_
    refine EV.ri rfl rfl ?_
    exact hE
set_option maxHeartbeats 4000000 in
set_option maxRecDepth 100000 in
theorem c_step {B P z : Nat} {F w ms : Nat → Nat → Int32} {h : e_H} {c0 c1 c2 c3 : Int32} {lg : Int64} {o0 o1 o2 o3 : Int32} {Bf D : Nat → Int32} {L : Int32} {hm hs hh : Nat → Int32} {sp : Nat → Option Nat} {L2 : Int32} {gm gs gh key mark X S Bk I K : Nat → Int32} (d : Nat) (hP : P ≤ 40) (hO : cOK bs B P z sa) (e : Nat) (he : e < P) (hsp : ∀ k, k < 32 → sp k = (fat P (F 0) (F 1) (F 2) (nI e) (nI k)).map (fun p => B + 10 + 3 * p)) (t : Nat) (ht : t < P) (h3 : F 0 t ≠ 3) (pc gv : Int32) (r : Nat → Int32) (hw : Int32) (w' : Nat → Nat → Int32) (r' : Nat → Int32) (pc' gv' ft' : Int32) (hst : stp P F ms e w r pc gv (-1) = (hw, w', r', pc', gv', ft')) :
    ev_run tbs bs sa (d + 4) 21 [.ref (B + 7), .ref (B + 11 + 3 * t), .ref (B + 12 + 3 * e)] (wd (cas B z sa) (cos B P z c0 c1 c2 c3 lg o0 gv (-1) o3 Bf D L hm hs hh sp L2 gm gs gh key mark X S Bk I K) (pgH B P F (cxw w t pc r) ms h)) (some (.int hw)) (wd (cas B z sa) (cos B P z c0 c1 c2 c3 lg o0 gv' ft' o3 Bf D L hm hs hh sp L2 gm gs gh key mark X S Bk I K) (pgH B P F (cxw w' t pc' r') ms h)) := by
  have hD := hO.1
  have hbB := hO.2.2.1
  have hnt : B + 11 + 3 * t ∉ cas B z sa := hO.2.1 _ (by omega) (by omega)
  rw [stp] at hst
  refine RUN.mk (T := t_X2_step) rfl (Nat.le_of_ble_eq_true rfl) ?_
  repeat refine EV.s rfl rfl rfl ?_
  refine EP.ld 2 hnt ht rfl rfl (by decide) ?_
  rw [cxw_2]
  repeat refine EV.s rfl rfl rfl ?_
  cases hq : rcp P F (nI e) pc 4 with
  | none =>
    rw [hq] at hst
    cases hst
    refine EV.cv rfl rfl ((wd_at (q := 7) hD rfl rfl)) (Nat.le_of_ble_eq_true rfl) (Nat.le_of_ble_eq_true rfl) (c_reachN (o2 := 0) (d + 1) hP hO e hsp pc 4 hq) ?_
    repeat refine EV.s rfl rfl rfl ?_
    refine EV.ri rfl rfl ?_
    rfl
  | some q =>
    simp only [hq] at hst
    have hq' := hq
    obtain ⟨j, hj, rfl, hf, hz⟩ := rcp_some hq
    obtain ⟨hp, hp3, -⟩ := fat_some hf
    have hpt : q ≠ t := by rintro rfl; exact h3 hp3
    have er : nI j - nI j / 32 * 32 = nI (j % 32) := pk_rem (d := 32) (by omega) (by omega) (by omega)
    refine EV.cv rfl rfl ((wd_at (q := 7) hD rfl rfl)) (Nat.le_of_ble_eq_true rfl) (Nat.le_of_ble_eq_true rfl) (c_reachS (d + 1) hP hO e hsp (nI j) 4 q hq') ?_
    repeat refine EV.s rfl rfl rfl ?_
    refine EP.get (k := q) (hO.2.1 _ (by omega) (by omega)) (by omega) rfl rfl ?_
    repeat refine EV.s rfl rfl rfl ?_
    rw [cond_false, er]
    refine EP.ld (j % 32) (hO.2.1 _ (by omega) (by omega)) hp rfl rfl (by omega) ?_
    rw [cxw_ne w (nI j) r hpt]
    rw [nI_clamp (by omega)] at hst
    generalize hxx : w q (j % 32) = x at hst
    repeat refine EV.s rfl rfl rfl ?_
    refine EV.call rfl (r_register (d + 2) (shu x 16) _) ?_
    repeat refine EV.s rfl rfl rfl ?_
    refine EV.call rfl (r_register (d + 2) (shu x 8) _) ?_
    repeat refine EV.s rfl rfl rfl ?_
    refine EV.call rfl (r_register (d + 2) x _) ?_
    repeat refine EV.s rfl rfl rfl ?_
    have key2 : ∀ (A Bq C : Int32), A = nI (3 + ra x) → Bq = nI (3 + rb x) → C = nI (3 + rc x) → ∀ l4 o, o = nI (opc x) → ev_E tbs bs sa (d + 3) t_X2_step (fun y => y = .inr (some (.int hw), wd (cas B z sa) (cos B P z c0 c1 c2 c3 lg o0 gv' ft' o3 Bf D L hm hs hh sp L2 gm gs gh key mark X S Bk I K) (pgH B P F (cxw w' t pc' r') ms h))) (68, [some (.ref (B + 7)), some (.ref (B + 11 + 3 * t)), some (.ref (B + 12 + 3 * e)), some (.int (nI j)), l4, some (.int x), some (.int A), some (.int Bq), some (.int C), some (.int (nI j + 1))], [.int o], wd (cas B z sa) (cos B P z c0 c1 c2 c3 lg o0 gv (-1) o3 Bf D L hm hs hh sp L2 gm gs gh key mark X S Bk I K) (pgH B P F (cxw w t (nI j) r) ms h)) := by
      intro A Bq C hA hB hC l4 o ho
      subst hA; subst hB; subst hC
      exact c_step_x (o1 := 0) (o2 := 0) d hP hO e he hsp t ht h3 (nI j) gv r x hw w' r' pc' gv' ft' hst o ho l4 _ rfl
    have a1 : ∀ k, (3 : Int32) + nI k = nI (3 + k) := fun k => nI_add 3 k
    exact key2 _ _ _ (by rw [ra_u, a1]) (by rw [rb_u, a1]) (by rw [rc_eq, a1]) _ _ (opc_eq x)
end CRV
