/-! The class's Runner. -/
def cx (f : Nat → Int32) (pc : Int32) (r : Nat → Int32) : Nat → Int32 := fun i => if i = 2 then pc else if 3 ≤ i then r (i - 3) else f i
def cxw (w : Nat → Nat → Int32) (t : Nat) (pc : Int32) (r : Nat → Int32) : Nat → Nat → Int32 := upp w t (cx (w t) pc r)
theorem cxw_2 (w : Nat → Nat → Int32) (t : Nat) (pc : Int32) (r : Nat → Int32) : cxw w t pc r t 2 = pc := by
  rw [cxw, upp_at]; rfl
theorem cxw_r (w : Nat → Nat → Int32) (t : Nat) (pc : Int32) (r : Nat → Int32) (k : Nat) : cxw w t pc r t (3 + k) = r k := by
  rw [cxw, upp_at, cx, if_neg (by omega), if_pos (by omega), Nat.add_sub_cancel_left]
theorem cxw_ne (w : Nat → Nat → Int32) {t q : Nat} (pc : Int32) (r : Nat → Int32) (h : q ≠ t) : cxw w t pc r q = w q := upp_ne _ _ h
theorem cxw_pc (w : Nat → Nat → Int32) (t : Nat) (pc : Int32) (r : Nat → Int32) (y : Int32) : upp (cxw w t pc r) t (upd (cxw w t pc r t) 2 y) = cxw w t y r := by
  unfold cxw
  rw [upp2, upp_at]
  congr 1
  funext i
  simp only [upd, cx]
  by_cases e : i = 2
  · rw [if_pos e, if_pos e]
  · rw [if_neg e, if_neg e, if_neg e]
theorem cxw_up (w : Nat → Nat → Int32) (t : Nat) (pc : Int32) (r : Nat → Int32) (k : Nat) (y : Int32) : upp (cxw w t pc r) t (upd (cxw w t pc r t) (3 + k) y) = cxw w t pc (upd r k y) := by
  unfold cxw
  rw [upp2, upp_at]
  congr 1
  funext i
  simp only [upd, cx]
  by_cases e : i = 3 + k
  · rw [if_pos e, if_neg (by omega), if_pos (by omega), if_pos (by omega)]
  · rw [if_neg e]
    by_cases e2 : i = 2
    · rw [if_pos e2, if_pos e2]
    · rw [if_neg e2, if_neg e2]
      by_cases e3 : 3 ≤ i
      · rw [if_pos e3, if_pos e3, if_neg (by omega)]
      · rw [if_neg e3, if_neg e3]
theorem cxw_st (w : Nat → Nat → Int32) {t q : Nat} (pc : Int32) (r f : Nat → Int32) (h : q ≠ t) : upp (cxw w t pc r) q f = cxw (upp w q f) t pc r := by
  unfold cxw
  rw [upp_ne (q := t) (t := q) w f (fun e => h e.symm)]
  funext i
  simp only [upp]
  by_cases e : i = q
  · rw [if_pos e, if_neg (by omega), if_pos e]
  · rw [if_neg e]
    by_cases e2 : i = t
    · rw [if_pos e2, if_pos e2]
    · rw [if_neg e2, if_neg e2, if_neg e]
/-- what a step leaves alone -/
theorem stx_keep {P : Nat} {F ms w w' : Nat → Nat → Int32} {e t : Nat} {r r' : Nat → Int32} {pc gv ft x hw pc' gv' ft' : Int32} (ht : F 0 t ≠ 3) (hs : stx P F ms e w r pc gv ft x = (hw, w', r', pc', gv', ft')) : w' t = w t ∧ (∀ k, 8 ≤ k → r' k = r k) ∧ (hw = -1 → ft' = ft) ∧ hw ≠ 2 := by
  have hra := ra_lt x
  have up : ∀ y : Int32, ∀ k, 8 ≤ k → upd r (ra x) y k = r k := fun y k hk => if_neg (by omega)
  rw [stx] at hs
  split at hs
  · cases hs; exact ⟨rfl, fun _ _ => rfl, fun _ => rfl, by decide⟩
  · cases hs; exact ⟨rfl, up _, fun _ => rfl, by decide⟩
  · cases hs; exact ⟨rfl, up _, fun _ => rfl, by decide⟩
  · cases hs; exact ⟨rfl, up _, fun _ => rfl, by decide⟩
  · cases hs; exact ⟨rfl, up _, fun _ => rfl, by decide⟩
  · split at hs
    · cases hs; exact ⟨rfl, fun _ _ => rfl, fun z => absurd z (by decide), by decide⟩
    · cases hs; exact ⟨rfl, up _, fun _ => rfl, by decide⟩
  · split at hs
    · cases hs; exact ⟨rfl, fun _ _ => rfl, fun z => absurd z (by decide), by decide⟩
    · rename_i q hq
      cases hs
      obtain ⟨j, hj, -, hfat, -⟩ := rcp_some hq
      obtain ⟨-, h3, -⟩ := fat_some hfat
      exact ⟨upp_ne _ _ (by rintro rfl; exact ht h3), fun _ _ => rfl, fun _ => rfl, by decide⟩
  · cases hs; exact ⟨rfl, fun _ _ => rfl, fun _ => rfl, by decide⟩
  · cases hs; exact ⟨rfl, up _, fun _ => rfl, by decide⟩
  · cases hs; exact ⟨rfl, up _, fun _ => rfl, by decide⟩
  · cases hs; exact ⟨rfl, fun _ _ => rfl, fun z => absurd z (by decide), by decide⟩
theorem stp_keep {P : Nat} {F ms w w' : Nat → Nat → Int32} {e t : Nat} {r r' : Nat → Int32} {pc gv ft hw pc' gv' ft' : Int32} (ht : F 0 t ≠ 3) (hs : stp P F ms e w r pc gv ft = (hw, w', r', pc', gv', ft')) : w' t = w t ∧ (∀ k, 8 ≤ k → r' k = r k) ∧ (hw = -1 → ft' = ft) ∧ hw ≠ 2 := by
  rw [stp] at hs
  split at hs
  · cases hs; exact ⟨rfl, fun _ _ => rfl, fun z => absurd z (by decide), by decide⟩
  · exact stx_keep ht hs
theorem rnn_keep {P : Nat} {F ms : Nat → Nat → Int32} {e t : Nat} (ht : F 0 t ≠ 3) {hw : Int32} {w' : Nat → Nat → Int32} {r' : Nat → Int32} {pc' m' gv' ft' : Int32} : ∀ (n : Nat) (w : Nat → Nat → Int32) (r : Nat → Int32) (pc m gv ft : Int32), rnn P F ms e n w r pc m gv ft = (hw, w', r', pc', m', gv', ft') → w' t = w t ∧ (∀ k, 8 ≤ k → r' k = r k) ∧ hw ≠ -1
  | 0, w, r, pc, m, gv, ft, h => by
    rw [rnn] at h; cases h; exact ⟨rfl, fun _ _ => rfl, by decide⟩
  | n + 1, w, r, pc, m, gv, ft, h => by
    rw [rnn] at h
    generalize hst : stp P F ms e w r pc gv ft = x at h
    obtain ⟨a, b, c, p, g, f⟩ := x
    have k := stp_keep ht hst
    simp only at h
    by_cases ha : a = -1
    · rw [if_pos ha] at h
      obtain ⟨k1, k2, k3⟩ := rnn_keep ht n _ _ _ _ _ _ h
      exact ⟨k1.trans k.1, fun q hq => (k2 q hq).trans (k.2.1 q hq), k3⟩
    · rw [if_neg ha] at h
      cases h
      exact ⟨k.1, k.2.1, ha⟩
theorem EV.ra {bs : Nat} {sa : Nat → Nat} {d : Nat} {T : e_M} {E : e_C ⊕ (Option Value × e_H) → Prop} {pc nx x1 x2 : Nat} {v : Value} {ts : List Nat} {lo : e_L} {h : e_H} {x : Nat} {n : String} (hf : ev_fnd T.2 pc = some (.areturn, nx, x1, x2, v, ts)) (hr : T.1.2.2.2.2 = some (.object n)) (k : E (.inr (some (.ref x), h))) : ev_E tbs bs sa d T E (pc, lo, [.ref x], h) := by
  refine EV.ret (v := some (.ref x)) ?_ k
  simp [ev_stp, hf, ev_ins, ev_ret, hr, ev_kd, ev_rk, narrow]
section CRU
variable {bs : Nat} {sa : Nat → Nat}
theorem r_register (d : Nat) (x : Int32) (h : e_H) : ev_run tbs bs sa (d + 1) 22 [.int x] h (some (.int (3 + (x &&& 7)))) h := by
  refine RUN.mk (T := t_X2_register) rfl (Nat.le_of_ble_eq_true rfl) ?_
  repeat refine EV.s rfl rfl rfl ?_
  refine EV.ri rfl rfl ?_
  rfl
set_option maxHeartbeats 1000000 in
set_option maxRecDepth 100000 in
theorem c_reachS {B P z : Nat} {F w ms : Nat → Nat → Int32} {h : e_H} {c0 c1 c2 c3 : Int32} {lg : Int64} {o0 o1 o2 o3 : Int32} {Bf D : Nat → Int32} {L : Int32} {hm hs hh : Nat → Int32} {sp : Nat → Option Nat} {L2 : Int32} {gm gs gh key mark X S Bk I K : Nat → Int32} (d : Nat) (hP : P ≤ 40) (hO : cOK bs B P z sa) (e : Nat) (hsp : ∀ k, k < 32 → sp k = (fat P (F 0) (F 1) (F 2) (nI e) (nI k)).map (fun p => B + 10 + 3 * p)) (a rg : Int32) (p : Nat) (hr : rcp P F (nI e) a rg = some p) :
    ev_run tbs bs sa (d + 2) 25 [.ref (B + 7), .int a, .int rg] (wd (cas B z sa) (cos B P z c0 c1 c2 c3 lg o0 o1 o2 o3 Bf D L hm hs hh sp L2 gm gs gh key mark X S Bk I K) (pgH B P F w ms h)) (some (.ref (B + 10 + 3 * p))) (wd (cas B z sa) (cos B P z c0 c1 c2 c3 lg o0 o1 o2 o3 Bf D L hm hs hh sp L2 gm gs gh key mark X S Bk I K) (pgH B P F w ms h)) := by
  have hD := hO.1
  obtain ⟨j, hj, rfl, hf, hz⟩ := rcp_some hr
  obtain ⟨hp, -⟩ := fat_some hf
  have e32 : nI j / 32 = nI (j / 32) := pk_div (d := 32) (by omega) (by omega) (by omega)
  refine RUN.mk (T := t_X2_reach) rfl (Nat.le_of_ble_eq_true rfl) ?_
  repeat refine EV.s rfl rfl rfl ?_
  refine EV.call rfl (r_isWithin d (nI j) (nI 1024) _) ?_
  rw [if_pos ⟨nI_pos' (by omega), nI_lt hj (by decide)⟩]
  refine EV.ifT rfl (by decide) ?_
  repeat (first | refine EV.s rfl rfl rfl ?_ | refine EW.get 7 hD rfl rfl rfl rfl ?_)
  refine EW.aald 8 (j / 32) hD rfl rfl rfl e32 (by omega) (by decide) ?_
  rw [hsp _ (by omega), hf, show va_rf (Option.map (fun p => B + 10 + 3 * p) (some p)) = Value.ref (B + 10 + 3 * p) from rfl]
  repeat refine EV.s rfl rfl rfl ?_
  refine EP.get (k := p) (hO.2.1 _ (by omega) (by omega)) (by omega) rfl rfl ?_
  repeat refine EV.s rfl rfl rfl ?_
  refine EV.ifT rfl (decide_eq_true hz) ?_
  repeat refine EV.s rfl rfl rfl ?_
  exact EV.ra rfl rfl rfl
set_option maxHeartbeats 1000000 in
set_option maxRecDepth 100000 in
theorem c_reachN {B P z : Nat} {F w ms : Nat → Nat → Int32} {h : e_H} {c0 c1 c2 c3 : Int32} {lg : Int64} {o0 o1 o2 o3 : Int32} {Bf D : Nat → Int32} {L : Int32} {hm hs hh : Nat → Int32} {sp : Nat → Option Nat} {L2 : Int32} {gm gs gh key mark X S Bk I K : Nat → Int32} (d : Nat) (hP : P ≤ 40) (hO : cOK bs B P z sa) (e : Nat) (hsp : ∀ k, k < 32 → sp k = (fat P (F 0) (F 1) (F 2) (nI e) (nI k)).map (fun p => B + 10 + 3 * p)) (a rg : Int32) (hr : rcp P F (nI e) a rg = none) :
    ev_run tbs bs sa (d + 2) 25 [.ref (B + 7), .int a, .int rg] (wd (cas B z sa) (cos B P z c0 c1 c2 c3 lg o0 o1 (-1) o3 Bf D L hm hs hh sp L2 gm gs gh key mark X S Bk I K) (pgH B P F w ms h)) (some .null) (wd (cas B z sa) (cos B P z c0 c1 c2 c3 lg o0 o1 (rft a) o3 Bf D L hm hs hh sp L2 gm gs gh key mark X S Bk I K) (pgH B P F w ms h)) := by
  have hD := hO.1
  have hbB := hO.2.2.1
  refine RUN.mk (T := t_X2_reach) rfl (Nat.le_of_ble_eq_true rfl) ?_
  repeat refine EV.s rfl rfl rfl ?_
  refine EV.call rfl (r_isWithin d a (nI 1024) _) ?_
  rcases rcp_none hr with ⟨hn, hft⟩ | ⟨j, hj, rfl, hft, hf⟩
  · rw [if_neg hn, hft]
    refine EV.ifF rfl (by decide) ?_
    repeat refine EV.s rfl rfl rfl ?_
    refine EV.ret rfl ?_
    rfl
  · have e32 : nI j / 32 = nI (j / 32) := pk_div (d := 32) (by omega) (by omega) (by omega)
    rw [if_pos ⟨nI_pos' (by omega), nI_lt hj (by decide)⟩]
    refine EV.ifT rfl (by decide) ?_
    repeat (first | refine EV.s rfl rfl rfl ?_ | refine EW.get 7 hD rfl rfl rfl rfl ?_)
    refine EW.aald 8 (j / 32) hD rfl rfl rfl e32 (by omega) (by decide) ?_
    rw [hsp _ (by omega), hft]
    cases hq : fat P (F 0) (F 1) (F 2) (nI e) (nI (j / 32)) with
    | none =>
      repeat refine EV.s rfl rfl rfl ?_
      rw [cond_true, e32]
      refine EW.putY 7 (cos B P z c0 c1 c2 c3 lg o0 o1 (nI (j / 32)) o3 Bf D L hm hs hh sp L2 gm gs gh key mark X S Bk I K) hD rfl rfl rfl (by omega) (Nat.le_of_ble_eq_true rfl) rfl rfl ?_
      repeat refine EV.s rfl rfl rfl ?_
      refine EV.ret rfl ?_
      rfl
    | some p =>
      obtain ⟨hp, -⟩ := fat_some hq
      repeat refine EV.s rfl rfl rfl ?_
      refine EP.get (k := p) (hO.2.1 _ (by omega) (by omega)) (by omega) rfl rfl ?_
      repeat refine EV.s rfl rfl rfl ?_
      refine EV.ifF rfl (decide_eq_false (fun q => q (hf p hq))) ?_
      repeat refine EV.s rfl rfl rfl ?_
      rw [cond_true, e32]
      refine EW.putY 7 (cos B P z c0 c1 c2 c3 lg o0 o1 (nI (j / 32)) o3 Bf D L hm hs hh sp L2 gm gs gh key mark X S Bk I K) hD rfl rfl rfl (by omega) (Nat.le_of_ble_eq_true rfl) rfl rfl ?_
      repeat refine EV.s rfl rfl rfl ?_
      refine EV.ret rfl ?_
      rfl
/-- the context's words -/
theorem EC.ld {d : Nat} {T : e_M} {E : e_C ⊕ (Option Value × e_H) → Prop} {pc nx x1 x2 : Nat} {v : Value} {ts : List Nat} {lo : e_L} {rr : List Value} {h : e_H} {as : List Nat} {os : List e_O} {B P t : Nat} {F w ms : Nat → Nat → Int32} {c : Int32} {r : Nat → Int32} {x : Int32} (j : Nat) (hn : B + 11 + 3 * t ∉ as) (ht : t < P) (hf : ev_fnd T.2 pc = some (.iaload, nx, x1, x2, v, ts)) (hi : x = nI (3 + j)) (hj : j < 8) (kk : ev_E tbs bs sa d T E (nx, lo, .int (r j) :: rr, wd as os (pgH B P F (cxw w t c r) ms h))) : ev_E tbs bs sa d T E (pc, lo, .int x :: .ref (B + 11 + 3 * t) :: rr, wd as os (pgH B P F (cxw w t c r) ms h)) := by
  refine EP.ld (3 + j) hn ht hf hi (by omega) ?_
  rw [cxw_r]
  exact kk
theorem EC.st {d : Nat} {T : e_M} {E : e_C ⊕ (Option Value × e_H) → Prop} {pc nx x1 x2 : Nat} {v : Value} {ts : List Nat} {lo : e_L} {rr : List Value} {h : e_H} {as : List Nat} {os : List e_O} {B P t : Nat} {F w ms : Nat → Nat → Int32} {c : Int32} {r : Nat → Int32} {x y : Int32} (j : Nat) (hn : B + 11 + 3 * t ∉ as) (ht : t < P) (hb : bs ≤ B) (hf : ev_fnd T.2 pc = some (.iastore, nx, x1, x2, v, ts)) (hi : x = nI (3 + j)) (hj : j < 8) (kk : ev_E tbs bs sa d T E (nx, lo, rr, wd as os (pgH B P F (cxw w t c (upd r j y)) ms h))) : ev_E tbs bs sa d T E (pc, lo, .int y :: .int x :: .ref (B + 11 + 3 * t) :: rr, wd as os (pgH B P F (cxw w t c r) ms h)) := by
  refine EP.st (3 + j) hn ht hb hf hi (by omega) ?_
  rw [cxw_up]
  exact kk
set_option maxHeartbeats 1000000 in
set_option maxRecDepth 100000 in
theorem c_fetchS {B P z : Nat} {F w ms : Nat → Nat → Int32} {h : e_H} {c0 c1 c2 c3 : Int32} {lg : Int64} {o0 o1 o2 o3 : Int32} {Bf D : Nat → Int32} {L : Int32} {hm hs hh : Nat → Int32} {sp : Nat → Option Nat} {L2 : Int32} {gm gs gh key mark X S Bk I K : Nat → Int32} (d : Nat) (hP : P ≤ 40) (hO : cOK bs B P z sa) (e : Nat) (hsp : ∀ k, k < 32 → sp k = (fat P (F 0) (F 1) (F 2) (nI e) (nI k)).map (fun p => B + 10 + 3 * p)) (t : Nat) (ht : t < P) (h3 : F 0 t ≠ 3) (pc : Int32) (r : Nat → Int32) (k : Nat) (hk : k < 8) (a : Int32) (p : Nat) (hr : rcp P F (nI e) a 1 = some p) :
    ev_run tbs bs sa (d + 3) 23 [.ref (B + 7), .ref (B + 11 + 3 * t), .int (nI (3 + k)), .int a] (wd (cas B z sa) (cos B P z c0 c1 c2 c3 lg o0 o1 o2 o3 Bf D L hm hs hh sp L2 gm gs gh key mark X S Bk I K) (pgH B P F (cxw w t pc r) ms h)) (some (.int 1)) (wd (cas B z sa) (cos B P z c0 c1 c2 c3 lg o0 o1 o2 o3 Bf D L hm hs hh sp L2 gm gs gh key mark X S Bk I K) (pgH B P F (cxw w t pc (upd r k (w p (a.toNatClampNeg % 32)))) ms h)) := by
  have hD := hO.1
  have hbB := hO.2.2.1
  have hr' := hr
  obtain ⟨j, hj, rfl, hf, hz⟩ := rcp_some hr
  obtain ⟨hp, hp3, -⟩ := fat_some hf
  have hpt : p ≠ t := by rintro rfl; exact h3 hp3
  have er : nI j - nI j / 32 * 32 = nI (j % 32) := pk_rem (d := 32) (by omega) (by omega) (by omega)
  rw [nI_clamp (by omega)]
  refine RUN.mk (T := t_X2_fetch) rfl (Nat.le_of_ble_eq_true rfl) ?_
  repeat refine EV.s rfl rfl rfl ?_
  refine EV.cv rfl rfl ((wd_at (q := 7) hD rfl rfl)) (Nat.le_of_ble_eq_true rfl) (Nat.le_of_ble_eq_true rfl) (c_reachS d hP hO e hsp (nI j) 1 p hr') ?_
  repeat refine EV.s rfl rfl rfl ?_
  refine EP.get (k := p) (hO.2.1 _ (by omega) (by omega)) (by omega) rfl rfl ?_
  repeat refine EV.s rfl rfl rfl ?_
  rw [cond_false, er]
  refine EP.ld (j % 32) (hO.2.1 _ (by omega) (by omega)) hp rfl rfl (by omega) ?_
  rw [cxw_ne w pc r hpt]
  refine EC.st k (hO.2.1 _ (by omega) (by omega)) ht hbB rfl rfl hk ?_
  repeat refine EV.s rfl rfl rfl ?_
  refine EV.ret rfl ?_
  rfl
set_option maxHeartbeats 1000000 in
set_option maxRecDepth 100000 in
theorem c_fetchN {B P z : Nat} {F w ms : Nat → Nat → Int32} {h : e_H} {c0 c1 c2 c3 : Int32} {lg : Int64} {o0 o1 o2 o3 : Int32} {Bf D : Nat → Int32} {L : Int32} {hm hs hh : Nat → Int32} {sp : Nat → Option Nat} {L2 : Int32} {gm gs gh key mark X S Bk I K : Nat → Int32} (d : Nat) (hP : P ≤ 40) (hO : cOK bs B P z sa) (e : Nat) (hsp : ∀ k, k < 32 → sp k = (fat P (F 0) (F 1) (F 2) (nI e) (nI k)).map (fun p => B + 10 + 3 * p)) (t : Nat) (k a : Int32) (hr : rcp P F (nI e) a 1 = none) :
    ev_run tbs bs sa (d + 3) 23 [.ref (B + 7), .ref (B + 11 + 3 * t), .int k, .int a] (wd (cas B z sa) (cos B P z c0 c1 c2 c3 lg o0 o1 (-1) o3 Bf D L hm hs hh sp L2 gm gs gh key mark X S Bk I K) (pgH B P F w ms h)) (some (.int 0)) (wd (cas B z sa) (cos B P z c0 c1 c2 c3 lg o0 o1 (rft a) o3 Bf D L hm hs hh sp L2 gm gs gh key mark X S Bk I K) (pgH B P F w ms h)) := by
  have hD := hO.1
  refine RUN.mk (T := t_X2_fetch) rfl (Nat.le_of_ble_eq_true rfl) ?_
  repeat refine EV.s rfl rfl rfl ?_
  refine EV.cv rfl rfl ((wd_at (q := 7) hD rfl rfl)) (Nat.le_of_ble_eq_true rfl) (Nat.le_of_ble_eq_true rfl) (c_reachN (o2 := 0) d hP hO e hsp a 1 hr) ?_
  repeat refine EV.s rfl rfl rfl ?_
  refine EV.ret rfl ?_
  rfl
set_option maxHeartbeats 1000000 in
set_option maxRecDepth 100000 in
theorem c_storeS {B P z : Nat} {F w ms : Nat → Nat → Int32} {h : e_H} {c0 c1 c2 c3 : Int32} {lg : Int64} {o0 o1 o2 o3 : Int32} {Bf D : Nat → Int32} {L : Int32} {hm hs hh : Nat → Int32} {sp : Nat → Option Nat} {L2 : Int32} {gm gs gh key mark X S Bk I K : Nat → Int32} (d : Nat) (hP : P ≤ 40) (hO : cOK bs B P z sa) (e : Nat) (hsp : ∀ k, k < 32 → sp k = (fat P (F 0) (F 1) (F 2) (nI e) (nI k)).map (fun p => B + 10 + 3 * p)) (t : Nat) (ht : t < P) (h3 : F 0 t ≠ 3) (pc : Int32) (r : Nat → Int32) (y : Int32) (a : Int32) (p : Nat) (hr : rcp P F (nI e) a 2 = some p) :
    ev_run tbs bs sa (d + 3) 24 [.ref (B + 7), .int y, .int a] (wd (cas B z sa) (cos B P z c0 c1 c2 c3 lg o0 o1 o2 o3 Bf D L hm hs hh sp L2 gm gs gh key mark X S Bk I K) (pgH B P F (cxw w t pc r) ms h)) (some (.int 1)) (wd (cas B z sa) (cos B P z c0 c1 c2 c3 lg o0 o1 o2 o3 Bf D L hm hs hh sp L2 gm gs gh key mark X S Bk I K) (pgH B P F (cxw (upp w p (upd (w p) (a.toNatClampNeg % 32) y)) t pc r) ms h)) := by
  have hD := hO.1
  have hbB := hO.2.2.1
  have hr' := hr
  obtain ⟨j, hj, rfl, hf, hz⟩ := rcp_some hr
  obtain ⟨hp, hp3, -⟩ := fat_some hf
  have hpt : p ≠ t := by rintro rfl; exact h3 hp3
  have er : nI j - nI j / 32 * 32 = nI (j % 32) := pk_rem (d := 32) (by omega) (by omega) (by omega)
  rw [nI_clamp (by omega)]
  refine RUN.mk (T := t_X2_store) rfl (Nat.le_of_ble_eq_true rfl) ?_
  repeat refine EV.s rfl rfl rfl ?_
  refine EV.cv rfl rfl ((wd_at (q := 7) hD rfl rfl)) (Nat.le_of_ble_eq_true rfl) (Nat.le_of_ble_eq_true rfl) (c_reachS d hP hO e hsp (nI j) 2 p hr') ?_
  repeat refine EV.s rfl rfl rfl ?_
  refine EP.get (k := p) (hO.2.1 _ (by omega) (by omega)) (by omega) rfl rfl ?_
  repeat refine EV.s rfl rfl rfl ?_
  rw [cond_false, er]
  refine EP.st (j % 32) (hO.2.1 _ (by omega) (by omega)) hp hbB rfl rfl (by omega) ?_
  rw [cxw_ne w pc r hpt, cxw_st w pc r _ hpt]
  repeat refine EV.s rfl rfl rfl ?_
  refine EV.ret rfl ?_
  rfl
set_option maxHeartbeats 1000000 in
set_option maxRecDepth 100000 in
theorem c_storeN {B P z : Nat} {F w ms : Nat → Nat → Int32} {h : e_H} {c0 c1 c2 c3 : Int32} {lg : Int64} {o0 o1 o2 o3 : Int32} {Bf D : Nat → Int32} {L : Int32} {hm hs hh : Nat → Int32} {sp : Nat → Option Nat} {L2 : Int32} {gm gs gh key mark X S Bk I K : Nat → Int32} (d : Nat) (hP : P ≤ 40) (hO : cOK bs B P z sa) (e : Nat) (hsp : ∀ k, k < 32 → sp k = (fat P (F 0) (F 1) (F 2) (nI e) (nI k)).map (fun p => B + 10 + 3 * p)) (y a : Int32) (hr : rcp P F (nI e) a 2 = none) :
    ev_run tbs bs sa (d + 3) 24 [.ref (B + 7), .int y, .int a] (wd (cas B z sa) (cos B P z c0 c1 c2 c3 lg o0 o1 (-1) o3 Bf D L hm hs hh sp L2 gm gs gh key mark X S Bk I K) (pgH B P F w ms h)) (some (.int 0)) (wd (cas B z sa) (cos B P z c0 c1 c2 c3 lg o0 o1 (rft a) o3 Bf D L hm hs hh sp L2 gm gs gh key mark X S Bk I K) (pgH B P F w ms h)) := by
  have hD := hO.1
  refine RUN.mk (T := t_X2_store) rfl (Nat.le_of_ble_eq_true rfl) ?_
  repeat refine EV.s rfl rfl rfl ?_
  refine EV.cv rfl rfl ((wd_at (q := 7) hD rfl rfl)) (Nat.le_of_ble_eq_true rfl) (Nat.le_of_ble_eq_true rfl) (c_reachN (o2 := 0) d hP hO e hsp a 2 hr) ?_
  repeat refine EV.s rfl rfl rfl ?_
  refine EV.ret rfl ?_
  rfl
end CRU
