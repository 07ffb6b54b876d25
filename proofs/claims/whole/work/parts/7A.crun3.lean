theorem EW.aastY {bs : Nat} {sa : Nat → Nat} {d : Nat} {T : e_M} {E : e_C ⊕ (Option Value × e_H) → Prop} {pc nx x1 x2 : Nat} {v : Value} {ts : List Nat} {lo : e_L} {r : List Value} {h : e_H} {as : List Nat} {os : List e_O} {a b n : Nat} {f : Nat → Option Nat} {fs : List Value} {i : Int32} (q j : Nat) (os' : List e_O) (hD : as.Nodup) (hf : ev_fnd T.2 pc = some (.aastore, nx, x1, x2, v, ts)) (h1 : as[q]? = some a) (h2 : os[q]? = some (.inr (.inr (.inr (n, f))))) (hp : (wd as os h).1 b = some (.inl (1, fs))) (hb : bs ≤ a) (hi : i = nI j) (hj : j < n) (hn : n < 2 ^ 31) (hq : q < os.length) (he : os.set q (.inr (.inr (.inr (n, va_up f j (some b))))) = os') (k : ev_E tbs bs sa d T E (nx, lo, r, wd as os' h)) : ev_E tbs bs sa d T E (pc, lo, .ref b :: .int i :: .ref a :: r, wd as os h) := by
  refine EV.aast hf (wd_at hD h1 h2) hp hb hi hj hn ?_
  rw [wd_up hD h1 hq, he]
  exact k
theorem EW.aastNY {bs : Nat} {sa : Nat → Nat} {d : Nat} {T : e_M} {E : e_C ⊕ (Option Value × e_H) → Prop} {pc nx x1 x2 : Nat} {v : Value} {ts : List Nat} {lo : e_L} {r : List Value} {h : e_H} {as : List Nat} {os : List e_O} {a n : Nat} {f : Nat → Option Nat} {i : Int32} (q j : Nat) (os' : List e_O) (hD : as.Nodup) (hf : ev_fnd T.2 pc = some (.aastore, nx, x1, x2, v, ts)) (h1 : as[q]? = some a) (h2 : os[q]? = some (.inr (.inr (.inr (n, f))))) (hb : bs ≤ a) (hi : i = nI j) (hj : j < n) (hn : n < 2 ^ 31) (hq : q < os.length) (he : os.set q (.inr (.inr (.inr (n, va_up f j none)))) = os') (k : ev_E tbs bs sa d T E (nx, lo, r, wd as os' h)) : ev_E tbs bs sa d T E (pc, lo, .null :: .int i :: .ref a :: r, wd as os h) := by
  refine EV.aastN hf (wd_at hD h1 h2) hb hi hj hn ?_
  rw [wd_up hD h1 hq, he]
  exact k
theorem rnf_n0 {w : Nat → Nat → Int32} {t : Nat} {hw pc : Int32} {r : Nat → Int32} (h8 : ∀ k, 8 ≤ k → r k = w t (3 + k)) (h0 : hw ≠ 0) : upp (cxw w t pc r) t (upd (cxw w t pc r t) 1 1) = rnf w t hw pc r := by
  unfold rnf rnk cxw
  simp only [upp2, upp_at]
  congr 1
  funext i
  simp only [upd, cx]
  rw [if_neg h0, if_neg h0, if_neg h0]
  by_cases e1 : i = 1
  · rw [if_pos e1, if_neg (by omega), if_neg (by omega), if_pos e1]
  rw [if_neg e1]
  by_cases e2 : i = 2
  · rw [if_pos e2, if_neg (by omega), if_pos e2]
  rw [if_neg e2, if_neg e2, if_neg e1]
  by_cases e3 : 3 ≤ i
  · rw [if_pos e3]
    by_cases e4 : i < 11
    · rw [if_pos (by omega)]
    · rw [if_neg (by omega), h8 _ (by omega), show 3 + (i - 3) = i by omega]
  · rw [if_neg e3, if_neg (by omega)]
theorem rnf_0 {w : Nat → Nat → Int32} {t : Nat} {hw pc : Int32} {r : Nat → Int32} (h8 : ∀ k, 8 ≤ k → r k = w t (3 + k)) (h0 : hw = 0) : upp (cxw w t pc r) t (zf (upd (cxw w t pc r t) 1 1) 1 11) = rnf w t hw pc r := by
  unfold rnf rnk cxw
  simp only [upp2, upp_at]
  congr 1
  funext i
  simp only [upd, cx, zf]
  rw [if_pos h0, if_pos h0, if_pos h0]
  by_cases e1 : 1 ≤ i ∧ i < 11
  · rw [if_pos e1]
    by_cases e3 : 3 ≤ i
    · rw [if_pos (by omega)]
    · rw [if_neg (by omega)]
      by_cases e2 : i = 2
      · rw [if_pos e2]
      · rw [if_neg e2, if_pos (by omega)]
  · rw [if_neg e1]
    by_cases e0 : i = 0
    · subst e0; rfl
    rw [if_neg (show ¬ i = 1 by omega), if_neg (show ¬ i = 2 by omega), if_neg (show ¬ (3 ≤ i ∧ i < 3 + 8) by omega), if_neg (show ¬ i = 2 by omega), if_neg (show ¬ i = 1 by omega)]
    by_cases e3 : 3 ≤ i
    · rw [if_pos e3, h8 _ (by omega), show 3 + (i - 3) = i by omega]
    · rw [if_neg e3]
section CRW
variable {bs : Nat} {sa : Nat → Nat}
theorem r_forget_loop (d a g : Nat) (f : Nat → Int32) (h : e_H) (hb : bs ≤ g) (E : e_C ⊕ (Option Value × e_H) → Prop) (hK : E (.inr (none, wd [g] [.inr (.inl (32, zf f 1 11))] h))) :
    ∀ (c k : Nat), k + c = 11 → 1 ≤ k → ∀ Z, Z = zf f 1 k → ∀ ki, ki = nI k → ev_E tbs bs sa d t_X2_forget E (5, [some (.ref a), some (.ref g), some (.int ki)], [.int 11, .int ki], wd [g] [.inr (.inl (32, Z))] h) := by
  have hD : [g].Nodup := by simp
  intro c
  induction c with
  | zero =>
    intro k hk h1 Z hZ ki hki
    have e : k = 11 := by omega
    subst e; subst hZ; subst hki
    refine EV.icT rfl (by decide) ?_
    refine EV.ret rfl ?_
    exact hK
  | succ c ih =>
    intro k hk h1 Z hZ ki hki
    subst hki; subst hZ
    refine EV.icF rfl (decide_eq_false (nI_ge (b := 11) (by omega) (by decide))) ?_
    repeat refine EV.s rfl rfl rfl ?_
    refine EW.iast 0 k hD rfl rfl rfl hb rfl (by omega) (by decide) ?_
    try simp only [setm, List.set_cons_succ, List.set_cons_zero, Option.toList, List.nil_append, List.cons_append]
    repeat refine EV.s rfl rfl rfl ?_
    exact ih (k + 1) (by omega) (by omega) _ (zf_s f h1).symm _ (nI_1 k)
theorem r_forget (d a g : Nat) (f : Nat → Int32) (h : e_H) (hb : bs ≤ g) : ev_run tbs bs sa (d + 1) 20 [.ref a, .ref g] (wd [g] [.inr (.inl (32, f))] h) none (wd [g] [.inr (.inl (32, zf f 1 11))] h) := by
  refine RUN.mk (T := t_X2_forget) rfl (Nat.le_of_ble_eq_true rfl) ?_
  repeat refine EV.s rfl rfl rfl ?_
  refine r_forget_loop d a g f h hb _ ?_ 10 1 (by omega) (by omega) _ (zf_0 f 1).symm _ rfl
  rfl
theorem c_forget {d a B P k : Nat} {F w ms : Nat → Nat → Int32} {h : e_H} {as : List Nat} {os : List e_O} (n1 : B + 11 + 3 * k ∉ as) (hk : k < P) (hb : bs ≤ B) : ev_run tbs bs sa (d + 1) 20 [.ref a, .ref (B + 11 + 3 * k)] (wd as os (pgH B P F w ms h)) none (wd as os (pgH B P F (upp w k (zf (w k) 1 11)) ms h)) := by
  refine RUN.to (as1 := [B + 11 + 3 * k]) (os1 := [.inr (.inl (32, w k))]) (os2 := [.inr (.inl (32, zf (w k) 1 11))]) (fun h0 => r_forget d _ _ _ h0 (by omega)) (by simp) ?_ ?_
  · simp [wd_out n1, pg_1 hk]
  · rw [wd_cons, wd_nil, wd_upo n1, pg_u1 hk]
set_option maxHeartbeats 2000000 in
set_option maxRecDepth 100000 in
theorem c_go_loop {B P z : Nat} {F w ms : Nat → Nat → Int32} {h : e_H} {c0 c1 c2 c3 : Int32} {lg : Int64} {o0 o1 o2 o3 : Int32} {Bf D : Nat → Int32} {L : Int32} {hm hs hh : Nat → Int32} {sp : Nat → Option Nat} {L2 : Int32} {gm gs gh key mark X S Bk I K : Nat → Int32} (d : Nat) (hP : P ≤ 40) (hO : cOK bs B P z sa) (e : Nat) (he : e < P) (hsp : ∀ k, k < 32 → sp k = (fat P (F 0) (F 1) (F 2) (nI e) (nI k)).map (fun p => B + 10 + 3 * p)) (t : Nat) (ht : t < P) (h3 : F 0 t ≠ 3) (N : Nat) (hN : N < 2 ^ 31) (hw : Int32) (w' : Nat → Nat → Int32) (r' : Nat → Int32) (pc' m' gv' ft' : Int32) (E : e_C ⊕ (Option Value × e_H) → Prop)
    (hK : ∀ how ki, (how = -1 ∧ hw = 2 ∨ how = hw ∧ hw ≠ -1) → ev_E tbs bs sa (d + 4) t_X2_go E (68, [some (.ref (B + 7)), some (.ref (B + 11 + 3 * t)), some (.ref (B + 12 + 3 * e)), some (.int (nI N)), some (.int how), some (.int ki)], [], wd (cas B z sa) (cos B P z c0 c1 c2 c3 lg o0 gv' ft' m' Bf D L hm hs hh sp L2 gm gs gh key mark X S Bk I K) (pgH B P F (cxw w' t pc' r') ms h))) :
    ∀ (n k : Nat), k + n = N → ∀ w r pc m gv, rnn P F ms e n w r pc m gv (-1) = (hw, w', r', pc', m', gv', ft') → ev_E tbs bs sa (d + 4) t_X2_go E (24, [some (.ref (B + 7)), some (.ref (B + 11 + 3 * t)), some (.ref (B + 12 + 3 * e)), some (.int (nI N)), some (.int (-1)), some (.int (nI k))], [.int (nI N), .int (nI k)], wd (cas B z sa) (cos B P z c0 c1 c2 c3 lg o0 gv (-1) m Bf D L hm hs hh sp L2 gm gs gh key mark X S Bk I K) (pgH B P F (cxw w t pc r) ms h)) := by
  have hD := hO.1
  have hbB := hO.2.2.1
  intro n
  induction n with
  | zero =>
    intro k hk w r pc m gv hr
    have e : k = N := by omega
    subst e
    rw [rnn] at hr
    cases hr
    refine EV.icT rfl (decide_eq_true (nI_le (Nat.le_refl _) (by omega))) ?_
    exact hK _ _ (Or.inl ⟨rfl, rfl⟩)
  | succ n ih =>
    intro k hk w r pc m gv hr
    rw [rnn] at hr
    generalize hst : stp P F ms e w r pc gv (-1) = x at hr
    obtain ⟨a, b, c, p, g, f⟩ := x
    have kp := stp_keep h3 hst
    simp only at hr
    refine EV.icF rfl (decide_eq_false (nI_ge (by omega) (by omega))) ?_
    repeat refine EV.s rfl rfl rfl ?_
    refine EV.icF rfl (by decide) ?_
    repeat refine EV.s rfl rfl rfl ?_
    refine EV.cv rfl rfl ((wd_at (q := 7) hD rfl rfl)) (Nat.le_of_ble_eq_true rfl) (Nat.le_of_ble_eq_true rfl) (c_step (o1 := 0) (o2 := 0) d hP hO e he hsp t ht h3 pc gv r a b c p g f hst) ?_
    repeat refine EV.s rfl rfl rfl ?_
    by_cases ha : a = -1
    · rw [if_pos ha] at hr
      refine EV.icT rfl (decide_eq_true ha) ?_
      repeat (first | refine EV.s rfl rfl rfl ?_ | refine EW.get 7 hD rfl rfl rfl rfl ?_)
      refine EW.putY 7 (cos B P z c0 c1 c2 c3 lg o0 g f (m + 1) Bf D L hm hs hh sp L2 gm gs gh key mark X S Bk I K) hD rfl rfl rfl (by omega) (Nat.le_of_ble_eq_true rfl) rfl rfl ?_
      repeat refine EV.s rfl rfl rfl ?_
      have hf : f = -1 := kp.2.2.1 ha
      subst hf; subst ha
      have := ih (k + 1) (by omega) b c p (m + 1) g hr
      rw [← nI_1 k] at this
      exact this
    · rw [if_neg ha] at hr
      refine EV.icF rfl (decide_eq_false ha) ?_
      repeat refine EV.s rfl rfl rfl ?_
      have fin : ∀ mm, mm = m' → ev_E tbs bs sa (d + 4) t_X2_go E (62, [some (.ref (B + 7)), some (.ref (B + 11 + 3 * t)), some (.ref (B + 12 + 3 * e)), some (.int (nI N)), some (.int a), some (.int (nI k))], [], wd (cas B z sa) (cos B P z c0 c1 c2 c3 lg o0 g f mm Bf D L hm hs hh sp L2 gm gs gh key mark X S Bk I K) (pgH B P F (cxw b t p c) ms h)) := by
        intro mm hmm
        subst hmm
        cases hr
        repeat refine EV.s rfl rfl rfl ?_
        refine EV.icm rfl (fun hb => ?_) (fun hb => ?_)
        · exact hK _ _ (Or.inr ⟨rfl, ha⟩)
        · repeat refine EV.s rfl rfl rfl ?_
          refine EV.icT rfl (decide_eq_true ha) ?_
          exact hK _ _ (Or.inr ⟨rfl, ha⟩)
      by_cases h0 : a = 0
      · rw [if_pos h0] at hr
        refine EV.ifF rfl (decide_eq_false (fun q => q h0)) ?_
        repeat (first | refine EV.s rfl rfl rfl ?_ | refine EW.get 7 hD rfl rfl rfl rfl ?_)
        refine EW.putY 7 (cos B P z c0 c1 c2 c3 lg o0 g f (m + 1) Bf D L hm hs hh sp L2 gm gs gh key mark X S Bk I K) hD rfl rfl rfl (by omega) (Nat.le_of_ble_eq_true rfl) rfl rfl ?_
        refine fin _ ?_
        cases hr; rfl
      · rw [if_neg h0] at hr
        refine EV.ifT rfl (decide_eq_true h0) ?_
        refine fin _ ?_
        cases hr; rfl
set_option maxHeartbeats 2000000 in
set_option maxRecDepth 100000 in
theorem c_go {B P z : Nat} {F w ms : Nat → Nat → Int32} {h : e_H} {c0 c1 c2 c3 : Int32} {lg : Int64} {o0 o1 o2 o3 : Int32} {Bf D : Nat → Int32} {L : Int32} {hm hs hh : Nat → Int32} {sp : Nat → Option Nat} {L2 : Int32} {gm gs gh key mark X S Bk I K : Nat → Int32} (d : Nat) (hP : P ≤ 40) (hO : cOK bs B P z sa) (e : Nat) (he : e < P) (hsp : ∀ k, k < 32 → sp k = (fat P (F 0) (F 1) (F 2) (nI e) (nI k)).map (fun p => B + 10 + 3 * p)) (t : Nat) (ht : t < P) (h3 : F 0 t ≠ 3) (N : Nat) (hN : N < 2 ^ 31) (pc : Int32) (r : Nat → Int32) (h8 : ∀ k, 8 ≤ k → r k = w t (3 + k)) (hw : Int32) (w' : Nat → Nat → Int32) (r' : Nat → Int32) (pc' m' gv' ft' : Int32) (hr : rnn P F ms e N w r pc 0 0 (-1) = (hw, w', r', pc', m', gv', ft')) :
    ev_run tbs bs sa (d + 5) 19 [.ref (B + 7), .ref (B + 11 + 3 * t), .ref (B + 12 + 3 * e), .int (nI N)] (wd (cas B z sa) (cos B P z c0 c1 c2 c3 lg o0 o1 o2 o3 Bf D L hm hs hh sp L2 gm gs gh key mark X S Bk I K) (pgH B P F (cxw w t pc r) ms h)) none (wd (cas B z sa) (cos B P z c0 c1 c2 c3 lg hw gv' ft' m' Bf D L hm hs hh sp L2 gm gs gh key mark X S Bk I K) (pgH B P F (rnf w' t hw pc' r') ms h)) := by
  have hD := hO.1
  have hbB := hO.2.2.1
  have hnt : B + 11 + 3 * t ∉ cas B z sa := hO.2.1 _ (by omega) (by omega)
  obtain ⟨k1, k2, k3⟩ := rnn_keep h3 N w r pc 0 0 (-1) hr
  have h8' : ∀ k, 8 ≤ k → r' k = w' t (3 + k) := fun k hk => by rw [k2 k hk, k1]; exact h8 k hk
  refine RUN.mk (T := t_X2_go) rfl (Nat.le_of_ble_eq_true rfl) ?_
  repeat refine EV.s rfl rfl rfl ?_
  refine EW.putY 7 (cos B P z c0 c1 c2 c3 lg o0 0 o2 o3 Bf D L hm hs hh sp L2 gm gs gh key mark X S Bk I K) hD rfl rfl rfl (by omega) (Nat.le_of_ble_eq_true rfl) rfl rfl ?_
  repeat refine EV.s rfl rfl rfl ?_
  refine EW.putY 7 (cos B P z c0 c1 c2 c3 lg o0 0 (-1) o3 Bf D L hm hs hh sp L2 gm gs gh key mark X S Bk I K) hD rfl rfl rfl (by omega) (Nat.le_of_ble_eq_true rfl) rfl rfl ?_
  repeat refine EV.s rfl rfl rfl ?_
  refine EW.putY 7 (cos B P z c0 c1 c2 c3 lg o0 0 (-1) 0 Bf D L hm hs hh sp L2 gm gs gh key mark X S Bk I K) hD rfl rfl rfl (by omega) (Nat.le_of_ble_eq_true rfl) rfl rfl ?_
  repeat refine EV.s rfl rfl rfl ?_
  refine c_go_loop (w := w) (o1 := 0) (o2 := 0) (o3 := 0) d hP hO e he hsp t ht h3 N hN hw w' r' pc' m' gv' ft' _ (fun how ki hho => ?_) N 0 (by omega) w r pc 0 0 hr
  have key2 : ev_E tbs bs sa (d + 4) t_X2_go (fun y => y = .inr (none, wd (cas B z sa) (cos B P z c0 c1 c2 c3 lg hw gv' ft' m' Bf D L hm hs hh sp L2 gm gs gh key mark X S Bk I K) (pgH B P F (rnf w' t hw pc' r') ms h))) (81, [some (.ref (B + 7)), some (.ref (B + 11 + 3 * t)), some (.ref (B + 12 + 3 * e)), some (.int (nI N)), some (.int how), some (.int ki)], [.int hw, .ref (B + 7)], wd (cas B z sa) (cos B P z c0 c1 c2 c3 lg o0 gv' ft' m' Bf D L hm hs hh sp L2 gm gs gh key mark X S Bk I K) (pgH B P F (cxw w' t pc' r') ms h)) := by
    refine EW.putY 7 (cos B P z c0 c1 c2 c3 lg hw gv' ft' m' Bf D L hm hs hh sp L2 gm gs gh key mark X S Bk I K) hD rfl rfl rfl (by omega) (Nat.le_of_ble_eq_true rfl) rfl rfl ?_
    repeat refine EV.s rfl rfl rfl ?_
    refine EP.st 1 hnt ht hbB rfl rfl (by decide) ?_
    repeat (first | refine EV.s rfl rfl rfl ?_ | refine EW.get 7 hD rfl rfl rfl rfl ?_)
    by_cases h0 : hw = 0
    · refine EV.ifF rfl (decide_eq_false (fun q => q h0)) ?_
      repeat refine EV.s rfl rfl rfl ?_
      refine EV.cv rfl rfl ((wd_at (q := 7) hD rfl rfl)) (Nat.le_of_ble_eq_true rfl) (Nat.le_of_ble_eq_true rfl) (c_forget (d := d + 3) hnt ht hbB) ?_
      rw [upp2, upp_at, rnf_0 h8' h0]
      repeat refine EV.s rfl rfl rfl ?_
      refine EV.ret rfl ?_
      rfl
    · refine EV.ifT rfl (decide_eq_true h0) ?_
      rw [rnf_n0 h8' h0]
      refine EV.ret rfl ?_
      rfl
  repeat refine EV.s rfl rfl rfl ?_
  rcases hho with ⟨rfl, h2⟩ | ⟨rfl, hn⟩
  · refine EV.icF rfl (by decide) ?_
    repeat refine EV.s rfl rfl rfl ?_
    rw [h2] at key2 ⊢
    exact key2
  · refine EV.icT rfl (decide_eq_true hn) ?_
    repeat refine EV.s rfl rfl rfl ?_
    exact key2
set_option maxHeartbeats 2000000 in
set_option maxRecDepth 100000 in
theorem c_map_1 {B P z : Nat} {F w ms : Nat → Nat → Int32} {h : e_H} {c0 c1 c2 c3 : Int32} {lg : Int64} {o0 o1 o2 o3 : Int32} {Bf D : Nat → Int32} {L : Int32} {hm hs hh : Nat → Int32} {sp : Nat → Option Nat} {L2 : Int32} {gm gs gh key mark X S Bk I K : Nat → Int32} (d : Nat) (hO : cOK bs B P z sa) (e : Int32) (E : e_C ⊕ (Option Value × e_H) → Prop)
    (hK : ∀ (sp : Nat → Option Nat) (ki : Int32), (∀ a, a < 32 → sp a = none) → ev_E tbs bs sa d t_X2_mapSpace E (21, [some (.ref (B + 7)), some (.ref (B + 9)), some (.int e), some (.int ki)], [], wd (cas B z sa) (cos B P z c0 c1 c2 c3 lg o0 o1 o2 o3 Bf D L hm hs hh sp L2 gm gs gh key mark X S Bk I K) (pgH B P F w ms h))) :
    ∀ (c k : Nat), k + c = 32 → ∀ sp : Nat → Option Nat, (∀ a, a < k → sp a = none) → ∀ ki, ki = nI k → ev_E tbs bs sa d t_X2_mapSpace E (5, [some (.ref (B + 7)), some (.ref (B + 9)), some (.int e), some (.int ki)], [.int 32, .int ki], wd (cas B z sa) (cos B P z c0 c1 c2 c3 lg o0 o1 o2 o3 Bf D L hm hs hh sp L2 gm gs gh key mark X S Bk I K) (pgH B P F w ms h)) := by
  have hD := hO.1
  have hbB := hO.2.2.1
  intro c
  induction c with
  | zero =>
    intro k hk sp hsq ki hki
    have e : k = 32 := by omega
    subst e; subst hki
    refine EV.icT rfl (by decide) ?_
    exact hK _ _ hsq
  | succ c ih =>
    intro k hk sp hsq ki hki
    subst hki
    refine EV.icF rfl (decide_eq_false (nI_ge (b := 32) (by omega) (by decide))) ?_
    repeat (first | refine EV.s rfl rfl rfl ?_ | refine EW.get 7 hD rfl rfl rfl rfl ?_)
    refine EW.aastNY 8 k (cos B P z c0 c1 c2 c3 lg o0 o1 o2 o3 Bf D L hm hs hh (va_up sp k none) L2 gm gs gh key mark X S Bk I K) hD rfl rfl rfl (by omega) rfl (by omega) (by decide) (Nat.le_of_ble_eq_true rfl) rfl ?_
    repeat refine EV.s rfl rfl rfl ?_
    refine ih (k + 1) (by omega) _ (fun a ha => ?_) _ (nI_1 k)
    simp only [va_up]
    by_cases q : a = k
    · rw [if_pos q]
    · rw [if_neg q]; exact hsq a (by omega)
theorem nI_m1 (k : Nat) : nI (k + 1) - 1 = nI k := by
  rw [← nI_1 k, Int32.add_sub_cancel]
set_option maxHeartbeats 2000000 in
set_option maxRecDepth 100000 in
theorem c_map_2 {B P z : Nat} {F w ms : Nat → Nat → Int32} {h : e_H} {c0 c1 c2 c3 : Int32} {lg : Int64} {o0 o1 o2 o3 : Int32} {Bf D : Nat → Int32} {L : Int32} {hm hs hh : Nat → Int32} {sp : Nat → Option Nat} {L2 : Int32} {gm gs gh key mark X S Bk I K : Nat → Int32} (d : Nat) (hP : P ≤ 40) (hO : cOK bs B P z sa) (e : Int32) (E : e_C ⊕ (Option Value × e_H) → Prop)
    (hK : ∀ (sp : Nat → Option Nat), (∀ a, a < 32 → sp a = (fat P (F 0) (F 1) (F 2) e (nI a)).map (fun p => B + 10 + 3 * p)) → E (.inr (none, wd (cas B z sa) (cos B P z c0 c1 c2 c3 lg o0 o1 o2 o3 Bf D L hm hs hh sp L2 gm gs gh key mark X S Bk I K) (pgH B P F w ms h)))) :
    ∀ (k : Nat), k ≤ P → ∀ sp : Nat → Option Nat, (∀ a, a < 32 → sp a = (fsr (fun q => decide (F 0 q = 3 ∧ F 1 q = e ∧ F 2 q = nI a)) (P - k) k).map (fun p => B + 10 + 3 * p)) → ∀ ki, ki = nI k - 1 → ev_E tbs bs sa (d + 1) t_X2_mapSpace E (27, [some (.ref (B + 7)), some (.ref (B + 9)), some (.int e), some (.int ki)], [.int ki], wd (cas B z sa) (cos B P z c0 c1 c2 c3 lg o0 o1 o2 o3 Bf D L hm hs hh sp L2 gm gs gh key mark X S Bk I K) (pgH B P F w ms h)) := by
  have hD := hO.1
  have hbB := hO.2.2.1
  intro k
  induction k with
  | zero =>
    intro hk sp hsq ki hki
    subst hki
    refine EV.ifT rfl (by decide) ?_
    refine EV.ret rfl ?_
    exact hK sp hsq
  | succ k ih =>
    intro hk sp hsq ki hki
    subst hki
    rw [nI_m1]
    have hst : ∀ a, fsr (fun q => decide (F 0 q = 3 ∧ F 1 q = e ∧ F 2 q = nI a)) (P - k) k = cond (decide (F 0 k = 3 ∧ F 1 k = e ∧ F 2 k = nI a)) (some k) (fsr (fun q => decide (F 0 q = 3 ∧ F 1 q = e ∧ F 2 q = nI a)) (P - (k + 1)) (k + 1)) := by
      intro a
      rw [show P - k = (P - (k + 1)) + 1 by omega]
      rfl
    have m1 : nI k + (-1) = nI k - 1 := by rw [Int32.sub_eq_add_neg]
    have no : (∀ a, a < 32 → ¬ (F 0 k = 3 ∧ F 1 k = e ∧ F 2 k = nI a)) → ev_E tbs bs sa (d + 1) t_X2_mapSpace E (68, [some (.ref (B + 7)), some (.ref (B + 9)), some (.int e), some (.int (nI k))], [], wd (cas B z sa) (cos B P z c0 c1 c2 c3 lg o0 o1 o2 o3 Bf D L hm hs hh sp L2 gm gs gh key mark X S Bk I K) (pgH B P F w ms h)) := by
      intro hn
      repeat refine EV.s rfl rfl rfl ?_
      refine ih (by omega) sp (fun a ha => ?_) _ m1
      rw [hst, decide_eq_false (hn a ha)]
      exact hsq a ha
    refine EV.ifF rfl (decide_eq_false (nI_pos (by omega))) ?_
    repeat refine EV.s rfl rfl rfl ?_
    refine EW.aald 9 (k) hD rfl rfl rfl rfl (by omega) (by omega) ?_
    repeat refine EV.s rfl rfl rfl ?_
    refine EV.cv rfl rfl ((wd_out (hO.2.1 _ (by omega) (by omega))).trans (pg_0 (by omega))) (Nat.le_of_ble_eq_true rfl) (Nat.le_of_ble_eq_true rfl) (c_isDataOf d B P F _ k ((wd_out (hO.2.1 _ (by omega) (by omega))).trans (pg_0 (by omega))) e) ?_
    by_cases h2 : F 0 k = 3 ∧ F 1 k = e
    rotate_left
    · rw [if_neg h2]
      refine EV.ifT rfl (by decide) ?_
      exact no (fun a _ q => h2 ⟨q.1, q.2.1⟩)
    rw [if_pos h2]
    refine EV.ifF rfl (by decide) ?_
    repeat refine EV.s rfl rfl rfl ?_
    refine EW.aald 9 (k) hD rfl rfl rfl rfl (by omega) (by omega) ?_
    refine EP.get (k := k) (hO.2.1 _ (by omega) (by omega)) (by omega) rfl rfl ?_
    repeat refine EV.s rfl rfl rfl ?_
    refine EV.call rfl (r_isWithin d (F 2 k) (nI 32) _) ?_
    by_cases hx : inI (F 2 k) 32
    rotate_left
    · rw [if_neg hx]
      refine EV.ifT rfl (by decide) ?_
      exact no (fun a ha q => hx (by rw [q.2.2]; exact ⟨nI_pos' (by omega), nI_lt ha (by decide)⟩))
    rw [if_pos hx]
    refine EV.ifF rfl (by decide) ?_
    obtain ⟨j, hj, hjj⟩ := in_nI (by decide) hx
    repeat (first | refine EV.s rfl rfl rfl ?_ | refine EW.get 7 hD rfl rfl rfl rfl ?_)
    refine EW.aald 9 (k) hD rfl rfl rfl rfl (by omega) (by omega) ?_
    refine EP.get (k := k) (hO.2.1 _ (by omega) (by omega)) (by omega) rfl rfl ?_
    repeat refine EV.s rfl rfl rfl ?_
    refine EW.aald 9 (k) hD rfl rfl rfl rfl (by omega) (by omega) ?_
    refine EW.aastY 8 j (cos B P z c0 c1 c2 c3 lg o0 o1 o2 o3 Bf D L hm hs hh (va_up sp j (some (B + 10 + 3 * k))) L2 gm gs gh key mark X S Bk I K) hD rfl rfl rfl ((wd_out (hO.2.1 _ (by omega) (by omega))).trans (pg_0 (by omega))) (by omega) hjj (by omega) (by decide) (Nat.le_of_ble_eq_true rfl) rfl ?_
    repeat refine EV.s rfl rfl rfl ?_
    refine ih (by omega) _ (fun a ha => ?_) _ m1
    rw [hst]
    simp only [va_up]
    by_cases q : a = j
    · rw [if_pos q, decide_eq_true ⟨h2.1, h2.2, by rw [hjj, q]⟩]; rfl
    · have hn : ¬ (F 0 k = 3 ∧ F 1 k = e ∧ F 2 k = nI a) := by
        intro z
        have := z.2.2
        rw [hjj] at this
        have c := congrArg Int32.toNatClampNeg this
        rw [nI_clamp (by omega), nI_clamp (by omega)] at c
        exact q c.symm
      rw [if_neg q, decide_eq_false hn]
      exact hsq a ha
set_option maxHeartbeats 2000000 in
set_option maxRecDepth 100000 in
theorem c_mapSpace {B P z : Nat} {F w ms : Nat → Nat → Int32} {h : e_H} {c0 c1 c2 c3 : Int32} {lg : Int64} {o0 o1 o2 o3 : Int32} {Bf D : Nat → Int32} {L : Int32} {hm hs hh : Nat → Int32} {sp : Nat → Option Nat} {L2 : Int32} {gm gs gh key mark X S Bk I K : Nat → Int32} (d : Nat) (hP : P ≤ 40) (hO : cOK bs B P z sa) (e : Int32) :
    ∃ rv H', (rv = none ∧ ∃ sp', (∀ a, a < 32 → sp' a = (fat P (F 0) (F 1) (F 2) e (nI a)).map (fun p => B + 10 + 3 * p)) ∧ H' = wd (cas B z sa) (cos B P z c0 c1 c2 c3 lg o0 o1 o2 o3 Bf D L hm hs hh sp' L2 gm gs gh key mark X S Bk I K) (pgH B P F w ms h)) ∧ ev_run tbs bs sa (d + 2) 18 [.ref (B + 7), .ref (B + 9), .int e] (wd (cas B z sa) (cos B P z c0 c1 c2 c3 lg o0 o1 o2 o3 Bf D L hm hs hh sp L2 gm gs gh key mark X S Bk I K) (pgH B P F w ms h)) rv H' := by
  have hD := hO.1
  refine RUN.mkE (T := t_X2_mapSpace) rfl (Nat.le_of_ble_eq_true rfl) ?_
  repeat refine EV.s rfl rfl rfl ?_
  refine c_map_1 (sp := sp) (d + 1) hO e _ (fun sp ki hsq => ?_) 32 0 (by omega) sp (fun a ha => absurd ha (by omega)) _ rfl
  repeat refine EV.s rfl rfl rfl ?_
  refine EW.alenR 9 hD rfl rfl rfl ?_
  repeat refine EV.s rfl rfl rfl ?_
  refine c_map_2 (sp := sp) d hP hO e _ (fun sp' hs' => ?_) P (by omega) sp (fun a ha => ?_) _ rfl
  · exact ⟨_, _, rfl, rfl, sp', hs', rfl⟩
  · rw [hsq a ha, Nat.sub_self]; rfl
set_option maxHeartbeats 2000000 in
set_option maxRecDepth 100000 in
theorem c_runThread {B P z : Nat} {F w ms : Nat → Nat → Int32} {h : e_H} {c0 c1 c2 c3 : Int32} {lg : Int64} {o0 o1 o2 o3 : Int32} {Bf D : Nat → Int32} {L : Int32} {hm hs hh : Nat → Int32} {sp : Nat → Option Nat} {L2 : Int32} {gm gs gh key mark X S Bk I K : Nat → Int32} (d : Nat) (hP : P ≤ 40) (hO : cOK bs B P z sa) (e : Nat) (he : e < P) (t : Nat) (ht : t < P) (h3 : F 0 t ≠ 3) (hw1 : F 1 t = nI e) (N : Nat) (hN : N < 2 ^ 31) (pc : Int32) (r : Nat → Int32) (h8 : ∀ k, 8 ≤ k → r k = w t (3 + k)) (hw : Int32) (w' : Nat → Nat → Int32) (r' : Nat → Int32) (pc' m' gv' ft' : Int32) (hr : rnn P F ms e N w r pc 0 0 (-1) = (hw, w', r', pc', m', gv', ft')) :
    ∃ rv H', (rv = some (.int hw) ∧ ∃ sp', H' = wd (cas B z sa) (cos B P z c0 c1 c2 c3 lg hw gv' ft' m' Bf D L hm hs hh sp' L2 gm gs gh key mark X S Bk I K) (pgH B P F (rnf w' t hw pc' r') ms h)) ∧ ev_run tbs bs sa (d + 6) 63 [.ref B, .int (nI t), .int (nI N)] (wd (cas B z sa) (cos B P z c0 c1 c2 c3 lg o0 o1 o2 o3 Bf D L hm hs hh sp L2 gm gs gh key mark X S Bk I K) (pgH B P F (cxw w t pc r) ms h)) rv H' := by
  have hD := hO.1
  refine RUN.mkE (T := t_X4_runThread) rfl (Nat.le_of_ble_eq_true rfl) ?_
  repeat (first | refine EV.s rfl rfl rfl ?_ | refine EW.get 0 hD rfl rfl rfl rfl ?_)
  refine EW.aald 9 (t) hD rfl rfl rfl rfl (by omega) (by omega) ?_
  refine EP.get (k := t) (hO.2.1 _ (by omega) (by omega)) (by omega) rfl rfl ?_
  rw [hw1]
  repeat (first | refine EV.s rfl rfl rfl ?_ | refine EW.get 0 hD rfl rfl rfl rfl ?_)
  obtain ⟨rv, H', ⟨rfl, sp', hsp, rfl⟩, hm2⟩ := c_mapSpace (F := F) (w := cxw w t pc r) (ms := ms) (h := h) (c0 := c0) (c1 := c1) (c2 := c2) (c3 := c3) (lg := lg) (o0 := o0) (o1 := o1) (o2 := o2) (o3 := o3) (Bf := Bf) (D := D) (L := L) (hm := hm) (hs := hs) (hh := hh) (sp := sp) (L2 := L2) (gm := gm) (gs := gs) (gh := gh) (key := key) (mark := mark) (X := X) (S := S) (Bk := Bk) (I := I) (K := K) (d + 3) hP hO (nI e)
  refine EV.cv rfl rfl ((wd_at (q := 7) hD rfl rfl)) (Nat.le_of_ble_eq_true rfl) (Nat.le_of_ble_eq_true rfl) (hm2) ?_
  repeat (first | refine EV.s rfl rfl rfl ?_ | refine EW.get 0 hD rfl rfl rfl rfl ?_)
  refine EW.aald 9 (t) hD rfl rfl rfl rfl (by omega) (by omega) ?_
  refine EP.get (k := t) (hO.2.1 _ (by omega) (by omega)) (by omega) rfl rfl ?_
  repeat (first | refine EV.s rfl rfl rfl ?_ | refine EW.get 0 hD rfl rfl rfl rfl ?_)
  refine EW.aald 9 (e) hD rfl rfl rfl rfl (by omega) (by omega) ?_
  refine EP.get (k := e) (hO.2.1 _ (by omega) (by omega)) (by omega) rfl rfl ?_
  repeat refine EV.s rfl rfl rfl ?_
  refine EV.cv rfl rfl ((wd_at (q := 7) hD rfl rfl)) (Nat.le_of_ble_eq_true rfl) (Nat.le_of_ble_eq_true rfl) (c_go d hP hO e he hsp t ht h3 N hN pc r h8 hw w' r' pc' m' gv' ft' hr) ?_
  repeat (first | refine EV.s rfl rfl rfl ?_ | refine EW.get 0 hD rfl rfl rfl rfl ?_ | refine EW.get 7 hD rfl rfl rfl rfl ?_)
  refine EV.ri rfl rfl ?_
  exact ⟨_, _, rfl, rfl, sp', rfl⟩
theorem cxw_self (w : Nat → Nat → Int32) (t : Nat) : cxw w t (w t 2) (fun k => w t (3 + k)) = w := by
  unfold cxw
  have : cx (w t) (w t 2) (fun k => w t (3 + k)) = w t := by
    funext i
    simp only [cx]
    by_cases e : i = 2
    · rw [if_pos e, e]
    · rw [if_neg e]
      by_cases e3 : 3 ≤ i
      · rw [if_pos e3, show 3 + (i - 3) = i by omega]
      · rw [if_neg e3]
  rw [this, upp_self]
theorem cxw_ent (w : Nat → Nat → Int32) (t : Nat) (a b : Int32) : upp w t (upd (upd (zf (upd (w t) 2 (w t 0)) 3 11) 3 a) 4 b) = cxw w t (w t 0) (fun k => if k = 0 then a else if k = 1 then b else if k < 8 then 0 else w t (3 + k)) := by
  unfold cxw
  congr 1
  funext i
  simp only [upd, zf, cx]
  by_cases e2 : i = 2
  · rw [if_neg (by omega), if_neg (by omega), if_neg (by omega), if_pos e2, if_pos e2]
  rw [if_neg e2, if_neg e2]
  by_cases e4 : i = 4
  · rw [if_pos e4, if_pos (by omega), if_neg (by omega), if_pos (by omega)]
  rw [if_neg e4]
  by_cases e3 : i = 3
  · rw [if_pos e3, if_pos (by omega), if_pos (by omega)]
  rw [if_neg e3]
  by_cases e5 : 3 ≤ i
  · rw [if_pos e5, if_neg (show ¬ i - 3 = 0 by omega), if_neg (show ¬ i - 3 = 1 by omega)]
    by_cases e6 : i < 11
    · rw [if_pos (show 3 ≤ i ∧ i < 11 by omega), if_pos (show i - 3 < 8 by omega)]
    · rw [if_neg (show ¬ (3 ≤ i ∧ i < 11) by omega), if_neg (show ¬ i - 3 < 8 by omega), show 3 + (i - 3) = i by omega]
  · rw [if_neg e5, if_neg (by omega)]
set_option maxHeartbeats 2000000 in
set_option maxRecDepth 100000 in
theorem c_ent_loop {B P z : Nat} {F w ms : Nat → Nat → Int32} {h : e_H} {c0 c1 c2 c3 : Int32} {lg : Int64} {o0 o1 o2 o3 : Int32} {Bf D : Nat → Int32} {L : Int32} {hm hs hh : Nat → Int32} {sp : Nat → Option Nat} {L2 : Int32} {gm gs gh key mark X S Bk I K : Nat → Int32} (d : Nat) (hO : cOK bs B P z sa) (t : Nat) (ht : t < P) (f : Nat → Int32) (p a b n : Int32) (l5 : Option Value) (E : e_C ⊕ (Option Value × e_H) → Prop)
    (hK : ∀ ki, ev_E tbs bs sa d t_X4_enter E (62, [some (.ref B), some (.int p), some (.int a), some (.int b), some (.int n), l5, some (.ref (B + 11 + 3 * t)), some (.int ki)], [], wd (cas B z sa) (cos B P z c0 c1 c2 c3 lg o0 o1 o2 o3 Bf D L hm hs hh sp L2 gm gs gh key mark X S Bk I K) (pgH B P F (upp w t (zf f 3 11)) ms h))) :
    ∀ (c k : Nat), k + c = 8 → ∀ Z, Z = zf f 3 (3 + k) → ∀ ki, ki = nI k → ev_E tbs bs sa d t_X4_enter E (45, [some (.ref B), some (.int p), some (.int a), some (.int b), some (.int n), l5, some (.ref (B + 11 + 3 * t)), some (.int ki)], [.int 8, .int ki], wd (cas B z sa) (cos B P z c0 c1 c2 c3 lg o0 o1 o2 o3 Bf D L hm hs hh sp L2 gm gs gh key mark X S Bk I K) (pgH B P F (upp w t Z) ms h)) := by
  have hD := hO.1
  have hbB := hO.2.2.1
  have hnt : B + 11 + 3 * t ∉ cas B z sa := hO.2.1 _ (by omega) (by omega)
  intro c
  induction c with
  | zero =>
    intro k hk Z hZ ki hki
    have e : k = 8 := by omega
    subst e; subst hZ; subst hki
    refine EV.icT rfl (by decide) ?_
    exact hK _
  | succ c ih =>
    intro k hk Z hZ ki hki
    subst hki; subst hZ
    refine EV.icF rfl (decide_eq_false (nI_ge (b := 8) (by omega) (by decide))) ?_
    repeat refine EV.s rfl rfl rfl ?_
    refine EP.st (3 + k) hnt ht hbB rfl (nI_add 3 k) (by omega) ?_
    rw [upp2, upp_at]
    repeat refine EV.s rfl rfl rfl ?_
    exact ih (k + 1) (by omega) _ (zf_s f (Nat.le_add_right 3 k)).symm _ (nI_1 k)
set_option maxHeartbeats 2000000 in
set_option maxRecDepth 100000 in
theorem c_enter (d B P z : Nat) (hP : P ≤ 40) (key mark I K : Nat → Int32) (hO : cOK bs B P z sa) (s : zS) (hI : Iv P s) (h H : e_H) (hS : cS B P z sa key mark I K s h H) (p a b n : Int32) :
    ∃ rv H', (rv = some (.int (q_enter P p a b n s).1) ∧ cS B P z sa key mark I K (q_enter P p a b n s).2 h H') ∧ ev_run tbs bs sa (d + 7) 44 [.ref B, .int p, .int a, .int b, .int n] H rv H' := by
  obtain ⟨F, w, ms, Bf, lg, ⟨c0, c1, c2, c3⟩, ⟨en, gv, ft, mk⟩⟩ := s; obtain ⟨o0, o1, o2, o3, D, L, hm, hs, hh, sp, L2, gm, gs, gh, X, S, Bk, rfl, ho⟩ := hS; have hD := hO.1; have hbB := hO.2.2.1; have hbz := hO.2.2.2
  refine RUN.mkE (T := t_X4_enter) rfl (Nat.le_of_ble_eq_true rfl) ?_
  repeat refine EV.s rfl rfl rfl ?_
  refine EV.cv rfl rfl ((wd_at (q := 0) hD rfl rfl)) (Nat.le_of_ble_eq_true rfl) (Nat.le_of_ble_eq_true rfl) (c_whyNotRun (d + 2) B P hP F w _ (cR_of hO) (cW_of hO) p 0 n) ?_
  repeat refine EV.s rfl rfl rfl ?_
  by_cases hp : ty P F p 2
  rotate_left
  · rw [if_neg hp]
    have hq : q_enter P p a b n (F, w, ms, Bf, lg, (c0, c1, c2, c3), (en, gv, ft, mk)) = _ := if_neg hp
    rw [hq]
    refine EV.ifF rfl (by decide) ?_
    repeat refine EV.s rfl rfl rfl ?_
    refine EV.ri rfl rfl ?_
    exact ⟨_, _, rfl, rfl, o0, o1, o2, o3, _, _, _, _, _, _, _, _, _, _, _, _, _, rfl, ho⟩
  rw [if_pos hp]
  by_cases hf : fin1 P F (F 1 (cn p)) ∧ (if w (cn p) 1 ≠ 0 then (1 : Int32) else 0) = 0
  rotate_left
  · rw [if_neg hf]
    have hf2 : ¬ (fin1 P F (F 1 (cn p)) ∧ w (cn p) 1 = 0) := fun q => hf ⟨q.1, if_neg (fun c => c q.2)⟩
    have hq : q_enter P p a b n (F, w, ms, Bf, lg, (c0, c1, c2, c3), (en, gv, ft, mk)) = _ := (if_pos hp).trans (if_neg hf2)
    rw [hq]
    refine EV.ifF rfl (by decide) ?_
    repeat refine EV.s rfl rfl rfl ?_
    refine EV.ri rfl rfl ?_
    exact ⟨_, _, rfl, rfl, o0, o1, o2, o3, _, _, _, _, _, _, _, _, _, _, _, _, _, rfl, ho⟩
  rw [if_pos hf]
  have hf2 : fin1 P F (F 1 (cn p)) ∧ w (cn p) 1 = 0 := by
    refine ⟨hf.1, Decidable.byContradiction (fun c => ?_)⟩
    have := hf.2
    rw [if_pos c] at this
    exact absurd this (by decide)
  by_cases hx : inI n 5001
  rotate_left
  · rw [if_neg hx]
    have hq : q_enter P p a b n (F, w, ms, Bf, lg, (c0, c1, c2, c3), (en, gv, ft, mk)) = _ := (if_pos hp).trans ((if_pos hf2).trans (if_neg hx))
    rw [hq]
    refine EV.ifF rfl (by decide) ?_
    repeat refine EV.s rfl rfl rfl ?_
    refine EV.ri rfl rfl ?_
    exact ⟨_, _, rfl, rfl, o0, o1, o2, o3, _, _, _, _, _, _, _, _, _, _, _, _, _, rfl, ho⟩
  rw [if_pos hx]
  have hq : q_enter P p a b n (F, w, ms, Bf, lg, (c0, c1, c2, c3), (en, gv, ft, mk)) = _ := (if_pos hp).trans ((if_pos hf2).trans (if_pos hx))
  rw [hq]
  clear hq hf
  obtain ⟨t, ht, rfl, ht2⟩ := ty_j hP hp
  obtain ⟨N, hN, rfl⟩ := in_nI (by decide) hx
  obtain ⟨e, he, hw, -, -⟩ := Iv.own hI ht hP (Or.inl ht2)
  have h3 : F 0 t ≠ 3 := by rw [ht2]; decide
  have hnt : B + 11 + 3 * t ∉ cas B z sa := hO.2.1 _ (by omega) (by omega)
  dsimp only
  rw [cnI (by omega)]
  refine EV.ifT rfl (by decide) ?_
  repeat (first | refine EV.s rfl rfl rfl ?_ | refine EW.get 0 hD rfl rfl rfl rfl ?_)
  refine EW.aald 9 (t) hD rfl rfl rfl rfl (by omega) (by omega) ?_
  refine EP.get (k := t) (hO.2.1 _ (by omega) (by omega)) (by omega) rfl rfl ?_
  repeat refine EV.s rfl rfl rfl ?_
  refine EP.ld 0 hnt ht rfl rfl (by decide) ?_
  refine EP.st 2 hnt ht hbB rfl rfl (by decide) ?_
  repeat refine EV.s rfl rfl rfl ?_
  refine c_ent_loop (d + 6) hO t ht (upd (w t) 2 (w t 0)) _ a b _ _ _ (fun ki => ?_) 8 0 (by omega) _ (zf_0 _ 3).symm _ rfl
  repeat refine EV.s rfl rfl rfl ?_
  refine EP.st 3 hnt ht hbB rfl rfl (by decide) ?_
  rw [upp2, upp_at]
  repeat refine EV.s rfl rfl rfl ?_
  refine EP.st 4 hnt ht hbB rfl rfl (by decide) ?_
  rw [upp2, upp_at, cxw_ent]
  repeat refine EV.s rfl rfl rfl ?_
  have hqr : ∀ r pc, q_run P (nI t) (nI N) r pc (F, w, ms, Bf, lg, (c0, c1, c2, c3), (en, gv, ft, mk)) = _ := fun r pc => rfl
  simp only [q_run, hw, cnI (show t < 2 ^ 31 by omega), cnI (show N < 2 ^ 31 by omega), cnI (show e < 2 ^ 31 by omega)]
  generalize hr : rnn P F ms e N w (fun k => if k = 0 then a else if k = 1 then b else if k < 8 then 0 else w t (3 + k)) (w t 0) 0 0 (-1) = x
  obtain ⟨hw0, w', r', pc', m', gv', ft'⟩ := x
  have kp := rnn_keep h3 N _ _ _ _ _ _ hr
  obtain ⟨rv, H', ⟨rfl, sp', rfl⟩, hrt⟩ := c_runThread (F := F) (w := w) (ms := ms) (h := h) (c0 := c0) (c1 := c1) (c2 := c2) (c3 := c3) (lg := lg) (o0 := o0) (o1 := o1) (o2 := o2) (o3 := o3) (Bf := Bf) (D := D) (L := L) (hm := hm) (hs := hs) (hh := hh) (sp := sp) (L2 := L2) (gm := gm) (gs := gs) (gh := gh) (key := key) (mark := mark) (X := X) (S := S) (Bk := Bk) (I := I) (K := K) d hP hO e he t ht h3 hw N (by omega) (w t 0) (fun k => if k = 0 then a else if k = 1 then b else if k < 8 then 0 else w t (3 + k)) (fun k hk => by rw [if_neg (show ¬ k = 0 by omega), if_neg (show ¬ k = 1 by omega), if_neg (show ¬ k < 8 by omega)]) hw0 w' r' pc' m' gv' ft' hr
  refine EV.cv rfl rfl ((wd_at (q := 0) hD rfl rfl)) (Nat.le_of_ble_eq_true rfl) (Nat.le_of_ble_eq_true rfl) (hrt) ?_
  refine EV.ri rfl rfl ?_
  exact ⟨_, _, rfl, rfl, hw0, gv', ft', m', _, _, _, _, _, _, _, _, _, _, _, _, _, rfl, by rw [if_neg kp.2.2]; exact ⟨rfl, rfl, rfl, rfl⟩⟩
set_option maxHeartbeats 2000000 in
set_option maxRecDepth 100000 in
theorem c_resume (d B P z : Nat) (hP : P ≤ 40) (key mark I K : Nat → Int32) (hO : cOK bs B P z sa) (s : zS) (hI : Iv P s) (h H : e_H) (hS : cS B P z sa key mark I K s h H) (p n : Int32) :
    ∃ rv H', (rv = some (.int (q_resume P p n s).1) ∧ cS B P z sa key mark I K (q_resume P p n s).2 h H') ∧ ev_run tbs bs sa (d + 7) 45 [.ref B, .int p, .int n] H rv H' := by
  obtain ⟨F, w, ms, Bf, lg, ⟨c0, c1, c2, c3⟩, ⟨en, gv, ft, mk⟩⟩ := s; obtain ⟨o0, o1, o2, o3, D, L, hm, hs, hh, sp, L2, gm, gs, gh, X, S, Bk, rfl, ho⟩ := hS; have hD := hO.1; have hbB := hO.2.2.1; have hbz := hO.2.2.2
  refine RUN.mkE (T := t_X4_resume) rfl (Nat.le_of_ble_eq_true rfl) ?_
  repeat refine EV.s rfl rfl rfl ?_
  refine EV.cv rfl rfl ((wd_at (q := 0) hD rfl rfl)) (Nat.le_of_ble_eq_true rfl) (Nat.le_of_ble_eq_true rfl) (c_whyNotRun (d + 2) B P hP F w _ (cR_of hO) (cW_of hO) p 1 n) ?_
  repeat refine EV.s rfl rfl rfl ?_
  by_cases hp : ty P F p 2
  rotate_left
  · rw [if_neg hp]
    have hq : q_resume P p n (F, w, ms, Bf, lg, (c0, c1, c2, c3), (en, gv, ft, mk)) = _ := if_neg hp
    rw [hq]
    refine EV.ifF rfl (by decide) ?_
    repeat refine EV.s rfl rfl rfl ?_
    refine EV.ri rfl rfl ?_
    exact ⟨_, _, rfl, rfl, o0, o1, o2, o3, _, _, _, _, _, _, _, _, _, _, _, _, _, rfl, ho⟩
  rw [if_pos hp]
  by_cases hf : fin1 P F (F 1 (cn p)) ∧ (if w (cn p) 1 ≠ 0 then (1 : Int32) else 0) = 1
  rotate_left
  · rw [if_neg hf]
    have hf2 : ¬ (fin1 P F (F 1 (cn p)) ∧ w (cn p) 1 ≠ 0) := fun q => hf ⟨q.1, if_pos q.2⟩
    have hq : q_resume P p n (F, w, ms, Bf, lg, (c0, c1, c2, c3), (en, gv, ft, mk)) = _ := (if_pos hp).trans (if_neg hf2)
    rw [hq]
    refine EV.ifF rfl (by decide) ?_
    repeat refine EV.s rfl rfl rfl ?_
    refine EV.ri rfl rfl ?_
    exact ⟨_, _, rfl, rfl, o0, o1, o2, o3, _, _, _, _, _, _, _, _, _, _, _, _, _, rfl, ho⟩
  rw [if_pos hf]
  have hf2 : fin1 P F (F 1 (cn p)) ∧ w (cn p) 1 ≠ 0 := by
    refine ⟨hf.1, fun c => ?_⟩
    have := hf.2
    rw [if_neg (fun q => q c)] at this
    exact absurd this (by decide)
  by_cases hx : inI n 5001
  rotate_left
  · rw [if_neg hx]
    have hq : q_resume P p n (F, w, ms, Bf, lg, (c0, c1, c2, c3), (en, gv, ft, mk)) = _ := (if_pos hp).trans ((if_pos hf2).trans (if_neg hx))
    rw [hq]
    refine EV.ifF rfl (by decide) ?_
    repeat refine EV.s rfl rfl rfl ?_
    refine EV.ri rfl rfl ?_
    exact ⟨_, _, rfl, rfl, o0, o1, o2, o3, _, _, _, _, _, _, _, _, _, _, _, _, _, rfl, ho⟩
  rw [if_pos hx]
  have hq : q_resume P p n (F, w, ms, Bf, lg, (c0, c1, c2, c3), (en, gv, ft, mk)) = _ := (if_pos hp).trans ((if_pos hf2).trans (if_pos hx))
  rw [hq]
  clear hq hf
  obtain ⟨t, ht, rfl, ht2⟩ := ty_j hP hp
  obtain ⟨N, hN, rfl⟩ := in_nI (by decide) hx
  obtain ⟨e, he, hw, -, -⟩ := Iv.own hI ht hP (Or.inl ht2)
  have h3 : F 0 t ≠ 3 := by rw [ht2]; decide
  dsimp only
  rw [cnI (by omega)]
  refine EV.ifT rfl (by decide) ?_
  repeat refine EV.s rfl rfl rfl ?_
  simp only [q_run, hw, cnI (show t < 2 ^ 31 by omega), cnI (show N < 2 ^ 31 by omega), cnI (show e < 2 ^ 31 by omega)]
  generalize hr : rnn P F ms e N w (fun k => w t (3 + k)) (w t 2) 0 0 (-1) = x
  obtain ⟨hw0, w', r', pc', m', gv', ft'⟩ := x
  have kp := rnn_keep h3 N _ _ _ _ _ _ hr
  obtain ⟨rv, H', ⟨rfl, sp', rfl⟩, hrt⟩ := c_runThread (F := F) (w := w) (ms := ms) (h := h) (c0 := c0) (c1 := c1) (c2 := c2) (c3 := c3) (lg := lg) (o0 := o0) (o1 := o1) (o2 := o2) (o3 := o3) (Bf := Bf) (D := D) (L := L) (hm := hm) (hs := hs) (hh := hh) (sp := sp) (L2 := L2) (gm := gm) (gs := gs) (gh := gh) (key := key) (mark := mark) (X := X) (S := S) (Bk := Bk) (I := I) (K := K) d hP hO e he t ht h3 hw N (by omega) (w t 2) (fun k => w t (3 + k)) (fun k hk => rfl) hw0 w' r' pc' m' gv' ft' hr
  rw [cxw_self] at hrt
  refine EV.cv rfl rfl ((wd_at (q := 0) hD rfl rfl)) (Nat.le_of_ble_eq_true rfl) (Nat.le_of_ble_eq_true rfl) (hrt) ?_
  refine EV.ri rfl rfl ?_
  exact ⟨_, _, rfl, rfl, hw0, gv', ft', m', _, _, _, _, _, _, _, _, _, _, _, _, _, rfl, by rw [if_neg kp.2.2]; exact ⟨rfl, rfl, rfl, rfl⟩⟩
end CRW
