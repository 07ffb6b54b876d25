/-! New cells: heaps that count their cells. -/
theorem wd_2 {as : List Nat} {os : List e_O} {h : e_H} : (wd as os h).2 = h.2 := rfl
theorem wd_f {as : List Nat} {os : List e_O} {f : Nat → Option e_O} {c c' : Option (Nat × Nat)} : ((wd as os (f, c)).1, c') = wd as os (f, c') := rfl
theorem wd_nw {as : List Nat} {os : List e_O} {f : Nat → Option e_O} {z u n : Nat} {o : e_O} (hn : z ∉ as) (hl : as.length = os.length) : ev_new (wd as os (f, some (z, u))) o n = some (z, wd (as ++ [z]) (os ++ [o]) (f, some (z + 1, u + n))) := by
  rw [wd_app hl, wd_cons, wd_nil, ← wd_upo hn]
  rfl
section EIN
variable {bs : Nat} {sa : Nat → Nat} {d : Nat} {T : e_M} {E : e_C ⊕ (Option Value × e_H) → Prop}
variable {pc nx x1 x2 idx : Nat} {v : Value} {ts : List Nat} {lo : e_L} {r : List Value} {as : List Nat} {os : List e_O} {f : Nat → Option e_O} {z u : Nat}
theorem EI.newA {x : Int32} (n z' u' : Nat) (as' : List Nat) (os' : List e_O) (hn : z ∉ as) (hl : as.length = os.length) (hf : ev_fnd T.2 pc = some (.newarray .int, nx, x1, x2, v, ts)) (hx : x = nI n) (h5 : n ≤ 5000) (ha : as ++ [z] = as') (ho : os ++ [.inr (.inl (n, fun _ => 0))] = os') (hz : z + 1 = z') (hu : u + n = u') (kk : ev_E tbs bs sa d T E (nx, lo, .ref z :: r, wd as' os' (f, some (z', u')))) : ev_E tbs bs sa d T E (pc, lo, .int x :: r, wd as os (f, some (z, u))) := by
  subst ha; subst ho; subst hz; subst hu; subst hx
  refine EV.st ?_ kk
  have hc : (nI n).toNatClampNeg = n := nI_clamp (by omega)
  have hp : ¬ nI n < 0 := nI_pos (by omega)
  simp only [ev_stp, hf, ev_ins, ev_newa, hc, hp, not_false_eq_true, decide_true, Nat.ble_eq_true_of_le h5, wd_nw hn hl, Bool.and_self, cond_true, ev_go]
theorem EI.newL {x : Int32} (n z' u' : Nat) (as' : List Nat) (os' : List e_O) (hn : z ∉ as) (hl : as.length = os.length) (hf : ev_fnd T.2 pc = some (.newarray .long, nx, x1, x2, v, ts)) (hx : x = nI n) (h5 : n ≤ 5000) (ha : as ++ [z] = as') (ho : os ++ [.inr (.inr (.inl (n, fun _ => 0)))] = os') (hz : z + 1 = z') (hu : u + n = u') (kk : ev_E tbs bs sa d T E (nx, lo, .ref z :: r, wd as' os' (f, some (z', u')))) : ev_E tbs bs sa d T E (pc, lo, .int x :: r, wd as os (f, some (z, u))) := by
  subst ha; subst ho; subst hz; subst hu; subst hx
  refine EV.st ?_ kk
  have hc : (nI n).toNatClampNeg = n := nI_clamp (by omega)
  have hp : ¬ nI n < 0 := nI_pos (by omega)
  simp only [ev_stp, hf, ev_ins, ev_newa, hc, hp, not_false_eq_true, decide_true, Nat.ble_eq_true_of_le h5, wd_nw hn hl, Bool.and_self, cond_true, ev_go]
theorem EI.newR {x : Int32} (n z' u' : Nat) (as' : List Nat) (os' : List e_O) (hn : z ∉ as) (hl : as.length = os.length) (hf : ev_fnd T.2 pc = some (.anewarray idx, nx, x1, x2, v, ts)) (hx : x = nI n) (h5 : n ≤ 5000) (ha : as ++ [z] = as') (ho : os ++ [.inr (.inr (.inr (n, fun _ => none)))] = os') (hz : z + 1 = z') (hu : u + n = u') (kk : ev_E tbs bs sa d T E (nx, lo, .ref z :: r, wd as' os' (f, some (z', u')))) : ev_E tbs bs sa d T E (pc, lo, .int x :: r, wd as os (f, some (z, u))) := by
  subst ha; subst ho; subst hz; subst hu; subst hx
  refine EV.st ?_ kk
  have hc : (nI n).toNatClampNeg = n := nI_clamp (by omega)
  have hp : ¬ nI n < 0 := nI_pos (by omega)
  simp only [ev_stp, hf, ev_ins, ev_newa, hc, hp, not_false_eq_true, decide_true, Nat.ble_eq_true_of_le h5, wd_nw hn hl, Bool.and_self, cond_true, ev_go]
theorem EI.newO (z' u' : Nat) (as' : List Nat) (os' : List e_O) (hn : z ∉ as) (hl : as.length = os.length) (hf : ev_fnd T.2 pc = some (.new idx, nx, x1, x2, v, ts)) (ha : as ++ [z] = as') (ho : os ++ [.inl (x1, ts.map ev_z)] = os') (hz : z + 1 = z') (hu : u + x2 = u') (kk : ev_E tbs bs sa d T E (nx, lo, .ref z :: r, wd as' os' (f, some (z', u')))) : ev_E tbs bs sa d T E (pc, lo, r, wd as os (f, some (z, u))) := by
  subst ha; subst ho; subst hz; subst hu
  refine EV.st ?_ kk
  simp only [ev_stp, hf, ev_ins, ev_nob, wd_nw hn hl, ev_go]
/-- a call that makes cells -/
theorem wd_call {c c' : Option (Nat × Nat)} {as1 nw : List Nat} {os1 os2 on : List e_O} {y : Nat} {avs : List Value} {rv : Option Value} (ps : List Nat) (hD : as.Nodup) (hl : as.length = os.length) (hr : ev_run tbs bs sa d y avs (wd as1 os1 ((wd as os (f, c)).1, c)) rv (wd (as1 ++ nw) (os2 ++ on) ((wd as os (f, c)).1, c'))) (h1 : ps.map (fun p => as[p]?) = as1.map some) (h2 : ps.map (fun p => os[p]?) = os1.map some) (h3 : os2.length = ps.length) (h4 : nw.length = on.length) (ho : ∀ a ∈ nw, a ∉ as) :
    ev_run tbs bs sa d y avs (wd as os (f, c)) rv (wd (as ++ nw) (setm os ps os2 ++ on) (f, c')) := by
  have q := hr
  have e1 : wd as1 os1 ((wd as os (f, c)).1, c) = wd as os (f, c) := by
    rw [wd_f]; exact wd_in hD h1 h2
  have hl1 : as1.length = os2.length := by
    rw [h3]
    have := congrArg List.length h1
    simpa using this.symm
  have e2 : wd (as1 ++ nw) (os2 ++ on) ((wd as os (f, c)).1, c') = wd (as ++ nw) (setm os ps os2 ++ on) (f, c') := by
    rw [wd_f, wd_app hl1, wd_swap h4 ho, wd_out2 hD hl h1 h3, wd_app (by rw [setm_len]; exact hl)]
  rw [e1, e2] at q
  exact q
theorem EI.call {cf : e_C} {y nx : Nat} {avs r : List Value} {lo : e_L} {rv : Option Value} {h' : e_H} (h'' : e_H) (hs : ev_stp bs sa T cf = some (.inr (.inr (y, avs, nx, lo, r)))) (hr : ev_run tbs bs sa d y avs cf.2.2.2 rv h') (he : h' = h'') (k : ev_E tbs bs sa d T E (nx, lo, rv.toList ++ r, h'')) : ev_E tbs bs sa d T E cf := by
  subst he
  exact EV.call hs hr k
set_option maxHeartbeats 1000000 in
set_option maxRecDepth 100000 in
theorem i_hash (d a z u : Nat) (f : Nat → Option e_O) (haz : a < z) (hb : bs ≤ a) :
    ev_run tbs bs sa (d + 1) 0 [.ref a] (wd [a] [.inl (0, [.null, .null, .null, .int 0])] (f, some (z, u))) none (wd [a, z, z + 1, z + 2] [.inl (0, [.ref z, .ref (z + 1), .ref (z + 2), .int 0]), .inr (.inl (64, fun _ => 0)), .inr (.inl (64, fun _ => 0)), .inr (.inl (8, fun _ => 0))] (f, some (z + 3, u + 136))) := by
  have hD : [a].Nodup := by simp
  have hD1 : [a, z].Nodup := by simp; omega
  have hD2 : [a, z, z + 1].Nodup := by simp; omega
  have hD3 : [a, z, z + 1, z + 2].Nodup := by simp; omega
  refine RUN.mk (T := t_X0_init) rfl (Nat.le_of_ble_eq_true rfl) ?_
  repeat refine EV.s rfl rfl rfl ?_
  refine EV.st rfl ?_
  repeat refine EV.s rfl rfl rfl ?_
  refine EI.newA 64 (z + 1) (u + 64) [a, z] _ (by simp; omega) rfl rfl rfl (by decide) rfl rfl rfl rfl ?_
  refine EW.put 0 hD1 rfl rfl rfl hb (Nat.le_of_ble_eq_true rfl) rfl ?_
  try simp only [setm, List.set_cons_succ, List.set_cons_zero, Option.toList, List.nil_append, List.cons_append]
  repeat refine EV.s rfl rfl rfl ?_
  refine EI.newA 64 (z + 2) (u + 128) [a, z, z + 1] _ (by simp; omega) rfl rfl rfl (by decide) rfl rfl rfl rfl ?_
  refine EW.put 0 hD2 rfl rfl rfl hb (Nat.le_of_ble_eq_true rfl) rfl ?_
  try simp only [setm, List.set_cons_succ, List.set_cons_zero, Option.toList, List.nil_append, List.cons_append]
  repeat refine EV.s rfl rfl rfl ?_
  refine EI.newA 8 (z + 3) (u + 136) [a, z, z + 1, z + 2] _ (by simp; omega) rfl rfl rfl (by decide) rfl rfl rfl rfl ?_
  refine EW.put 0 hD3 rfl rfl rfl hb (Nat.le_of_ble_eq_true rfl) rfl ?_
  try simp only [setm, List.set_cons_succ, List.set_cons_zero, Option.toList, List.nil_append, List.cons_append]
  refine EV.ret rfl ?_
  rfl
set_option maxHeartbeats 1000000 in
set_option maxRecDepth 100000 in
theorem i_page (d a z u : Nat) (f : Nat → Option e_O) (haz : a < z) (hb : bs ≤ a) :
    ev_run tbs bs sa (d + 1) 9 [.ref a] (wd [a] [.inl (1, [.null, .null, .int 0, .int 0, .int 0, .int 0, .int 0, .int 0])] (f, some (z, u))) none (wd [a, z, z + 1] [.inl (1, [.ref z, .ref (z + 1), .int 0, .int (-1), .int 0, .int 0, .int 0, .int 0]), .inr (.inl (32, fun _ => 0)), .inr (.inl (8, fun _ => 0))] (f, some (z + 2, u + 40))) := by
  have hD1 : [a, z].Nodup := by simp; omega
  have hD2 : [a, z, z + 1].Nodup := by simp; omega
  refine RUN.mk (T := t_X1_init) rfl (Nat.le_of_ble_eq_true rfl) ?_
  repeat refine EV.s rfl rfl rfl ?_
  refine EV.st rfl ?_
  repeat refine EV.s rfl rfl rfl ?_
  refine EI.newA 32 (z + 1) (u + 32) [a, z] _ (by simp; omega) rfl rfl rfl (by decide) rfl rfl rfl rfl ?_
  refine EW.put 0 hD1 rfl rfl rfl hb (Nat.le_of_ble_eq_true rfl) rfl ?_
  try simp only [setm, List.set_cons_succ, List.set_cons_zero, Option.toList, List.nil_append, List.cons_append]
  repeat refine EV.s rfl rfl rfl ?_
  refine EI.newA 8 (z + 2) (u + 40) [a, z, z + 1] _ (by simp; omega) rfl rfl rfl (by decide) rfl rfl rfl rfl ?_
  refine EW.put 0 hD2 rfl rfl rfl hb (Nat.le_of_ble_eq_true rfl) rfl ?_
  try simp only [setm, List.set_cons_succ, List.set_cons_zero, Option.toList, List.nil_append, List.cons_append]
  repeat refine EV.s rfl rfl rfl ?_
  refine EW.put 0 hD2 rfl rfl rfl hb (Nat.le_of_ble_eq_true rfl) rfl ?_
  try simp only [setm, List.set_cons_succ, List.set_cons_zero, Option.toList, List.nil_append, List.cons_append]
  repeat refine EV.s rfl rfl rfl ?_
  refine EW.put 0 hD2 rfl rfl rfl hb (Nat.le_of_ble_eq_true rfl) rfl ?_
  try simp only [setm, List.set_cons_succ, List.set_cons_zero, Option.toList, List.nil_append, List.cons_append]
  refine EV.ret rfl ?_
  rfl
set_option maxHeartbeats 1000000 in
set_option maxRecDepth 100000 in
theorem i_runner (d a z u : Nat) (f : Nat → Option e_O) (haz : a < z) (hb : bs ≤ a) :
    ev_run tbs bs sa (d + 1) 17 [.ref a] (wd [a] [.inl (2, [.null, .int 0, .int 0, .int 0, .int 0])] (f, some (z, u))) none (wd [a, z] [.inl (2, [.ref z, .int (-1), .int (-1), .int (-1), .int (-1)]), .inr (.inr (.inr (32, fun _ => none)))] (f, some (z + 1, u + 32))) := by
  have hD1 : [a, z].Nodup := by simp; omega
  refine RUN.mk (T := t_X2_init) rfl (Nat.le_of_ble_eq_true rfl) ?_
  repeat refine EV.s rfl rfl rfl ?_
  refine EV.st rfl ?_
  repeat refine EV.s rfl rfl rfl ?_
  refine EI.newR 32 (z + 1) (u + 32) [a, z] _ (by simp; omega) rfl rfl rfl (by decide) rfl rfl rfl rfl ?_
  refine EW.put 0 hD1 rfl rfl rfl hb (Nat.le_of_ble_eq_true rfl) rfl ?_
  try simp only [setm, List.set_cons_succ, List.set_cons_zero, Option.toList, List.nil_append, List.cons_append]
  repeat refine EV.s rfl rfl rfl ?_
  refine EW.put 0 hD1 rfl rfl rfl hb (Nat.le_of_ble_eq_true rfl) rfl ?_
  try simp only [setm, List.set_cons_succ, List.set_cons_zero, Option.toList, List.nil_append, List.cons_append]
  repeat refine EV.s rfl rfl rfl ?_
  refine EW.put 0 hD1 rfl rfl rfl hb (Nat.le_of_ble_eq_true rfl) rfl ?_
  try simp only [setm, List.set_cons_succ, List.set_cons_zero, Option.toList, List.nil_append, List.cons_append]
  repeat refine EV.s rfl rfl rfl ?_
  refine EW.put 0 hD1 rfl rfl rfl hb (Nat.le_of_ble_eq_true rfl) rfl ?_
  try simp only [setm, List.set_cons_succ, List.set_cons_zero, Option.toList, List.nil_append, List.cons_append]
  repeat refine EV.s rfl rfl rfl ?_
  refine EW.put 0 hD1 rfl rfl rfl hb (Nat.le_of_ble_eq_true rfl) rfl ?_
  try simp only [setm, List.set_cons_succ, List.set_cons_zero, Option.toList, List.nil_append, List.cons_append]
  refine EV.ret rfl ?_
  rfl
end EIN
