section COPN
variable {bs : Nat} {sa : Nat → Nat} {d : Nat} {T : e_M} {E : e_C ⊕ (Option Value × e_H) → Prop}
theorem EV.opn {pc : Nat} {lo : e_L} {sk : List Value} {H : e_H} (as1 : List Nat) (os1 : List e_O) (hn : as1.Nodup) (hf : as1.map H.1 = os1.map some) (k : ev_E tbs bs sa d T E (pc, lo, sk, wd as1 os1 H)) : ev_E tbs bs sa d T E (pc, lo, sk, H) := by
  obtain ⟨hl, h1⟩ := map_fact hf
  rwa [wd_self hn hl h1] at k
theorem EV.cls {pc : Nat} {lo : e_L} {sk : List Value} {H H' : e_H} (e : H = H') (k : ev_E tbs bs sa d T E (pc, lo, sk, H')) : ev_E tbs bs sa d T E (pc, lo, sk, H) := by
  rwa [e]
theorem CT.at {y : Nat} {avs : List Value} {as1 : List Nat} {os1 : List e_O} {Q : Option Value → List e_O → Prop} {H : e_H} (hc : CT bs sa d y avs as1 os1 Q) (hn : as1.Nodup) (hf : as1.map H.1 = os1.map some) : ∃ rv os2, (Q rv os2 ∧ os2.length = as1.length) ∧ ev_run tbs bs sa d y avs H rv (wd as1 os2 H) := by
  obtain ⟨hl, h1⟩ := map_fact hf
  obtain ⟨rv, os2, hq, hr⟩ := hc H
  rw [wd_self hn hl h1] at hr
  exact ⟨rv, os2, hq, hr⟩
end COPN
theorem RUN.hq {bs : Nat} {sa : Nat → Nat} {d y : Nat} {avs : List Value} {rv : Option Value} {H h' h'' : e_H} (hr : ev_run tbs bs sa d y avs H rv h') (e : h' = h'') : ev_run tbs bs sa d y avs H rv h'' := e ▸ hr
theorem nd_app {as as1 cs : List Nat} (hD : as.Nodup) (ps : List Nat) (hp : ps.Nodup) (h : ps.map (fun p => as[p]?) = as1.map some) (hc : cs.Nodup) (ho : ∀ a ∈ cs, a ∉ as) : (as1 ++ cs).Nodup := by
  rw [List.nodup_append]
  refine ⟨nd_sub hD ps hp h, hc, fun a ha b hb e => ?_⟩
  subst e
  refine ho a hb ?_
  have : some a ∈ ps.map (fun p => as[p]?) := by rw [h]; exact List.mem_map.mpr ⟨a, ha, rfl⟩
  obtain ⟨p, -, hp⟩ := List.mem_map.mp this
  exact List.mem_of_getElem? hp
theorem wd_app {H : e_H} : ∀ {as1 cs : List Nat} {os1 oc : List e_O}, as1.length = os1.length → wd (as1 ++ cs) (os1 ++ oc) H = wd as1 os1 (wd cs oc H)
  | [], cs, [], oc, _ => by rw [wd_nil]; rfl
  | a :: as, cs, o :: os, oc, h => by
    rw [wd_cons, List.cons_append, List.cons_append, wd_cons, wd_app (by simpa using h)]
  | [], _, o :: os, _, h => by simp at h
  | a :: as, _, [], _, h => by simp at h
theorem wd_swap {as : List Nat} {os : List e_O} {G : e_H} : ∀ {cs : List Nat} {oc : List e_O}, cs.length = oc.length → (∀ a ∈ cs, a ∉ as) → wd cs oc (wd as os G) = wd as os (wd cs oc G)
  | [], [], _, _ => by rw [wd_nil, wd_nil]
  | a :: cs, o :: oc, h, ho => by
    rw [wd_cons, wd_cons, wd_swap (by simpa using h) (fun b hb => ho b (List.mem_cons_of_mem _ hb)), wd_upo (ho a List.mem_cons_self)]
  | [], o :: os, h, _ => by simp at h
  | a :: as, [], h, _ => by simp at h
theorem wd_cls {as : List Nat} {os os' : List e_O} {G G' : e_H} {as2 : List Nat} {os2 : List e_O} (n : Nat) (ps : List Nat) (hD : as.Nodup) (hl : as.length = os.length) (h1 : ps.map (fun p => as[p]?) = (as2.take n).map some) (hlen : as2.length = os2.length) (hp : (os2.take n).length = ps.length) (ho : ∀ a ∈ as2.drop n, a ∉ as) (hG : wd (as2.drop n) (os2.drop n) G = G') (hs : setm os ps (os2.take n) = os') : wd as2 os2 (wd as os G) = wd as os' G' := by
  have e1 : as2 = as2.take n ++ as2.drop n := (List.take_append_drop n as2).symm
  have e2 : os2 = os2.take n ++ os2.drop n := (List.take_append_drop n os2).symm
  have l1 : (as2.take n).length = (os2.take n).length := by rw [List.length_take, List.length_take, hlen]
  rw [e1, e2, wd_app l1, wd_swap (by rw [List.length_drop, List.length_drop, hlen]) ho, hG, wd_out2 hD hl h1 hp, hs]
section CMS
variable {bs : Nat} {sa : Nat → Nat}
theorem mea_eq {K I Dm F W : Nat → Int32} {tp pl rt : Int32} {j : Nat} (hj : j < 8) : sha K I (va_cpy W (upd (upd (upd (upd (va_cpy Dm F 0 0 8) 8 tp) 9 pl) 10 rt) 11 0) 0 12 32) 44 j = mea K I Dm tp pl rt W j := by
  refine sha_congr (fun _ _ => rfl) (fun _ _ => rfl) (fun i hi => ?_) hj
  simp only [va_cpy, upd]
  by_cases c : i < 8
  · rw [if_neg (by omega), if_pos c]
    simp only [show ¬ i = 11 by omega, show ¬ i = 10 by omega, show ¬ i = 9 by omega, show ¬ i = 8 by omega, if_false]
    rw [if_pos (by omega), Nat.sub_zero, Nat.zero_add]
  rw [if_neg c]
  by_cases c2 : 12 ≤ i
  · rw [if_pos (by omega), if_neg (by omega), if_neg (by omega), if_neg (by omega), if_neg (by omega), Nat.zero_add]
  · have : i = 8 ∨ i = 9 ∨ i = 10 ∨ i = 11 := by omega
    rcases this with rfl | rfl | rfl | rfl <;> simp
set_option maxHeartbeats 1000000 in
set_option maxRecDepth 100000 in
theorem r_extend (d : Nat) (x a m s t pe ge pp wp : Nat) (pl tp rt L : Int32) (v0 v1 v2 v4 v5 v6 v7 v8 v9 v10 u0 u2 u3 u4 u5 u6 u7 y1 y3 y4 y6 y7 : Value) (F G H I K D W : Nat → Int32) (hD : [x, a, m, s, t, sa 0, sa 1, pe, ge, pp, wp].Nodup) (hba : bs ≤ a) (hbm : bs ≤ m) (hbs : bs ≤ s) (hbt : bs ≤ t) (hbg : bs ≤ ge) :
    CT bs sa (d + 4) 60 [.ref x, .ref pe, .ref pp, .int pl] [x, a, m, s, t, sa 0, sa 1, pe, ge, pp, wp] [.inl (4, [v0, v1, v2, .ref a, v4, v5, v6, v7, v8, v9, v10]), .inl (0, [.ref m, .ref s, .ref t, .int L]), .inr (.inl (64, F)), .inr (.inl (64, G)), .inr (.inl (8, H)), .inr (.inl (8, I)), .inr (.inl (64, K)), .inl (1, [u0, .ref ge, u2, u3, u4, u5, u6, u7]), .inr (.inl (8, D)), .inl (1, [.ref wp, y1, .int tp, y3, y4, .int rt, y6, y7]), .inr (.inl (32, W))]
      (fun rv o => rv = none ∧ ∃ L' F' G' H', o = [.inl (4, [v0, v1, v2, .ref a, v4, v5, v6, v7, v8, v9, v10]), .inl (0, [.ref m, .ref s, .ref t, .int L']), .inr (.inl (64, F')), .inr (.inl (64, G')), .inr (.inl (8, H')), .inr (.inl (8, I)), .inr (.inl (64, K)), .inl (1, [u0, .ref ge, u2, u3, u4, u5, u6, u7]), .inr (.inl (8, va_cpy (mea K I D tp pl rt W) D 0 0 8)), .inl (1, [.ref wp, y1, .int tp, y3, y4, .int rt, y6, y7]), .inr (.inl (32, W))]) := by
  refine CT.mk (T := t_X4_extendMeasure) rfl (Nat.le_of_ble_eq_true rfl) (fun h => ?_)
  have hd2 : [a, m].Nodup := nd_sub hD [1, 2] (by decide) rfl
  repeat (first | refine EV.s rfl rfl rfl ?_ | refine EW.get 0 hD rfl rfl rfl rfl ?_)
  refine EW.cv 1 [1] hD rfl (fun h0 => r_begin (d + 2) a (.ref m) (.ref s) (.ref t) (.int L) rfl h0 (nd_sub hD [1] (by decide) rfl) hba) rfl rfl rfl rfl (Nat.le_of_ble_eq_true rfl) (Nat.le_of_ble_eq_true rfl) rfl rfl rfl rfl ?_
  try simp only [setm, List.set_cons_succ, List.set_cons_zero, Option.toList, List.nil_append, List.cons_append]
  repeat (first | refine EV.s rfl rfl rfl ?_ | refine EW.get 0 hD rfl rfl rfl rfl ?_ | refine EW.get 7 hD rfl rfl rfl rfl ?_)
  refine EW.cv 1 [1, 2, 8] hD rfl (fun h0 => r_addAll (d + 1) a m s t ge 0 8 8 F D h0 (nd_sub hD [1, 2, 8] (by decide) rfl) hba hbm (by decide) (by decide) (by decide)) rfl rfl rfl rfl (Nat.le_of_ble_eq_true rfl) (Nat.le_of_ble_eq_true rfl) rfl rfl rfl rfl ?_
  try simp only [setm, List.set_cons_succ, List.set_cons_zero, Option.toList, List.nil_append, List.cons_append]
  repeat (first | refine EV.s rfl rfl rfl ?_ | refine EW.get 0 hD rfl rfl rfl rfl ?_ | refine EW.get 9 hD rfl rfl rfl rfl ?_)
  refine EW.cv 1 [1, 2] hD rfl (fun h0 => r_add (d + 2) a m 8 s t tp _ h0 hd2 hba hbm (by decide)) rfl rfl rfl rfl (Nat.le_of_ble_eq_true rfl) (Nat.le_of_ble_eq_true rfl) rfl rfl rfl rfl ?_
  try simp only [setm, List.set_cons_succ, List.set_cons_zero, Option.toList, List.nil_append, List.cons_append]
  repeat (first | refine EV.s rfl rfl rfl ?_ | refine EW.get 0 hD rfl rfl rfl rfl ?_ | refine EW.get 9 hD rfl rfl rfl rfl ?_)
  refine EW.cv 1 [1, 2] hD rfl (fun h0 => r_add (d + 2) a m 9 s t pl _ h0 hd2 hba hbm (by decide)) rfl rfl rfl rfl (Nat.le_of_ble_eq_true rfl) (Nat.le_of_ble_eq_true rfl) rfl rfl rfl rfl ?_
  try simp only [setm, List.set_cons_succ, List.set_cons_zero, Option.toList, List.nil_append, List.cons_append]
  repeat (first | refine EV.s rfl rfl rfl ?_ | refine EW.get 0 hD rfl rfl rfl rfl ?_ | refine EW.get 9 hD rfl rfl rfl rfl ?_)
  refine EW.cv 1 [1, 2] hD rfl (fun h0 => r_add (d + 2) a m 10 s t rt _ h0 hd2 hba hbm (by decide)) rfl rfl rfl rfl (Nat.le_of_ble_eq_true rfl) (Nat.le_of_ble_eq_true rfl) rfl rfl rfl rfl ?_
  try simp only [setm, List.set_cons_succ, List.set_cons_zero, Option.toList, List.nil_append, List.cons_append]
  repeat (first | refine EV.s rfl rfl rfl ?_ | refine EW.get 0 hD rfl rfl rfl rfl ?_ | refine EW.get 9 hD rfl rfl rfl rfl ?_)
  refine EW.cv 1 [1, 2] hD rfl (fun h0 => r_add (d + 2) a m 11 s t 0 _ h0 hd2 hba hbm (by decide)) rfl rfl rfl rfl (Nat.le_of_ble_eq_true rfl) (Nat.le_of_ble_eq_true rfl) rfl rfl rfl rfl ?_
  try simp only [setm, List.set_cons_succ, List.set_cons_zero, Option.toList, List.nil_append, List.cons_append]
  repeat (first | refine EV.s rfl rfl rfl ?_ | refine EW.get 0 hD rfl rfl rfl rfl ?_ | refine EW.get 9 hD rfl rfl rfl rfl ?_)
  refine EW.cv 1 [1, 2, 10] hD rfl (fun h0 => r_addAll (d + 1) a m s t wp 12 32 32 _ W h0 (nd_sub hD [1, 2, 10] (by decide) rfl) hba hbm (by decide) (by decide) (by decide)) rfl rfl rfl rfl (Nat.le_of_ble_eq_true rfl) (Nat.le_of_ble_eq_true rfl) rfl rfl rfl rfl ?_
  try simp only [setm, List.set_cons_succ, List.set_cons_zero, Option.toList, List.nil_append, List.cons_append]
  repeat (first | refine EV.s rfl rfl rfl ?_ | refine EW.get 0 hD rfl rfl rfl rfl ?_ | refine EW.get 7 hD rfl rfl rfl rfl ?_)
  refine EW.cvE 1 [1, 2, 3, 4, 5, 6, 8] hD (r_finish d a m s t ge 44 8 0 _ G H I K D (nd_sub hD [1, 2, 3, 4, 5, 6, 8] (by decide) rfl) hba hbm hbs hbt hbg (by decide) (by decide) (by decide)) rfl rfl rfl rfl rfl (Nat.le_of_ble_eq_true rfl) (Nat.le_of_ble_eq_true rfl) rfl rfl rfl ?_
  rintro rv os2 ⟨rfl, G2, H2, rfl⟩
  try simp only [setm, List.set_cons_succ, List.set_cons_zero, Option.toList, List.nil_append, List.cons_append]
  rw [cpy_ext (n := 8) (g := D) (at_ := 0) (fun j hj => mea_eq (F := F) (tp := tp) (pl := pl) (rt := rt) (Dm := D) (W := W) (K := K) (I := I) hj)]
  exact EV.ret rfl ⟨_, _, rfl, _, ⟨⟨rfl, _, _, _, _, rfl⟩, rfl⟩, rfl⟩
set_option maxHeartbeats 1000000 in
set_option maxRecDepth 100000 in
theorem c_extend {B P z : Nat} {F w ms : Nat → Nat → Int32} {h : e_H} {c0 c1 c2 c3 : Int32} {lg : Int64} {o0 o1 o2 o3 : Int32} {Bf D : Nat → Int32} {L : Int32} {hm hs hh : Nat → Int32} {sp : Nat → Option Nat} {L2 : Int32} {gm gs gh key mark X S Bk I K : Nat → Int32} (d : Nat) (hO : cOK bs B P z sa) (e p : Nat) (he : e < P) (hp : p < P) (hep : e ≠ p) (pl : Int32) :
    ∃ L' hm' hs' hh', ev_run tbs bs sa (d + 4) 60 [.ref B, .ref (B + 10 + 3 * e), .ref (B + 10 + 3 * p), .int pl] (wd (cas B z sa) (cos B P z c0 c1 c2 c3 lg o0 o1 o2 o3 Bf D L hm hs hh sp L2 gm gs gh key mark X S Bk I K) (pgH B P F w ms h)) none (wd (cas B z sa) (cos B P z c0 c1 c2 c3 lg o0 o1 o2 o3 Bf D L' hm' hs' hh' sp L2 gm gs gh key mark X S Bk I K) (pgH B P F w (upp ms e (va_cpy (mea K I (ms e) (F 0 p) pl (F 3 p) (w p)) (ms e) 0 0 8)) h)) := by
  have hbB := hO.2.2.1
  have ho : ∀ a ∈ [B + 10 + 3 * e, B + 12 + 3 * e, B + 10 + 3 * p, B + 11 + 3 * p], a ∉ cas B z sa := by
    intro a ha
    refine hO.2.1 a ?_ ?_ <;> simp at ha <;> omega
  have hn : [B, B + 3, B + 4, B + 5, B + 6, sa 0, sa 1, B + 10 + 3 * e, B + 12 + 3 * e, B + 10 + 3 * p, B + 11 + 3 * p].Nodup := nd_app (as1 := [B, B + 3, B + 4, B + 5, B + 6, sa 0, sa 1]) (cs := [B + 10 + 3 * e, B + 12 + 3 * e, B + 10 + 3 * p, B + 11 + 3 * p]) hO.1 [0, 3, 4, 5, 6, 20, 21] (by decide) rfl (by simp; omega) ho
  have hfx : [B, B + 3, B + 4, B + 5, B + 6, sa 0, sa 1, B + 10 + 3 * e, B + 12 + 3 * e, B + 10 + 3 * p, B + 11 + 3 * p].map (wd (cas B z sa) (cos B P z c0 c1 c2 c3 lg o0 o1 o2 o3 Bf D L hm hs hh sp L2 gm gs gh key mark X S Bk I K) (pgH B P F w ms h)).1 = List.map some (α := e_O) [.inl (4, [.ref (B + 9), .ref (B + 1), .ref (B + 2), .ref (B + 3), .ref z, .ref (B + 7), .long lg, .int c3, .int c1, .int c2, .int c0]), .inl (0, [.ref (B + 4), .ref (B + 5), .ref (B + 6), .int L]), .inr (.inl (64, hm)), .inr (.inl (64, hs)), .inr (.inl (8, hh)), .inr (.inl (8, I)), .inr (.inl (64, K)), .inl (1, pfs B F e), .inr (.inl (8, ms e)), .inl (1, pfs B F p), .inr (.inl (32, w p))] := by
    have f1 : ∀ a ∈ [B + 10 + 3 * e, B + 12 + 3 * e, B + 10 + 3 * p, B + 11 + 3 * p], (wd (cas B z sa) (cos B P z c0 c1 c2 c3 lg o0 o1 o2 o3 Bf D L hm hs hh sp L2 gm gs gh key mark X S Bk I K) (pgH B P F w ms h)).1 a = (pgH B P F w ms h).1 a := fun a ha => wd_out (ho a ha)
    simp only [List.map_cons, List.map_nil]
    rw [f1 (B + 10 + 3 * e) (by simp), f1 (B + 12 + 3 * e) (by simp), f1 (B + 10 + 3 * p) (by simp), f1 (B + 11 + 3 * p) (by simp), pg_0 he, pg_0 hp, pg_1 hp, pg_2 he]
    rw [wd_at (q := 0) hO.1 rfl rfl, wd_at (q := 3) hO.1 rfl rfl, wd_at (q := 4) hO.1 rfl rfl, wd_at (q := 5) hO.1 rfl rfl, wd_at (q := 6) hO.1 rfl rfl, wd_at (q := 20) hO.1 rfl rfl, wd_at (q := 21) hO.1 rfl rfl]
    rfl
  obtain ⟨rv, os2, ⟨⟨rfl, L', F', G', H', rfl⟩, -⟩, hr⟩ := CT.at (H := wd (cas B z sa) (cos B P z c0 c1 c2 c3 lg o0 o1 o2 o3 Bf D L hm hs hh sp L2 gm gs gh key mark X S Bk I K) (pgH B P F w ms h)) (r_extend (bs := bs) (sa := sa) d B (B + 3) (B + 4) (B + 5) (B + 6) (B + 10 + 3 * e) (B + 12 + 3 * e) (B + 10 + 3 * p) (B + 11 + 3 * p) pl (F 0 p) (F 3 p) L (.ref (B + 9)) (.ref (B + 1)) (.ref (B + 2)) (.ref z) (.ref (B + 7)) (.long lg) (.int c3) (.int c1) (.int c2) (.int c0) (.ref (B + 11 + 3 * e)) (.int (F 0 e)) (.int (F 1 e)) (.int (F 2 e)) (.int (F 3 e)) (.int (F 4 e)) (.int (F 5 e)) (.ref (B + 12 + 3 * p)) (.int (F 1 p)) (.int (F 2 p)) (.int (F 4 p)) (.int (F 5 p)) hm hs hh I K (ms e) (w p) hn (by omega) (by omega) (by omega) (by omega) (by omega)) hn hfx
  refine ⟨L', F', G', H', ?_⟩
  refine RUN.hq hr (wd_cls (os' := (cos B P z c0 c1 c2 c3 lg o0 o1 o2 o3 Bf D L' F' G' H' sp L2 gm gs gh key mark X S Bk I K)) (G' := pgH B P F w (upp ms e (va_cpy (mea K I (ms e) (F 0 p) pl (F 3 p) (w p)) (ms e) 0 0 8)) h) 7 [0, 3, 4, 5, 6, 20, 21] hO.1 rfl rfl rfl rfl ho ?_ rfl)
  · show wd [B + 10 + 3 * e, B + 12 + 3 * e, B + 10 + 3 * p, B + 11 + 3 * p] [.inl (1, pfs B F e), .inr (.inl (8, _)), .inl (1, pfs B F p), .inr (.inl (32, w p))] _ = _
    rw [wd_cons, wd_cons, wd_cons, wd_cons, wd_nil, up_same (pg_1 hp), up_same (pg_0 hp), pg_u2 he, up_same (pg_0 he)]
/-- the shared words into a page -/
theorem EP.cpyI {d : Nat} {T : e_M} {E : e_C ⊕ (Option Value × e_H) → Prop} {pc nx x2 idx : Nat} {v : Value} {ts : List Nat} {lo : e_L} {r : List Value} {B P z : Nat} {F w ms : Nat → Nat → Int32} {h : e_H} {c0 c1 c2 c3 : Int32} {lg : Int64} {o0 o1 o2 o3 : Int32} {Bf D : Nat → Int32} {L : Int32} {hm hs hh : Nat → Int32} {sp : Nat → Option Nat} {L2 : Int32} {gm gs gh key mark X S Bk I K : Nat → Int32} {i0 i1 i2 : Int32} (hO : cOK bs B P z sa) (k s : Nat) (hk : k < P) (hf : ev_fnd T.2 pc = some (.invokestatic idx, nx, 1001, x2, v, ts)) (h0 : i0 = nI s) (h1 : i1 = nI 0) (h2 : i2 = nI 32) (l : s + 32 ≤ 64) (hsum : ev_sum r ≤ 8) (kk : ev_E tbs bs sa d T E (nx, lo, r, wd (cas B z sa) (cos B P z c0 c1 c2 c3 lg o0 o1 o2 o3 Bf D L hm hs hh sp L2 gm gs gh key mark X S Bk I K) (pgH B P F (upp w k (va_cpy Bf (w k) s 0 32)) ms h))) :
    ev_E tbs bs sa d T E (pc, lo, .int i2 :: .int i1 :: .ref (B + 11 + 3 * k) :: .int i0 :: .ref (B + 1) :: r, wd (cas B z sa) (cos B P z c0 c1 c2 c3 lg o0 o1 o2 o3 Bf D L hm hs hh sp L2 gm gs gh key mark X S Bk I K) (pgH B P F w ms h)) := by
  have hbB := hO.2.2.1
  have hn := hO.2.1 (B + 11 + 3 * k) (by omega) (by omega)
  refine EV.opn [B + 1, B + 11 + 3 * k] [.inr (.inl (64, Bf)), .inr (.inl (32, w k))] (nd2 (by omega)) ?_ ?_
  · simp only [List.map_cons, List.map_nil]
    rw [wd_out hn, pg_1 hk, wd_at (q := 1) hO.1 rfl rfl]
  refine EW.cpy 0 1 s 0 32 (nd2 (by omega)) hf rfl rfl rfl rfl (by omega) h0 h1 h2 (by omega) (by decide) (by decide) (by decide) hsum ?_
  refine EV.cls ?_ kk
  show wd [B + 1, B + 11 + 3 * k] [.inr (.inl (64, Bf)), .inr (.inl (32, va_cpy Bf (w k) s 0 32))] _ = _
  rw [wd_cons, wd_cons, wd_nil, wd_upo hn, pg_u1 hk, up_same (wd_at (q := 1) hO.1 rfl rfl)]
/-- a page into the shared words -/
theorem EP.cpyO {d : Nat} {T : e_M} {E : e_C ⊕ (Option Value × e_H) → Prop} {pc nx x2 idx : Nat} {v : Value} {ts : List Nat} {lo : e_L} {r : List Value} {B P z : Nat} {F w ms : Nat → Nat → Int32} {h : e_H} {c0 c1 c2 c3 : Int32} {lg : Int64} {o0 o1 o2 o3 : Int32} {Bf D : Nat → Int32} {L : Int32} {hm hs hh : Nat → Int32} {sp : Nat → Option Nat} {L2 : Int32} {gm gs gh key mark X S Bk I K : Nat → Int32} {i0 i1 i2 : Int32} (hO : cOK bs B P z sa) (k s : Nat) (hk : k < P) (hf : ev_fnd T.2 pc = some (.invokestatic idx, nx, 1001, x2, v, ts)) (h0 : i0 = nI 0) (h1 : i1 = nI s) (h2 : i2 = nI 32) (l : s + 32 ≤ 64) (hsum : ev_sum r ≤ 8) (kk : ev_E tbs bs sa d T E (nx, lo, r, wd (cas B z sa) (cos B P z c0 c1 c2 c3 lg o0 o1 o2 o3 (va_cpy (w k) Bf 0 s 32) D L hm hs hh sp L2 gm gs gh key mark X S Bk I K) (pgH B P F w ms h))) :
    ev_E tbs bs sa d T E (pc, lo, .int i2 :: .int i1 :: .ref (B + 1) :: .int i0 :: .ref (B + 11 + 3 * k) :: r, wd (cas B z sa) (cos B P z c0 c1 c2 c3 lg o0 o1 o2 o3 Bf D L hm hs hh sp L2 gm gs gh key mark X S Bk I K) (pgH B P F w ms h)) := by
  have hbB := hO.2.2.1
  have hn := hO.2.1 (B + 11 + 3 * k) (by omega) (by omega)
  refine EV.opn [B + 1, B + 11 + 3 * k] [.inr (.inl (64, Bf)), .inr (.inl (32, w k))] (nd2 (by omega)) ?_ ?_
  · simp only [List.map_cons, List.map_nil]
    rw [wd_out hn, pg_1 hk, wd_at (q := 1) hO.1 rfl rfl]
  refine EW.cpy 1 0 0 s 32 (nd2 (by omega)) hf rfl rfl rfl rfl (by omega) h0 h1 h2 (by decide) (by omega) (by decide) (by decide) hsum ?_
  refine EV.cls ?_ kk
  show wd [B + 1, B + 11 + 3 * k] [.inr (.inl (64, va_cpy (w k) Bf 0 s 32)), .inr (.inl (32, w k))] _ = _
  rw [wd_cons, wd_cons, wd_nil, wd_upo hn, up_same (pg_1 hk), wd_up (q := 1) hO.1 rfl (Nat.le_of_ble_eq_true rfl)]; rfl
set_option maxHeartbeats 1000000 in
set_option maxRecDepth 100000 in
theorem c_thread (d B P z : Nat) (hP : P ≤ 40) (key mark I K : Nat → Int32) (hO : cOK bs B P z sa) (s : zS) (hI : Iv P s) (h H : e_H) (hS : cS B P z sa key mark I K s h H) (e p en0 : Int32) :
    ∃ rv H', (rv = some (.int (q_thread P K I e p en0 s).1) ∧ cS B P z sa key mark I K (q_thread P K I e p en0 s).2 h H') ∧ ev_run tbs bs sa (d + 5) 38 [.ref B, .int e, .int p, .int en0] H rv H' := by
  obtain ⟨F, w, ms, Bf, lg, ⟨c0, c1, c2, c3⟩, ⟨en, gv, ft, mk⟩⟩ := s; obtain ⟨o0, o1, o2, o3, D, L, hm, hs, hh, sp, L2, gm, gs, gh, X, S, Bk, rfl, ho⟩ := hS; have hD := hO.1; have hbB := hO.2.2.1; have hbz := hO.2.2.2
  refine RUN.mkE (T := t_X4_thread) rfl (Nat.le_of_ble_eq_true rfl) ?_
  repeat refine EV.s rfl rfl rfl ?_
  refine EV.cv rfl rfl ((wd_at (q := 0) hD rfl rfl)) (Nat.le_of_ble_eq_true rfl) (Nat.le_of_ble_eq_true rfl) (c_whyNotAdded d B P hP F _ (cR_of hO) e p) ?_
  repeat refine EV.s rfl rfl rfl ?_
  by_cases hep : ty P F e 1 ∧ ty P F p 0
  rotate_left
  · rw [if_neg hep]
    have hq : q_thread P K I e p en0 (F, w, ms, Bf, lg, (c0, c1, c2, c3), (en, gv, ft, mk)) = _ := if_neg hep
    rw [hq]
    repeat refine EV.s rfl rfl rfl ?_
    refine EV.ifF rfl (by decide) ?_
    repeat refine EV.s rfl rfl rfl ?_
    refine EV.ri rfl rfl ?_
    exact ⟨_, _, rfl, rfl, o0, o1, o2, o3, _, _, _, _, _, _, _, _, _, _, _, _, _, rfl, ho⟩
  rw [if_pos hep]
  by_cases h5 : F 5 (cn e) = 0
  rotate_left
  · rw [if_neg h5]
    have hq : q_thread P K I e p en0 (F, w, ms, Bf, lg, (c0, c1, c2, c3), (en, gv, ft, mk)) = _ := (if_pos hep).trans (if_neg h5)
    rw [hq]
    repeat refine EV.s rfl rfl rfl ?_
    refine EV.ifF rfl (by decide) ?_
    repeat refine EV.s rfl rfl rfl ?_
    refine EV.ri rfl rfl ?_
    exact ⟨_, _, rfl, rfl, o0, o1, o2, o3, _, _, _, _, _, _, _, _, _, _, _, _, _, rfl, ho⟩
  rw [if_pos h5]
  repeat refine EV.s rfl rfl rfl ?_
  refine EV.ifT rfl (by decide) ?_
  repeat refine EV.s rfl rfl rfl ?_
  refine EV.call rfl (r_isWithin (d + 3) en0 (nI 1024) _) ?_
  by_cases hx : inI en0 1024
  rotate_left
  · rw [if_neg hx]
    have hq : q_thread P K I e p en0 (F, w, ms, Bf, lg, (c0, c1, c2, c3), (en, gv, ft, mk)) = _ := (if_pos hep).trans ((if_pos h5).trans (if_neg hx))
    rw [hq]
    refine EV.ifF rfl (by decide) ?_
    repeat refine EV.s rfl rfl rfl ?_
    refine EV.ri rfl rfl ?_
    exact ⟨_, _, rfl, rfl, o0, o1, o2, o3, _, _, _, _, _, _, _, _, _, _, _, _, _, rfl, ho⟩
  rw [if_pos hx]
  have hq : q_thread P K I e p en0 (F, w, ms, Bf, lg, (c0, c1, c2, c3), (en, gv, ft, mk)) = _ := (if_pos hep).trans ((if_pos h5).trans (if_pos hx))
  rw [hq]
  obtain ⟨j, hj, rfl, ht⟩ := ty_j hP hep.1
  obtain ⟨k, hk, rfl, ht0⟩ := ty_j hP hep.2
  have hjk : j ≠ k := by
    rintro rfl
    rw [ht] at ht0
    exact absurd ht0 (by decide)
  rw [cnI (by omega), cnI (by omega)]
  refine EV.ifT rfl (by decide) ?_
  repeat (first | refine EV.s rfl rfl rfl ?_ | refine EW.get 0 hD rfl rfl rfl rfl ?_)
  refine EW.aald 9 (k) hD rfl rfl rfl rfl (by omega) (by omega) ?_
  repeat refine EV.s rfl rfl rfl ?_
  refine EV.cv rfl rfl ((wd_out (hO.2.1 _ (by omega) (by omega))).trans (pg_0 hk)) (Nat.le_of_ble_eq_true rfl) (Nat.le_of_ble_eq_true rfl) (c_own (d := d + 3) (k := k) (hO.2.1 _ (by omega) (by omega)) hk hbB 2 (nI j)) ?_
  repeat refine EV.s rfl rfl rfl ?_
  refine EP.get (k := k) (hO.2.1 _ (by omega) (by omega)) (by omega) rfl rfl ?_
  repeat refine EV.s rfl rfl rfl ?_
  refine EP.st 0 (hO.2.1 _ (by omega) (by omega)) hk hbB rfl rfl (by decide) ?_
  repeat (first | refine EV.s rfl rfl rfl ?_ | refine EW.get 0 hD rfl rfl rfl rfl ?_)
  refine EW.aald 9 (j) hD rfl rfl rfl rfl (by omega) (by omega) ?_
  repeat refine EV.s rfl rfl rfl ?_
  obtain ⟨L', hm', hs', hh', hr⟩ := c_extend (F := uF (uF F 0 k 2) 1 k (nI j)) (w := upp w k (upd (w k) 0 en0)) (ms := ms) (h := h) (c0 := c0) (c1 := c1) (c2 := c2) (c3 := c3) (lg := lg) (o0 := o0) (o1 := o1) (o2 := o2) (o3 := o3) (Bf := Bf) (D := D) (L := L) (hm := hm) (hs := hs) (hh := hh) (sp := sp) (L2 := L2) (gm := gm) (gs := gs) (gh := gh) (key := key) (mark := mark) (X := X) (S := S) (Bk := Bk) (I := I) (K := K) d hO j k hj hk hjk en0
  refine EV.cv rfl rfl ((wd_at (q := 0) hD rfl rfl)) (Nat.le_of_ble_eq_true rfl) (Nat.le_of_ble_eq_true rfl) (hr) ?_
  repeat refine EV.s rfl rfl rfl ?_
  refine EV.ri rfl rfl ?_
  have e1 : mea K I (ms j) (uF (uF F 0 k 2) 1 k (nI j) 0 k) en0 (uF (uF F 0 k 2) 1 k (nI j) 3 k) (upp w k (upd (w k) 0 en0) k) = mea K I (ms j) 2 en0 (F 3 k) (upd (w k) 0 en0) := by
    rw [upp_at]; simp [uF, upp, upd]
  rw [e1]
  exact ⟨_, _, rfl, rfl, o0, o1, o2, o3, _, _, _, _, _, _, _, _, _, _, _, _, _, rfl, ho⟩
set_option maxHeartbeats 1000000 in
set_option maxRecDepth 100000 in
theorem c_data (d B P z : Nat) (hP : P ≤ 40) (key mark I K : Nat → Int32) (hO : cOK bs B P z sa) (s : zS) (hI : Iv P s) (h H : e_H) (hS : cS B P z sa key mark I K s h H) (e p a r : Int32) :
    ∃ rv H', (rv = some (.int (q_data P K I e p a r s).1) ∧ cS B P z sa key mark I K (q_data P K I e p a r s).2 h H') ∧ ev_run tbs bs sa (d + 5) 39 [.ref B, .int e, .int p, .int a, .int r] H rv H' := by
  obtain ⟨F, w, ms, Bf, lg, ⟨c0, c1, c2, c3⟩, ⟨en, gv, ft, mk⟩⟩ := s; obtain ⟨o0, o1, o2, o3, D, L, hm, hs, hh, sp, L2, gm, gs, gh, X, S, Bk, rfl, ho⟩ := hS; have hD := hO.1; have hbB := hO.2.2.1; have hbz := hO.2.2.2
  refine RUN.mkE (T := t_X4_data) rfl (Nat.le_of_ble_eq_true rfl) ?_
  repeat refine EV.s rfl rfl rfl ?_
  refine EV.cv rfl rfl ((wd_at (q := 0) hD rfl rfl)) (Nat.le_of_ble_eq_true rfl) (Nat.le_of_ble_eq_true rfl) (c_whyNotAdded d B P hP F _ (cR_of hO) e p) ?_
  repeat refine EV.s rfl rfl rfl ?_
  by_cases hep : ty P F e 1 ∧ ty P F p 0
  rotate_left
  · rw [if_neg hep]
    have hq : q_data P K I e p a r (F, w, ms, Bf, lg, (c0, c1, c2, c3), (en, gv, ft, mk)) = _ := if_neg hep
    rw [hq]
    repeat refine EV.s rfl rfl rfl ?_
    refine EV.ifF rfl (by decide) ?_
    repeat refine EV.s rfl rfl rfl ?_
    refine EV.ri rfl rfl ?_
    exact ⟨_, _, rfl, rfl, o0, o1, o2, o3, _, _, _, _, _, _, _, _, _, _, _, _, _, rfl, ho⟩
  rw [if_pos hep]
  by_cases h5 : F 5 (cn e) = 0
  rotate_left
  · rw [if_neg h5]
    have hq : q_data P K I e p a r (F, w, ms, Bf, lg, (c0, c1, c2, c3), (en, gv, ft, mk)) = _ := (if_pos hep).trans (if_neg h5)
    rw [hq]
    repeat refine EV.s rfl rfl rfl ?_
    refine EV.ifF rfl (by decide) ?_
    repeat refine EV.s rfl rfl rfl ?_
    refine EV.ri rfl rfl ?_
    exact ⟨_, _, rfl, rfl, o0, o1, o2, o3, _, _, _, _, _, _, _, _, _, _, _, _, _, rfl, ho⟩
  rw [if_pos h5]
  repeat refine EV.s rfl rfl rfl ?_
  refine EV.ifT rfl (by decide) ?_
  repeat refine EV.s rfl rfl rfl ?_
  refine EV.call rfl (r_isWithin (d + 3) a (nI 32) _) ?_
  have no : ¬ (inI a 32 ∧ inI r 8 ∧ fat P (F 0) (F 1) (F 2) e a = none) → ev_E tbs bs sa (d + 4) t_X4_data (fun y => ∃ v h', y = .inr (v, h') ∧ v = some (.int (q_data P K I e p a r (F, w, ms, Bf, lg, (c0, c1, c2, c3), (en, gv, ft, mk))).1) ∧ cS B P z sa key mark I K (q_data P K I e p a r (F, w, ms, Bf, lg, (c0, c1, c2, c3), (en, gv, ft, mk))).2 h h') (46, [some (.ref B), some (.int e), some (.int p), some (.int a), some (.int r), some (.int 0), none], [], wd (cas B z sa) (cos B P z c0 c1 c2 c3 lg o0 o1 o2 o3 Bf D L hm hs hh sp L2 gm gs gh key mark X S Bk I K) (pgH B P F w ms h)) := by
    intro hx
    have hq : q_data P K I e p a r (F, w, ms, Bf, lg, (c0, c1, c2, c3), (en, gv, ft, mk)) = _ := (if_pos hep).trans ((if_pos h5).trans (if_neg hx))
    rw [hq]
    repeat refine EV.s rfl rfl rfl ?_
    refine EV.ri rfl rfl ?_
    exact ⟨_, _, rfl, rfl, o0, o1, o2, o3, _, _, _, _, _, _, _, _, _, _, _, _, _, rfl, ho⟩
  by_cases ha : inI a 32
  rotate_left
  · rw [if_neg ha]
    refine EV.ifT rfl (by decide) ?_
    exact no (fun z => ha z.1)
  rw [if_pos ha]
  refine EV.ifF rfl (by decide) ?_
  repeat refine EV.s rfl rfl rfl ?_
  by_cases hr : inI r 8
  rotate_left
  · refine EV.ifc rfl (fun hb => ?_) (fun hb => ?_)
    · exact no (fun z => hr z.2.1)
    · repeat refine EV.s rfl rfl rfl ?_
      refine EV.icm rfl (fun hc => ?_) (fun hc => ?_)
      · exact no (fun z => hr z.2.1)
      · exfalso
        have b1 : (0 : Int32) ≤ r := Int32.not_lt.mp (of_decide_eq_false hb)
        have b2 : r ≤ 7 := Int32.not_lt.mp (of_decide_eq_false hc)
        exact hr ⟨b1, Int32.lt_of_le_of_lt b2 (by decide)⟩
  have hr7 : ¬ (7 : Int32) < r := by
    obtain ⟨q, hq, rfl⟩ := in_nI (by decide) hr
    exact Int32.not_lt.mpr (nI_le (b := 7) (by omega) (by decide))
  refine EV.ifF rfl (decide_eq_false (Int32.not_lt.mpr hr.1)) ?_
  repeat refine EV.s rfl rfl rfl ?_
  refine EV.icF rfl (decide_eq_false hr7) ?_
  repeat refine EV.s rfl rfl rfl ?_
  refine EV.cv rfl rfl ((wd_at (q := 0) hD rfl rfl)) (Nat.le_of_ble_eq_true rfl) (Nat.le_of_ble_eq_true rfl) (c_hasAddress (d + 2) B P hP F _ (cR_of hO) e a) ?_
  by_cases hf : fat P (F 0) (F 1) (F 2) e a = none
  rotate_left
  · rw [if_neg hf]
    refine EV.ifF rfl (by decide) ?_
    exact no (fun z => hf z.2.2)
  rw [if_pos hf]
  refine EV.ifT rfl (by decide) ?_
  have hq : q_data P K I e p a r (F, w, ms, Bf, lg, (c0, c1, c2, c3), (en, gv, ft, mk)) = _ := (if_pos hep).trans ((if_pos h5).trans (if_pos ⟨ha, hr, hf⟩))
  rw [hq]
  obtain ⟨j, hj, rfl, ht⟩ := ty_j hP hep.1
  obtain ⟨k, hk, rfl, ht0⟩ := ty_j hP hep.2
  have hjk : j ≠ k := by
    rintro rfl
    rw [ht] at ht0
    exact absurd ht0 (by decide)
  rw [cnI (by omega), cnI (by omega)]
  repeat (first | refine EV.s rfl rfl rfl ?_ | refine EW.get 0 hD rfl rfl rfl rfl ?_)
  refine EW.aald 9 (k) hD rfl rfl rfl rfl (by omega) (by omega) ?_
  repeat refine EV.s rfl rfl rfl ?_
  refine EV.cv rfl rfl ((wd_out (hO.2.1 _ (by omega) (by omega))).trans (pg_0 hk)) (Nat.le_of_ble_eq_true rfl) (Nat.le_of_ble_eq_true rfl) (c_own (d := d + 3) (k := k) (hO.2.1 _ (by omega) (by omega)) hk hbB 3 (nI j)) ?_
  repeat refine EV.s rfl rfl rfl ?_
  refine EP.put 2 (k := k) (hO.2.1 _ (by omega) (by omega)) (by omega) hbB rfl (by decide) rfl ?_
  repeat refine EV.s rfl rfl rfl ?_
  refine EP.put 3 (k := k) (hO.2.1 _ (by omega) (by omega)) (by omega) hbB rfl (by decide) rfl ?_
  repeat (first | refine EV.s rfl rfl rfl ?_ | refine EW.get 0 hD rfl rfl rfl rfl ?_)
  refine EP.get (k := k) (hO.2.1 _ (by omega) (by omega)) (by omega) rfl rfl ?_
  repeat refine EV.s rfl rfl rfl ?_
  refine EP.cpyI hO k 0 hk rfl rfl rfl rfl (by decide) (Nat.le_of_ble_eq_true rfl) ?_
  repeat (first | refine EV.s rfl rfl rfl ?_ | refine EW.get 0 hD rfl rfl rfl rfl ?_)
  refine EW.aald 9 (j) hD rfl rfl rfl rfl (by omega) (by omega) ?_
  repeat refine EV.s rfl rfl rfl ?_
  obtain ⟨L', hm', hs', hh', hx⟩ := c_extend (F := uF (uF (uF (uF F 0 k 3) 1 k (nI j)) 2 k a) 3 k r) (w := upp w k (va_cpy Bf (w k) 0 0 32)) (ms := ms) (h := h) (c0 := c0) (c1 := c1) (c2 := c2) (c3 := c3) (lg := lg) (o0 := o0) (o1 := o1) (o2 := o2) (o3 := o3) (Bf := Bf) (D := D) (L := L) (hm := hm) (hs := hs) (hh := hh) (sp := sp) (L2 := L2) (gm := gm) (gs := gs) (gh := gh) (key := key) (mark := mark) (X := X) (S := S) (Bk := Bk) (I := I) (K := K) d hO j k hj hk hjk a
  refine EV.cv rfl rfl ((wd_at (q := 0) hD rfl rfl)) (Nat.le_of_ble_eq_true rfl) (Nat.le_of_ble_eq_true rfl) (hx) ?_
  repeat refine EV.s rfl rfl rfl ?_
  refine EV.ri rfl rfl ?_
  have e1 : mea K I (ms j) (uF (uF (uF (uF F 0 k 3) 1 k (nI j)) 2 k a) 3 k r 0 k) a (uF (uF (uF (uF F 0 k 3) 1 k (nI j)) 2 k a) 3 k r 3 k) (upp w k (va_cpy Bf (w k) 0 0 32) k) = mea K I (ms j) 3 a r (va_cpy Bf (w k) 0 0 32) := by
    rw [upp_at]; simp [uF, upp, upd]
  rw [e1]
  exact ⟨_, _, rfl, rfl, o0, o1, o2, o3, _, _, _, _, _, _, _, _, _, _, _, _, _, rfl, ho⟩
set_option maxHeartbeats 1000000 in
set_option maxRecDepth 100000 in
theorem c_finalise (d B P z : Nat) (hP : P ≤ 40) (key mark I K : Nat → Int32) (hO : cOK bs B P z sa) (s : zS) (hI : Iv P s) (h H : e_H) (hS : cS B P z sa key mark I K s h H) (e : Int32) :
    ∃ rv H', (rv = some (.int (q_finalise P K I e s).1) ∧ cS B P z sa key mark I K (q_finalise P K I e s).2 h H') ∧ ev_run tbs bs sa (d + 4) 41 [.ref B, .int e] H rv H' := by
  obtain ⟨F, w, ms, Bf, lg, ⟨c0, c1, c2, c3⟩, ⟨en, gv, ft, mk⟩⟩ := s; obtain ⟨o0, o1, o2, o3, D, L, hm, hs, hh, sp, L2, gm, gs, gh, X, S, Bk, rfl, ho⟩ := hS; have hD := hO.1; have hbB := hO.2.2.1; have hbz := hO.2.2.2
  refine RUN.mkE (T := t_X4_finalise) rfl (Nat.le_of_ble_eq_true rfl) ?_
  repeat refine EV.s rfl rfl rfl ?_
  refine EV.cv rfl rfl ((wd_at (q := 0) hD rfl rfl)) (Nat.le_of_ble_eq_true rfl) (Nat.le_of_ble_eq_true rfl) (c_isOfType (d + 1) B P hP F _ (cR_of hO) e 1) ?_
  by_cases hp : ty P F e 1
  rotate_left
  · rw [iso_n hp]
    have hq : q_finalise P K I e (F, w, ms, Bf, lg, (c0, c1, c2, c3), (en, gv, ft, mk)) = _ := if_neg hp
    rw [hq]
    refine EV.ifF rfl (by decide) ?_
    repeat refine EV.s rfl rfl rfl ?_
    refine EV.ri rfl rfl ?_
    exact ⟨_, _, rfl, rfl, o0, o1, o2, o3, _, _, _, _, _, _, _, _, _, _, _, _, _, rfl, ho⟩
  rw [iso_y hp]
  refine EV.ifT rfl (by decide) ?_
  repeat refine EV.s rfl rfl rfl ?_
  refine EV.cv rfl rfl ((wd_at (q := 0) hD rfl rfl)) (Nat.le_of_ble_eq_true rfl) (Nat.le_of_ble_eq_true rfl) (c_stateOf d B P hP F _ (cR_of hO) e) ?_
  rw [sto, if_pos hp]
  by_cases h5 : F 5 (cn e) = 0
  rotate_left
  · have hq : q_finalise P K I e (F, w, ms, Bf, lg, (c0, c1, c2, c3), (en, gv, ft, mk)) = _ := (if_pos hp).trans (if_neg h5)
    rw [hq]
    refine EV.ifF rfl (decide_eq_false h5) ?_
    repeat refine EV.s rfl rfl rfl ?_
    refine EV.ri rfl rfl ?_
    exact ⟨_, _, rfl, rfl, o0, o1, o2, o3, _, _, _, _, _, _, _, _, _, _, _, _, _, rfl, ho⟩
  have hq : q_finalise P K I e (F, w, ms, Bf, lg, (c0, c1, c2, c3), (en, gv, ft, mk)) = _ := (if_pos hp).trans (if_pos h5)
  rw [hq]
  refine EV.ifT rfl (decide_eq_true h5) ?_
  obtain ⟨j, hj, rfl, ht⟩ := ty_j hP hp
  rw [cnI (by omega)]
  repeat (first | refine EV.s rfl rfl rfl ?_ | refine EW.get 0 hD rfl rfl rfl rfl ?_)
  refine EW.aald 9 (j) hD rfl rfl rfl rfl (by omega) (by omega) ?_
  repeat refine EV.s rfl rfl rfl ?_
  refine EP.put 5 (k := j) (hO.2.1 _ (by omega) (by omega)) (by omega) hbB rfl (by decide) rfl ?_
  have ho2 : ∀ a ∈ [B + 10 + 3 * j, B + 12 + 3 * j], a ∉ cas B z sa := by
    intro a ha
    refine hO.2.1 a ?_ ?_ <;> simp at ha <;> omega
  have hn : [B, B + 3, B + 4, B + 5, B + 6, sa 0, sa 1, B + 10 + 3 * j, B + 12 + 3 * j].Nodup := nd_app (as1 := [B, B + 3, B + 4, B + 5, B + 6, sa 0, sa 1]) (cs := [B + 10 + 3 * j, B + 12 + 3 * j]) hO.1 [0, 3, 4, 5, 6, 20, 21] (by decide) rfl (by simp) ho2
  have hd2 : [B + 3, B + 4].Nodup := nd2 (by omega)
  refine EV.opn [B, B + 3, B + 4, B + 5, B + 6, sa 0, sa 1, B + 10 + 3 * j, B + 12 + 3 * j] [.inl (4, xfs B z c0 c1 c2 c3 lg), .inl (0, [.ref (B + 4), .ref (B + 5), .ref (B + 6), .int L]), .inr (.inl (64, hm)), .inr (.inl (64, hs)), .inr (.inl (8, hh)), .inr (.inl (8, I)), .inr (.inl (64, K)), .inl (1, pfs B (uF F 5 j 1) j), .inr (.inl (8, ms j))] hn ?_ ?_
  · simp only [List.map_cons, List.map_nil]
    rw [wd_out (ho2 (B + 10 + 3 * j) (by simp)), wd_out (ho2 (B + 12 + 3 * j) (by simp)), pg_0 hj, pg_2 hj]
    rw [wd_at (q := 0) hO.1 rfl rfl, wd_at (q := 3) hO.1 rfl rfl, wd_at (q := 4) hO.1 rfl rfl, wd_at (q := 5) hO.1 rfl rfl, wd_at (q := 6) hO.1 rfl rfl, wd_at (q := 20) hO.1 rfl rfl, wd_at (q := 21) hO.1 rfl rfl]
  clear hq
  refine EV.s rfl rfl rfl ?_
  refine EW.get 0 hn rfl rfl rfl rfl ?_
  refine EW.cv 1 [1] hn rfl (fun h0 => r_begin (d + 2) (B + 3) (.ref (B + 4)) (.ref (B + 5)) (.ref (B + 6)) (.int L) rfl h0 (nd_sub hn [1] (by decide) rfl) (by omega)) rfl rfl rfl rfl (Nat.le_of_ble_eq_true rfl) (Nat.le_of_ble_eq_true rfl) rfl rfl rfl rfl ?_
  try simp only [setm, List.set_cons_succ, List.set_cons_zero, Option.toList, List.nil_append, List.cons_append]
  repeat (first | refine EV.s rfl rfl rfl ?_ | refine EW.get 0 hn rfl rfl rfl rfl ?_ | refine EW.get 7 hn rfl rfl rfl rfl ?_)
  refine EW.cv 1 [1, 2, 8] hn rfl (fun h0 => r_addAll (d + 1) (B + 3) (B + 4) (B + 5) (B + 6) (B + 12 + 3 * j) 0 8 8 hm (ms j) h0 (nd_sub hn [1, 2, 8] (by decide) rfl) (by omega) (by omega) (by decide) (by decide) (by decide)) rfl rfl rfl rfl (Nat.le_of_ble_eq_true rfl) (Nat.le_of_ble_eq_true rfl) rfl rfl rfl rfl ?_
  try simp only [setm, List.set_cons_succ, List.set_cons_zero, Option.toList, List.nil_append, List.cons_append]
  repeat (first | refine EV.s rfl rfl rfl ?_ | refine EW.get 0 hn rfl rfl rfl rfl ?_ | refine EW.get 7 hn rfl rfl rfl rfl ?_)
  refine EW.cv 1 [1, 2] hn rfl (fun h0 => r_add (d + 2) (B + 3) (B + 4) 8 (B + 5) (B + 6) (-1) _ h0 hd2 (by omega) (by omega) (by decide)) rfl rfl rfl rfl (Nat.le_of_ble_eq_true rfl) (Nat.le_of_ble_eq_true rfl) rfl rfl rfl rfl ?_
  try simp only [setm, List.set_cons_succ, List.set_cons_zero, Option.toList, List.nil_append, List.cons_append]
  repeat (first | refine EV.s rfl rfl rfl ?_ | refine EW.get 0 hn rfl rfl rfl rfl ?_ | refine EW.get 7 hn rfl rfl rfl rfl ?_)
  refine EW.cvE 1 [1, 2, 3, 4, 5, 6, 8] hn (r_finish d (B + 3) (B + 4) (B + 5) (B + 6) (B + 12 + 3 * j) 9 8 0 _ hs hh I K (ms j) (nd_sub hn [1, 2, 3, 4, 5, 6, 8] (by decide) rfl) (by omega) (by omega) (by omega) (by omega) (by omega) (by decide) (by decide) (by decide)) rfl rfl rfl rfl rfl (Nat.le_of_ble_eq_true rfl) (Nat.le_of_ble_eq_true rfl) rfl rfl rfl ?_
  rintro rv os2 ⟨rfl, G2, H2, rfl⟩
  try simp only [setm, List.set_cons_succ, List.set_cons_zero, Option.toList, List.nil_append, List.cons_append]
  have e1 : va_cpy (sha K I (upd (va_cpy (ms j) hm 0 0 8) 8 (-1)) 9) (ms j) 0 0 8 = va_cpy (sha K I (fun i => if i < 8 then ms j i else -1) 9) (ms j) 0 0 8 := by
    refine cpy_ext (fun i hi => sha_congr (fun _ _ => rfl) (fun _ _ => rfl) (fun q hq => ?_) hi)
    simp only [upd, va_cpy]
    by_cases c : q < 8
    · rw [if_neg (by omega), if_pos (by omega), if_pos c, Nat.sub_zero, Nat.zero_add]
    · rw [if_pos (by omega), if_neg c]
  rw [e1]
  refine EV.cls (wd_cls (os' := (cos B P z c0 c1 c2 c3 lg o0 o1 o2 o3 Bf D (nI 9) (pmc (upd (va_cpy (ms j) hm 0 0 8) 8 (-1)) 9) G2 H2 sp L2 gm gs gh key mark X S Bk I K)) (G' := pgH B P (uF F 5 j 1) w (upp ms j (va_cpy (sha K I (fun i => if i < 8 then ms j i else -1) 9) (ms j) 0 0 8)) h) 7 [0, 3, 4, 5, 6, 20, 21] hO.1 rfl rfl rfl rfl ho2 ?_ rfl) ?_
  · show wd [B + 10 + 3 * j, B + 12 + 3 * j] [.inl (1, pfs B (uF F 5 j 1) j), .inr (.inl (8, _))] _ = _
    rw [wd_cons, wd_cons, wd_nil, pg_u2 hj, up_same (pg_0 hj)]
  repeat refine EV.s rfl rfl rfl ?_
  refine EV.ri rfl rfl ?_
  exact ⟨_, _, rfl, rfl, o0, o1, o2, o3, _, _, _, _, _, _, _, _, _, _, _, _, _, rfl, ho⟩
end CMS
