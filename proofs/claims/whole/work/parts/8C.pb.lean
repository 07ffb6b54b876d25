/-! The class's poke and buffer, and the law's own around them. -/
theorem EV.last {bs : Nat} {sa : Nat → Nat} {d : Nat} {T : e_M} {E : e_C ⊕ (Option Value × e_H) → Prop} {pc nx x1 x2 : Nat} {v : Value} {ts : List Nat} {lo : e_L} {r : List Value} {h : e_H} {a : Nat} {g : Nat → Int64} {x : Int64} (hf : ev_fnd T.2 pc = some (.lastore, nx, x1, x2, v, ts)) (ho : h.1 a = some (.inr (.inr (.inl (1, g))))) (hb : bs ≤ a) (k : ev_E tbs bs sa d T E (nx, lo, r, ev_up h a (.inr (.inr (.inl (1, vp_updL g 0 x)))))) : ev_E tbs bs sa d T E (pc, lo, .long x :: .int 0 :: .ref a :: r, h) := by
  have hla : ev_la h a = some (1, g) := by simp [ev_la, ho]
  have hbb : Nat.ble bs a = true := Nat.ble_eq_true_of_le hb
  refine EV.st ?_ k
  simp only [ev_stp, hf, ev_ins, ev_last, hla, hbb]
  rfl
theorem EV.lald {bs : Nat} {sa : Nat → Nat} {d : Nat} {T : e_M} {E : e_C ⊕ (Option Value × e_H) → Prop} {pc nx x1 x2 : Nat} {v : Value} {ts : List Nat} {lo : e_L} {r : List Value} {h : e_H} {a : Nat} {g : Nat → Int64} (hf : ev_fnd T.2 pc = some (.laload, nx, x1, x2, v, ts)) (ho : h.1 a = some (.inr (.inr (.inl (1, g))))) (k : ev_E tbs bs sa d T E (nx, lo, .long (g 0) :: r, h)) : ev_E tbs bs sa d T E (pc, lo, .int 0 :: .ref a :: r, h) := by
  have hla : ev_la h a = some (1, g) := by simp [ev_la, ho]
  refine EV.st ?_ k
  simp only [ev_stp, hf, ev_ins, ev_lald, hla]
  rfl
section CPO
variable {bs : Nat} {sa : Nat → Nat}
set_option maxHeartbeats 1000000 in
set_option maxRecDepth 100000 in
theorem c_poke (d B P z : Nat) (hP : P ≤ 40) (key mark I K : Nat → Int32) (hO : cOK bs B P z sa) (s : zS) (hI : Iv P s) (h H : e_H) (hS : cS B P z sa key mark I K s h H) (x v : Int32) (hx : inI x 64) :
    ∃ rv H', (rv = none ∧ cS B P z sa key mark I K (q_poke x v s).2 h H') ∧ ev_run tbs bs sa (d + 2) 35 [.ref B, .int x, .int v] H rv H' := by
  obtain ⟨F, w, ms, Bf, lg, ⟨c0, c1, c2, c3⟩, ⟨en, gv, ft, mk⟩⟩ := s; obtain ⟨o0, o1, o2, o3, D, L, hm, hs, hh, sp, L2, gm, gs, gh, X, S, Bk, rfl, ho⟩ := hS; have hD := hO.1; have hbB := hO.2.2.1; have hbz := hO.2.2.2
  have hq : q_poke x v (F, w, ms, Bf, lg, (c0, c1, c2, c3), (en, gv, ft, mk)) = _ := if_pos hx
  rw [hq]
  refine RUN.mkE (T := t_X4_poke) rfl (Nat.le_of_ble_eq_true rfl) ?_
  repeat refine EV.s rfl rfl rfl ?_
  refine EV.call rfl (r_isWithin d x (nI 64) _) ?_
  rw [if_pos hx]
  obtain ⟨k, hk, rfl⟩ := in_nI (by decide) hx
  rw [cnI (by omega)]
  refine EV.ifT rfl (by decide) ?_
  repeat (first | refine EV.s rfl rfl rfl ?_ | refine EW.get 0 hD rfl rfl rfl rfl ?_)
  refine EW.iastY 1 (k) (cos B P z c0 c1 c2 c3 lg o0 o1 o2 o3 (upd Bf k v) D L hm hs hh sp L2 gm gs gh key mark X S Bk I K) hD rfl rfl rfl (by omega) (rfl) (by omega) (by decide) (rfl) ?_
  refine EV.ret rfl ?_
  exact ⟨_, _, rfl, rfl, o0, o1, o2, o3, _, _, _, _, _, _, _, _, _, _, _, _, _, rfl, ho⟩
set_option maxHeartbeats 1000000 in
set_option maxRecDepth 100000 in
theorem c_buffer (d B P z : Nat) (hP : P ≤ 40) (key mark I K : Nat → Int32) (hO : cOK bs B P z sa) (s : zS) (hI : Iv P s) (h H : e_H) (hS : cS B P z sa key mark I K s h H) (x : Int32) (hx : inI x 64) :
    ∃ rv H', (rv = some (.int (q_buffer x s).2) ∧ cS B P z sa key mark I K s h H') ∧ ev_run tbs bs sa (d + 2) 36 [.ref B, .int x] H rv H' := by
  obtain ⟨F, w, ms, Bf, lg, ⟨c0, c1, c2, c3⟩, ⟨en, gv, ft, mk⟩⟩ := s; obtain ⟨o0, o1, o2, o3, D, L, hm, hs, hh, sp, L2, gm, gs, gh, X, S, Bk, rfl, ho⟩ := hS; have hD := hO.1; have hbB := hO.2.2.1; have hbz := hO.2.2.2
  have hq : q_buffer x (F, w, ms, Bf, lg, (c0, c1, c2, c3), (en, gv, ft, mk)) = _ := if_pos hx
  rw [hq]
  refine RUN.mkE (T := t_X4_buffer) rfl (Nat.le_of_ble_eq_true rfl) ?_
  repeat refine EV.s rfl rfl rfl ?_
  refine EV.call rfl (r_isWithin d x (nI 64) _) ?_
  rw [if_pos hx]
  obtain ⟨k, hk, rfl⟩ := in_nI (by decide) hx
  rw [cnI (by omega)]
  refine EV.ifT rfl (by decide) ?_
  repeat (first | refine EV.s rfl rfl rfl ?_ | refine EW.get 0 hD rfl rfl rfl rfl ?_)
  refine EW.iald 1 (k) hD rfl rfl rfl (rfl) (by omega) (by decide) ?_
  refine EV.ri rfl rfl ?_
  exact ⟨_, _, rfl, rfl, o0, o1, o2, o3, _, _, _, _, _, _, _, _, _, _, _, _, _, rfl, ho⟩
theorem x_poke (B : Nat) (H : e_H) (x v : Int32) (hx : ¬ inI x 64) : ev_E tbs bs sa 1 t_X4_poke (fun y => y = .inl (9, [some (.ref B), some (.int x), some (.int v)], [], H)) (0, ev_loc t_X4_poke.1.2.2.2.1 [.ref B, .int x, .int v], [], H) := by
  repeat refine EV.s rfl rfl rfl ?_
  refine EV.call rfl (r_isWithin 0 x (nI 64) _) ?_
  rw [if_neg hx]
  refine EV.ifF rfl (by decide) ?_
  exact EV.fin rfl
theorem x_buffer (B : Nat) (H : e_H) (x : Int32) (hx : ¬ inI x 64) : ev_E tbs bs sa 1 t_X4_buffer (fun y => y = .inl (9, [some (.ref B), some (.int x)], [], H)) (0, ev_loc t_X4_buffer.1.2.2.2.1 [.ref B, .int x], [], H) := by
  repeat refine EV.s rfl rfl rfl ?_
  refine EV.call rfl (r_isWithin 0 x (nI 64) _) ?_
  rw [if_neg hx]
  refine EV.ifF rfl (by decide) ?_
  exact EV.fin rfl
theorem xl_poke (B : Nat) (H : e_H) (x v : Int32) : ev_E tbs bs sa 1 t_L_poke (fun y => y = .inl (3, [some (.ref B), some (.int x), some (.int v), none], [.int x, .int v].reverse ++ .ref B :: [], H)) (0, ev_loc t_L_poke.1.2.2.2.1 [.ref B, .int x, .int v], [], H) := by
  repeat refine EV.s rfl rfl rfl ?_
  exact EV.fin rfl
theorem xl_buffer (B a : Nat) (H : e_H) (x : Int32) : ev_E tbs bs sa 1 t_L_buffer (fun y => y = .inl (4, [some (.ref B), some (.int x), some (.ref a), none], [.int x].reverse ++ .ref B :: [.int 0, .ref a], H)) (0, ev_loc t_L_buffer.1.2.2.2.1 [.ref B, .int x, .ref a], [], H) := by
  repeat refine EV.s rfl rfl rfl ?_
  exact EV.fin rfl
theorem xl_poke_end (B : Nat) (x v : Int32) : ∀ q h9, ev_E tbs bs sa 1 t_L_poke (fun y => y = .inr (some (.int 1), h9)) (9, [some (.ref B), some (.int x), some (.int v), none], [.ref q], h9) := by
  intro q h9
  repeat refine EV.s rfl rfl rfl ?_
  refine EV.ri rfl rfl ?_
  rfl
theorem xl_buffer_end (B a : Nat) (x : Int32) : ∀ q h9, ev_E tbs bs sa 1 t_L_buffer (fun y => y = .inr (some (.int 1), h9)) (12, [some (.ref B), some (.int x), some (.ref a), none], [.ref q], h9) := by
  intro q h9
  repeat refine EV.s rfl rfl rfl ?_
  refine EV.ri rfl rfl ?_
  rfl
theorem xl_poke_in {B : Nat} {H H' : e_H} {fs : List Value} {x v : Int32} (hB : H.1 B = some (.inl (4, fs))) (hr : ev_run tbs bs sa 2 35 [.ref B, .int x, .int v] H none H') : ev_E tbs bs sa 2 t_L_poke (fun y => y = .inr (some (.int 0), H')) (0, ev_loc t_L_poke.1.2.2.2.1 [.ref B, .int x, .int v], [], H) := by
  repeat refine EV.s rfl rfl rfl ?_
  refine EV.cv rfl rfl (hB) (Nat.le_of_ble_eq_true rfl) (Nat.le_of_ble_eq_true rfl) (hr) ?_
  repeat refine EV.s rfl rfl rfl ?_
  refine EV.ri rfl rfl ?_
  rfl
theorem xl_buffer_in {B a : Nat} {H H' : e_H} {fs : List Value} {x y : Int32} {g : Nat → Int64} (hb : bs ≤ a) (hB : H.1 B = some (.inl (4, fs))) (ha : H'.1 a = some (.inr (.inr (.inl (1, g))))) (hr : ev_run tbs bs sa 2 36 [.ref B, .int x] H (some (.int y)) H') : ∃ g', g' 0 = y.toInt64 ∧ ev_E tbs bs sa 2 t_L_buffer (fun q => q = .inr (some (.int 0), ev_up H' a (.inr (.inr (.inl (1, g')))))) (0, ev_loc t_L_buffer.1.2.2.2.1 [.ref B, .int x, .ref a], [], H) := by
  refine ⟨vp_updL g 0 y.toInt64, rfl, ?_⟩
  repeat refine EV.s rfl rfl rfl ?_
  refine EV.cv rfl rfl (hB) (Nat.le_of_ble_eq_true rfl) (Nat.le_of_ble_eq_true rfl) (hr) ?_
  repeat refine EV.s rfl rfl rfl ?_
  refine EV.last rfl ha hb ?_
  repeat refine EV.s rfl rfl rfl ?_
  refine EV.ri rfl rfl ?_
  rfl
end CPO
