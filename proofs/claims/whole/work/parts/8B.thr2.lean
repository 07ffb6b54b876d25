section XLT
variable {l : Launch} {D : va_G} {bs ss : Nat} {sa : Nat → Nat}
theorem W.mono {p : Program} {e : Env} {R : Room} {s : State} {m : MethodId} {args : Array Value} {below : List Frame} {meth : Method} {c : Code} {H : Heap} {locs : List Loc} {cells slots : Nat} {Q Q' : State → Prop} {g : JFrame} (h : ∀ t, Q t → Q' t) (k : W p l e R s m args below meth c H locs cells slots Q g) : W p l e R s m args below meth c H locs cells slots Q' g := by
  intro T hT X
  obtain ⟨t, a, b⟩ := k T hT X
  exact ⟨t, a, h t b⟩
theorem xh_good {T : e_M} {hh : List (Nat × Nat × Nat × Nat)} (h : Cond.codeWith T.1.2.1 T.1.2.2.1 T.1.2.2.2.1 T.1.2.2.2.2 hh ∈ ev_GW) : GoodIn ev_GW (xh_ws T hh) := by
  intro w hw
  have hm : w ∈ ev_GW := by
    rcases List.mem_cons.mp hw with rfl | q
    · exact h
    · exact q
  exact ⟨hm, good_of_word (List.mem_filter.mp hm).2⟩
set_option maxHeartbeats 1000000 in
set_option maxRecDepth 100000 in
/-- soundness, of a method with a table of handlers -/
theorem ev_soundH (hGl : ev_glob) (T : e_M) (hh : List (Nat × Nat × Nat × Nat)) (hok : ev_ok tbs T) {d : Nat} {as : List Value} {h h' : e_H} {v : Option Value} (hlen : (ev_args as).length ≤ T.1.2.2.2.1) (hr : ev_E tbs bs sa d T (fun x => x = .inr (v, h')) (0, ev_loc T.1.2.2.2.1 as, [], h)) :
    Met l T.1.2.1 (xh_ws T hh) (ev_rm (d + 1) (ev_cn h' - ev_cn h) (ev_sn h' - ev_sn h)) (ev_Pc D bs sa as h) (ev_Qc D bs v h') (ev_cn h' - ev_cn h) (ev_sn h' - ev_sn h) (fun q => bs ≤ q) := by
  refine va_MetW (cc := T.1.2.2.1) (maxL := T.1.2.2.2.1) (ret := T.1.2.2.2.2) (hh := hh) (ws' := ev_GW) (by rw [hok.1]; exact hok.2.1) rfl ?_
  intro p e s m args below meth c s₁ B hml hv
  obtain ⟨rfl, hbs, hP, hK⟩ := hv
  have hts0 := atoms_spec (ws := xh_ws T hh) B.pre
  have hts : ∀ w ∈ ev_GW, w.before as.toArray s = true := fun w hw => hts0 w (List.mem_cons_of_mem _ hw)
  have hown : s.vm.findClass T.1.1 = some m.cls := by rw [← hok.1]; exact findClass_of_methodNamed B.named
  have X : ev_X p (headSpec (xh_ws T hh) (ev_rm (d + 1) (ev_cn h' - ev_cn h) (ev_sn h' - ev_sn h))).room s m as.toArray meth c D bs sa T d := ⟨B.exec, B.bytes, hml, B.returns, hown, (name_of_methodNamed B.named B.method).1, B.notSynchronized, hts, hK, Nat.le_refl _, Nat.le_refl _, hbs⟩
  rw [lg_entry_eq]
  obtain ⟨n, hr⟩ := hr
  have hW := ev_rch_W (p := p) (l := l) (e := e) (s := s) (m := m) (below := below) (meth := meth) (c := c) (c0 := ev_cn h) (s0 := ev_sn h) (Q := MQ below (ev_Qc D bs v h') as.toArray s (ev_cn h' - ev_cn h) (ev_sn h' - ev_sn h) (fun q => bs ≤ q)) (E := fun x => x = .inr (v, h')) X hGl hok (ev_sound hGl ok_tbs d)
    (fun cf q => by cases q)
    (fun cf w q hs => by
      simp only [Sum.inr.injEq, Prod.mk.injEq] at q
      obtain ⟨rfl, rfl⟩ := q
      exact ev_ends X hok hs)
    (fun x q => by subst q; exact ⟨Nat.le_refl _, Nat.le_refl _⟩) n _ (Nat.le_refl _) (Nat.le_refl _) hr
  have := hW s.heap [] _ hP va_S.rf (ev_LR.entry as hlen)
  exact W.cs (by simp) (by simp) this
theorem xp_pre {p : Program} {R : Room} {s : State} {m : MethodId} {args : Array Value} {meth : Method} {c : Code} {T : e_M} {d : Nat} {H : Heap} {locs : List Loc} {as : List Value} {h : e_H} (X : ev_X p R s m args meth c D bs sa T d) (hX : xk_K bs ss s) (hP : ev_P D s h H) (hS : va_S (fun q => bs ≤ q) s.heap H locs) : ∀ U : State, U.heap = H → s.WarmedH U.vm → xp_P D bs sa ss as h as.toArray U := by
  intro U hU hW
  obtain ⟨q0, q1, q2, q3⟩ := ev_pre (as := as) X hP hS U hU hW
  exact ⟨q0, q1, q2, q3, xk_K.warm hW hS hU hX⟩
set_option maxHeartbeats 2000000 in
set_option maxRecDepth 100000 in
/-- the law's own method: it catches, and answers 1 -/
theorem xl_thr (hGl : ev_glob) (TL T : e_M) (hRL : TL.1.1 = RL) (hokL : ev_ok tbs TL) {as As rest : List Value} {h : e_H} {lo : e_L} {B pcC idx n a0 b0 hp : Nat} {fs : List Value} (hB : h.1 B = some (.inl (4, fs))) (hlen : (ev_args as).length ≤ TL.1.2.2.2.1) (hrL : ev_E tbs bs sa 1 TL (fun x => x = .inl (pcC, lo, As.reverse ++ .ref B :: rest, h)) (0, ev_loc TL.1.2.2.2.1 as, [], h)) (hd : decode TL.1.2.2.1 pcC = .ok (.invokevirtual idx, 3))
    (hM : vx_Met l T.1.2.1 (ev_ws T) rmT (xp_P D bs sa ss (.ref B :: As) h) (fun _ _ _ _ => False) (xp_X D bs h) 1 6 (fun q => bs ≤ q)) (hml : Cond.methodLink RL idx T.1.2.1 ∈ ev_GW) (hins : Cond.instanceMethod T.1.2.1 ∈ ev_GW) (hsel : Cond.selects RX4 T.1.2.1 T.1.2.1 ∈ ev_GW) (hcode : Cond.code T.1.2.1 T.1.2.2.1 T.1.2.2.2.1 T.1.2.2.2.2 ∈ ev_GW) (hini : Cond.initialized T.1.2.1.cls ∈ ev_GW)
    (hnm : T.1.2.1.cls ≠ "java/lang/invoke/MethodHandle" ∧ T.1.2.1.cls ≠ "java/lang/invoke/VarHandle" ∧ (parseMethodDescriptor T.1.2.1.desc).map (fun d => d.parameters.length) = some n) (hAs : As.length = n) (hsum : (rest.map fun v => v.category).sum ≤ 8) (hmx : T.1.2.2.2.1 ≤ 3)
    (hcov : ∀ x, tableOf [(a0, b0, hp, 13)] = [x] → covers x pcC = true ∧ x.catchType = 13 ∧ x.handlerPc = hp) (htb1 : ∃ x, tableOf [(a0, b0, hp, 13)] = [x]) (hend : ∀ q h9, ev_E tbs bs sa 1 TL (fun x => x = .inr (some (.int 1), h9)) (hp, lo, [.ref q], h9)) :
    Met l TL.1.2.1 (xh_ws TL [(a0, b0, hp, 13)]) rmL (xp_P D bs sa ss as h) (xp_Q D bs h) 1 6 (fun q => bs ≤ q) := by
  refine va_MetW (cc := TL.1.2.2.1) (maxL := TL.1.2.2.2.1) (ret := TL.1.2.2.2.2) (hh := [(a0, b0, hp, 13)]) (ws' := ev_GW) (by rw [hokL.1]; exact hokL.2.1) rfl ?_
  intro p e s m args below meth c s₁ Bd hmlx hv
  obtain ⟨rfl, hbs, hP, hK, hX⟩ := hv
  have hts0 := atoms_spec (ws := xh_ws TL [(a0, b0, hp, 13)]) Bd.pre
  have hts : ∀ w ∈ ev_GW, w.before as.toArray s = true := fun w hw => hts0 w (List.mem_cons_of_mem _ hw)
  have hown : s.vm.findClass TL.1.1 = some m.cls := by rw [← hokL.1]; exact findClass_of_methodNamed Bd.named
  obtain ⟨x, hx1⟩ := htb1
  obtain ⟨hx2, hx3, hx4⟩ := hcov x hx1
  have htab : c.exceptionTable.toList = [x] := (vx_table (x := TL.1.2.1) Bd (hts0 _ List.mem_cons_self)).trans hx1
  have X : ev_X p (headSpec (xh_ws TL [(a0, b0, hp, 13)]) rmL).room s m as.toArray meth c D bs sa TL 1 := ⟨Bd.exec, Bd.bytes, hmlx, Bd.returns, hown, (name_of_methodNamed Bd.named Bd.method).1, Bd.notSynchronized, hts, hK, (by decide : 1 + 1 ≤ 7), (by decide : 40 * (1 + 1) ≤ 150), hbs⟩
  rw [lg_entry_eq]
  obtain ⟨nn, hrL⟩ := hrL
  have hW := ev_rch_W (p := p) (l := l) (e := e) (s := s) (m := m) (below := below) (meth := meth) (c := c) (c0 := ev_cn h) (s0 := ev_sn h) (Q := MQ below (xp_Q D bs h) as.toArray s 1 6 (fun q => bs ≤ q)) (E := fun x => x = .inl (pcC, lo, As.reverse ++ .ref B :: rest, h)) X hGl hokL (ev_sound hGl ok_tbs 1)
    (fun cf q => by
      simp only [Sum.inl.injEq] at q
      subst q
      intro H locs ls hP2 hS hL
      have hn0 : ev_cn h - ev_cn h = 0 := Nat.sub_self _
      have hs0 : ev_sn h - ev_sn h = 0 := Nat.sub_self _
      dsimp only at hP2 hL ⊢
      rw [hn0, hs0]
      obtain ⟨rr, hrr, -, cellB, hcB, hcB2, hcB3, hcB4⟩ := hP2.1 B _ hB
      have hcls : s.vm.findClass RX4 = some cellB.cls := by
        have q4 := (hK.1.1 4 rr hrr).2.1
        have q5 : rr.1 = RX4 := by
          have q6 : Option.map (fun (r : vw_C) => r.1) (some rr) = Option.map (fun (r : vw_C) => r.1) vwCl[4]? := congrArg _ hrr.symm
          exact Option.some.inj q6
        rw [hcB2, ← q5]; exact q4
      have hrun := vx_runV (p := p) (e := e) (R := (headSpec (xh_ws TL [(a0, b0, hp, 13)]) rmL).room) (s := s) (m := m) (args := as.toArray) (below := below) (meth := meth) (c := c) (H := H) (locs := locs) (cells := 0) (slots := 0) (g := F0 m pcC ls (As.reverse ++ .ref B :: rest)) (rest := rest) (own := RL) (C := RX4) (b := B) (As := As) (index := idx) ⟨Bd.exec, Bd.bytes, hmlx, by rw [← hRL]; exact hown, hts⟩ hM ⟨callB_of n hts (ev_good hcode) rfl rfl rfl (hts _ hini) (hts _ hml) hnm ⟨(by decide : 6 + 1 ≤ 7), (by show 8 + (T.1.2.2.2.1 + 11) + 120 ≤ 150; omega)⟩, hts _ hins, hts _ hsel⟩ ⟨xp_blind, ⟨cellB, hcB, by rw [hcB3]; rfl, hcls⟩, xp_pre X hX hP2 hS⟩ rfl hAs hL.2.1 rfl (by show 2 * 0 + _ ≤ 8; omega) hd ⟨(by decide : 0 + 1 ≤ 1), (by decide : 0 + 6 ≤ 6)⟩
      intro T0 hT X0
      rcases hrun T0 hT X0 with ⟨v, st₀, t, T', L, h0, X', hL', e1, e2, hF, st⟩ | ⟨q, st₀, t, T', L, E, ce, h0, X', hL', e1, e2, ⟨hE, hCR, hFr⟩, hce, hcv, hcl, st⟩
      · exact hF.elim
      · subst hE
        have hal : s.vm.Alike t.vm := by rw [← e2]; exact X'.warmed.alike
        have hqlt : q < T'.heap.size := by rw [e1]; exact (Array.getElem?_eq_some_iff.mp hce).1
        have hq1 : 1 ≤ T'.heap.size := Nat.succ_le_of_lt (Nat.lt_of_le_of_lt (Nat.zero_le _) hqlt)
        have hFr : H.size ≤ t.heap.size ∧ ∀ q : Nat, q < H.size → ¬ bs ≤ q → t.heap[q]? = H[q]? := by
          have q7 : st₀.heap.size ≤ t.heap.size ∧ ∀ q : Nat, q < st₀.heap.size → ¬ bs ≤ q → t.heap[q]? = st₀.heap[q]? := hFr
          rwa [h0] at q7
        obtain ⟨n9, hr9⟩ := hend q (h.1, some (T'.heap.size, 6))
        have hW9 := ev_rch_W (p := p) (l := l) (e := e) (s := s) (m := m) (below := below) (meth := meth) (c := c) (c0 := T'.heap.size - 1) (s0 := 0) (Q := MQ below (ev_Qc D bs (some (.int 1)) (h.1, some (T'.heap.size, 6))) as.toArray s (T'.heap.size - (T'.heap.size - 1)) (6 - 0) (fun q => bs ≤ q)) (E := fun x => x = .inr (some (.int 1), (h.1, some (T'.heap.size, 6)))) X hGl hokL (ev_sound hGl ok_tbs 1)
          (fun cf q => by cases q)
          (fun cf w q hs => by
            simp only [Sum.inr.injEq, Prod.mk.injEq] at q
            obtain ⟨rfl, q2⟩ := q
            have := ev_ends (l := l) (p := p) (e := e) (below := below) (c0 := T'.heap.size - 1) (s0 := 0) X hokL hs
            rw [q2] at this
            exact this)
          (fun x q => by subst q; exact ⟨by show T'.heap.size - (T'.heap.size - 1) ≤ 1; omega, by show 6 - 0 ≤ 6; omega⟩) n9 _ (by show T'.heap.size - 1 ≤ T'.heap.size; omega) (by show 0 ≤ 6; omega) hr9
        have hP9 : ev_P D s (h.1, some (T'.heap.size, 6)) T'.heap := ⟨fun a o ho => by rw [e1]; exact ev_CR.moved hal.symm (hCR a o ho), fun z u hu => by simp only [Option.some.injEq, Prod.mk.injEq] at hu; exact hu.1⟩
        have hS9 : va_S (fun q => bs ≤ q) s.heap T'.heap (locs ++ L) := ⟨Nat.le_trans hS.1 (by rw [e1]; exact hFr.1), fun q h1 h2 => by rw [e1, hFr.2 q (Nat.lt_of_lt_of_le h1 hS.1) h2]; exact hS.2.1 q h1 h2, fun q hq => by
          rcases List.mem_append.mp hq with h | h
          · exact hS.2.2 q h
          · exact hL' q h⟩
        have k1 := hW9 T'.heap (locs ++ L) ls hP9 hS9 hL
        have k2 : W p l e (headSpec (xh_ws TL [(a0, b0, hp, 13)]) rmL).room s m as.toArray below meth c T'.heap (locs ++ L) (0 + 1) (0 + 6) (MQ below (xp_Q D bs h) as.toArray s 1 6 (fun q => bs ≤ q)) (F0 m x.handlerPc ls [.ref q]) := by
          rw [hx4]
          refine W.cs (by show 0 + 1 = T'.heap.size - (T'.heap.size - 1); omega) (by show 0 + 6 = 6 - 0; omega) (W.mono (fun t9 h9 => ?_) k1)
          obtain ⟨o, g1, g2, ⟨g3, g4, g5⟩, L9, g6, g7⟩ := h9
          have ec : T'.heap.size - (T'.heap.size - 1) = 1 := by omega
          rw [ec] at g6
          exact ⟨o, g1, g2, ⟨g3, g4.1, g5⟩, L9, g6, g7⟩
        obtain ⟨t2, a1, b1⟩ := xc_catch (own := RL) (E := "java/lang/IndexOutOfBoundsException") (name := "java/lang/IndexOutOfBoundsException") (by rw [← hRL]; exact hown) htab hx2 (by rw [hx3]; decide) (by rw [hx3]; exact hts _ in_cl_L) (va_Nw.use rfl (hX.2.2.2 _ (by simp [xB]))) (by rw [e1]; exact hce) hcv hcl k2 T' rfl X'
        exact ⟨t2, st.trans a1, b1⟩)
    (fun cf w q hs => by cases q)
    (fun x q => by subst q; exact ⟨by show ev_cn h - ev_cn h ≤ _; omega, by show ev_sn h - ev_sn h ≤ _; omega⟩) nn _ (Nat.le_refl _) (Nat.le_refl _) hrL
  have := hW s.heap [] _ hP va_S.rf (ev_LR.entry as hlen)
  exact W.cs (by simp) (by simp) this
end XLT
