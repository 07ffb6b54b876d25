/-! The out-of-range calls: thrown by the class's method, caught by the law's. -/
def xL : List Cond := vx_atS RX4 54 "java/lang/IndexOutOfBoundsException" ["java/lang/RuntimeException", "java/lang/Exception"]
def xB : List Cond := [.declares ⟨"java/lang/RuntimeException", "<init>", "(Ljava/lang/String;)V"⟩, .declares ⟨"java/lang/Exception", "<init>", "(Ljava/lang/String;)V"⟩, .declares ⟨"java/lang/Throwable", "<init>", "(Ljava/lang/String;)V"⟩, .castable "java/lang/IndexOutOfBoundsException" "java/lang/IndexOutOfBoundsException"]
theorem xL_in : ∀ w ∈ xL.filter goodWord, w ∈ lw_tbl := by decide +kernel
theorem xL_good : ∀ w ∈ xL.filter goodWord, w ∈ ev_GW := fun w h => List.mem_filter.mpr ⟨xL_in w h, (List.mem_filter.mp h).2⟩
theorem xL_bad : ∀ w ∈ xL.filter (fun w => !goodWord w), w ∈ xB := by decide +kernel
theorem xL_ot : ∀ w ∈ Cond.classLink RX4 50 "java/lang/IndexOutOfBoundsException" :: Cond.initialized "java/lang/IndexOutOfBoundsException" :: xL, vx_ot w = true := by decide +kernel
def xk_K (bs ss : Nat) (U : State) : Prop := vk_R RX4 52 "BUFFER has words 0 to 63" ss U ∧ vx_Zq Bundle.tN "UNASSIGNED_STACK" Bundle.steD (fun z => bs ≤ z) U U.heap ∧ vx_Zq Bundle.tN "SUPPRESSED_SENTINEL" Bundle.listD (fun z => bs ≤ z) U U.heap ∧ ∀ w ∈ xB, va_Nw w U
theorem xk_K.warm {bs ss : Nat} {s U : State} {H : Heap} {locs : List Loc} (hW : s.WarmedH U.vm) (hS : va_S (fun q => bs ≤ q) s.heap H locs) (hU : U.heap = H) (h : xk_K bs ss s) : xk_K bs ss U := by
  obtain ⟨h1, h2, h3, h4⟩ := h
  refine ⟨h1.warm hW, ?_, ?_, fun w hw => ?_⟩
  · rw [hU]; exact vx_Zq.moved hW.alike (h2.kept hS.2.1)
  · rw [hU]; exact vx_Zq.moved hW.alike (h3.kept hS.2.1)
  · have q := h4 w hw
    simp only [xB, List.mem_cons, List.not_mem_nil, or_false] at hw
    rcases hw with rfl | rfl | rfl | rfl
    · exact va_Nw.warmD hW q
    · exact va_Nw.warmD hW q
    · exact va_Nw.warmD hW q
    · exact va_Nw.warmC hW q
theorem xk_K.blind {bs ss : Nat} {U V : State} (hv : V.vm = U.vm) (hh : V.heap = U.heap) (h : xk_K bs ss U) : xk_K bs ss V := by
  obtain ⟨h1, h2, h3, h4⟩ := h
  have ha : U.vm.Alike V.vm := by rw [hv]; exact Vm.Alike.refl U.vm
  refine ⟨h1.same hv, by rw [hh]; exact vx_Zq.moved ha h2, by rw [hh]; exact vx_Zq.moved ha h3, fun w hw => ?_⟩
  exact va_Nw.same (by simp only [xB, List.mem_cons, List.not_mem_nil, or_false] at hw; rcases hw with rfl | rfl | rfl | rfl <;> rfl) hv.symm (h4 w hw)
def xp_P (D : va_G) (bs : Nat) (sa : Nat → Nat) (ss : Nat) (as : List Value) (h : e_H) : Array Value → State → Prop := va_Pc as (fun U => bs ≤ U.heap.size ∧ ev_P D U h U.heap ∧ ev_K D bs sa U ∧ xk_K bs ss U)
def xp_X (D : va_G) (bs : Nat) (h : e_H) : String → State → State → Prop := fun E st t => E = "java/lang/IndexOutOfBoundsException" ∧ (∀ a o, h.1 a = some o → ev_CR D t a o t.heap) ∧ va_F (fun q => bs ≤ q) st t
def xp_Q (D : va_G) (bs : Nat) (h : e_H) : Array Value → State → Outcome → State → Prop := fun _ st o t => o = .returned (some (.int 1)) ∧ (∀ a x, h.1 a = some x → ev_CR D t a x t.heap) ∧ va_F (fun q => bs ≤ q) st t
theorem xp_blind {D : va_G} {bs ss : Nat} {sa : Nat → Nat} {as : List Value} {h : e_H} : FrameBlind (xp_P D bs sa ss as h) := by
  intro a U g mk q
  obtain ⟨q0, q1, q2, q3, q4⟩ := q
  exact ⟨q0, q1, ev_P.moved (u := U) (U := U.calling g mk a) (Vm.Alike.refl U.vm) q2, ev_K.blind (U := U) (V := U.calling g mk a) rfl rfl q3, xk_K.blind (U := U) (V := U.calling g mk a) rfl rfl q4⟩
def rmT : Room := { frames := 6, cells := 1, slots := 6, locals := 120 }
def rmL : Room := { frames := 7, cells := 1, slots := 6, locals := 150 }
def xh_ws (T : e_M) (hh : List (Nat × Nat × Nat × Nat)) : List Cond := .codeWith T.1.2.1 T.1.2.2.1 T.1.2.2.2.1 T.1.2.2.2.2 hh :: ev_GW
section XTH
variable {l : Launch} {D : va_G} {bs ss : Nat} {sa : Nat → Nat}
set_option maxHeartbeats 1000000 in
set_option maxRecDepth 100000 in
theorem xp_thr (hl : l.stackTraces = false) (hGl : ev_glob) (T : e_M) (hR : T.1.1 = RX4) (hok : ev_ok tbs T) {as : List Value} {h : e_H} {lo : e_L} (hlen : (ev_args as).length ≤ T.1.2.2.2.1) (hr : ev_E tbs bs sa 1 T (fun x => x = .inl (9, lo, [], h)) (0, ev_loc T.1.2.2.2.1 as, [], h))
    (d0 : decode T.1.2.2.1 9 = .ok (.new 50, 3)) (d3 : decode T.1.2.2.1 12 = .ok (.dup, 1)) (d4 : decode T.1.2.2.1 13 = .ok (.ldc 52, 2)) (d6 : decode T.1.2.2.1 15 = .ok (.invokespecial 54, 3)) (d9 : decode T.1.2.2.1 18 = .ok (.athrow, 1)) :
    vx_Met l T.1.2.1 (ev_ws T) rmT (xp_P D bs sa ss as h) (fun _ _ _ _ => False) (xp_X D bs h) 1 6 (fun q => bs ≤ q) := by
  refine vx_ofW (cc := T.1.2.2.1) (maxL := T.1.2.2.2.1) (ret := T.1.2.2.2.2) (ws' := ev_GW) (by rw [hok.1]; exact hok.2.1) rfl ?_
  intro p e s m args below meth c s₁ B hml htab hv
  obtain ⟨rfl, hbs, hP, hK, hX⟩ := hv
  have hts0 := atoms_spec (ws := ev_ws T) B.pre
  have hts : ∀ w ∈ ev_GW, w.before as.toArray s = true := fun w hw => hts0 w (List.mem_cons_of_mem _ hw)
  have hown : s.vm.findClass T.1.1 = some m.cls := by rw [← hok.1]; exact findClass_of_methodNamed B.named
  have X : ev_X p (headSpec (ev_ws T) rmT).room s m as.toArray meth c D bs sa T 1 := ⟨B.exec, B.bytes, hml, B.returns, hown, (name_of_methodNamed B.named B.method).1, B.notSynchronized, hts, hK, (by decide : 1 + 1 ≤ 6), (by decide : 40 * (1 + 1) ≤ 120), hbs⟩
  rw [lg_entry_eq]
  obtain ⟨n, hr⟩ := hr
  have hW := ev_rch_W (p := p) (l := l) (e := e) (s := s) (m := m) (below := below) (meth := meth) (c := c) (c0 := ev_cn h) (s0 := ev_sn h) (Q := vx_MQ below (fun _ _ _ _ => False) (xp_X D bs h) as.toArray s 1 6 (fun q => bs ≤ q)) (E := fun x => x = .inl (9, lo, [], h)) X hGl hok (ev_sound hGl ok_tbs 1)
    (fun cf q => by
      simp only [Sum.inl.injEq] at q
      subst q
      intro H locs ls hP2 hS hL
      obtain ⟨x1, x2, x3, x4⟩ := hX
      have hn0 : ev_cn h - ev_cn h = 0 := Nat.sub_self _
      have hs0 : ev_sn h - ev_sn h = 0 := Nat.sub_self _
      dsimp only
      rw [hn0, hs0]
      exact vx_throwS (cc := T.1.2.2.1) (pc := 9) (own := RX4) (cls := "java/lang/IndexOutOfBoundsException") (text := "BUFFER has words 0 to 63") (names := ["java/lang/RuntimeException", "java/lang/Exception"]) (ik := 50) (is := 52) (ic := 54) (sa := ss) (A := fun z => bs ≤ z) B.exec B.bytes hl (by rw [← hR]; exact hown) (by decide +kernel) (by decide +kernel) (hts _ in_cl_X4) (hts _ in_ini_X) x1
        (vx_hat (B := xB) (fun w hw => hts w (xL_good w hw)) xL_bad (fun w hw => va_Nw.use (by simp only [xB, List.mem_cons, List.not_mem_nil, or_false] at hw; rcases hw with rfl | rfl | rfl | rfl <;> rfl) (x4 w hw))) xL_ot x2 x3 hS (hL.2.1.trans hml.symm) d0 d3 d4 d6 d9 (fun x hx => (htab x hx).elim) (by decide : 2 + 3 < 6) (by decide : 0 + (13 * (2 + 1) + 43) ≤ 120) (by decide : 0 + 1 ≤ 1) (by decide : 0 + 6 ≤ 6) B.notSynchronized
        (fun t hal hsz hke => ⟨rfl, fun a o ho => ev_CR.kept (hke a (hP2.1 a o ho).lt) (ev_CR.moved hal (hP2.1 a o ho)), Nat.le_trans hS.1 hsz, fun q hq hn => by rw [hke q (Nat.lt_of_lt_of_le hq hS.1)]; exact hS.2.1 q hq hn⟩) hS.2.2 (Nat.le_refl _) (Nat.le_refl _))
    (fun cf w q hs => by cases q)
    (fun x q => by subst q; exact ⟨by show ev_cn h - ev_cn h ≤ _; omega, by show ev_sn h - ev_sn h ≤ _; omega⟩) n _ (Nat.le_refl _) (Nat.le_refl _) hr
  have := hW s.heap [] _ hP va_S.rf (ev_LR.entry as hlen)
  exact W.cs (by simp) (by simp) this
end XTH
