section EVV
variable {p : Program} {l : Launch} {e : Env} {R : Room} {s : State} {m : MethodId} {args : Array Value} {below : List Frame} {meth : Method} {c : Code} {D : va_G} {bs : Nat} {sa : Nat → Nat} {T : e_M} {d c0 s0 : Nat} {Q : State → Prop} {tb : Nat → Option e_M}
variable {pc nx x1 x2 : Nat} {v : Value} {ts : List Nat} {lo : e_L} {sk : List Value} {h : e_H} {cf' : e_C}
theorem ev_s_tsw {df lo0 hi0 : Int} {offs : Array Int} {len : Nat} {x : Int32} {r : List Value} (X : ev_X p R s m args meth c D bs sa T d) (hd : decode T.1.2.2.1 pc = .ok (.tableswitch df lo0 hi0 offs, len)) (h1 : lo0 = 0) (h2 : hi0 + 1 = (offs.size : Int)) (h3 : ts.map (fun t : Nat => (t : Int) - (pc : Int)) = df :: offs.toList)
    (kk : ev_G p l e R s m args below meth c D bs T c0 s0 Q (ev_tsw ts x, lo, r, h)) : ev_G p l e R s m args below meth c D bs T c0 s0 Q (pc, lo, .int x :: r, h) := by
  obtain ⟨hx, hb, -⟩ := X
  subst h1
  intro H locs ls hP hS hL
  have kk := kk H locs ls hP hS hL
  match ts, h3, kk with
  | t0 :: tg, h3, kk =>
    simp only [List.map_cons, List.cons.injEq] at h3
    obtain ⟨h3, h4⟩ := h3
    have hlen : tg.length = offs.size := by
      have := congrArg List.length h4
      simpa using this
    dsimp only [ev_tsw] at kk
    by_cases hin : 0 ≤ x.toInt ∧ x.toInt < (tg.length : Int)
    · rw [if_pos hin] at kk
      have hk : x.toInt.toNat < tg.length := by omega
      have hg : tg[x.toInt.toNat]? = some (tg.getD x.toInt.toNat t0) := by
        rw [List.getD_eq_getElem?_getD, List.getElem?_eq_getElem hk]; rfl
      have ho : offs[(x.toInt - 0).toNat]? = some ((tg.getD x.toInt.toNat t0 : Int) - (pc : Int)) := by
        rw [show x.toInt - 0 = x.toInt by omega, ← Array.getElem?_toList, ← h4, List.getElem?_map, hg]; rfl
      exact lv_tableIn hx hb hd (by omega) (by omega) ho (by omega) kk
    · rw [if_neg hin] at kk
      exact lv_tableOut hx hb hd (by omega) (by omega) kk
set_option maxHeartbeats 4000000 in
set_option maxRecDepth 100000 in
theorem ev_step {cf : e_C} (X : ev_X p R s m args meth c D bs sa T d) (hGl : ev_glob) (hok : ev_ok tb T) (hs : ev_stp bs sa T cf = some (.inl cf')) (hc : c0 ≤ ev_cn cf.2.2.2) (hs0 : s0 ≤ ev_sn cf.2.2.2) (hcap : ev_cn cf'.2.2.2 - c0 ≤ R.cells ∧ ev_sn cf'.2.2.2 - s0 ≤ R.slots)
    (kk : ev_G p l e R s m args below meth c D bs T c0 s0 Q cf') : ev_G p l e R s m args below meth c D bs T c0 s0 Q cf := by
  obtain ⟨pc, lo, sk, h⟩ := cf
  unfold ev_stp at hs
  dsimp only at hs hc hs0
  split at hs
  · rename_i i nx x1 x2 v ts hf
    obtain ⟨hB, hW⟩ := hok.2.2 _ (ev_fnd_mem _ _ _ hf)
    dsimp only at hB hW
    simp only [ev_okB, Bool.and_eq_true, Bool.or_eq_true, decide_eq_true_eq] at hB
    obtain ⟨hd0, hlt, hln, hcc⟩ := hB
    have hd2 : ev_ln i ≠ 0 → decode T.1.2.2.1 pc = .ok (i, ev_ln i) ∧ nx = pc + ev_ln i := by
      intro hne
      rcases hln with q | q
      · exact absurd q hne
      · refine ⟨?_, q⟩
        rw [hd0, q]
        congr 2
        omega
    have X' := X
    obtain ⟨hx, hb, hml, hret, hown, hnm, hlk, hts, hK, hRf, hRl, hbs⟩ := X'
    have go : ∀ {nx9 : Nat} {lo9 : e_L} {sk9 : List Value} {h9 : e_H}, ev_go nx9 lo9 sk9 h9 = some (.inl cf') → cf' = (nx9, lo9, sk9, h9) := by
      intro nx9 lo9 sk9 h9 q
      have q : some (Sum.inl (nx9, lo9, sk9, h9)) = some (Sum.inl cf') := q
      cases q; rfl
    unfold ev_ins at hs
    split at hs
    · obtain ⟨hd, rfl⟩ := hd2 (Nat.succ_ne_zero _); have := go hs; subst this; simp only [ev_okc, decide_eq_true_eq] at hcc; subst hcc; exact fun H locs ls hP hS hL => lv_iconst hx hb hd rfl (kk H locs ls hP hS hL)
    · obtain ⟨hd, rfl⟩ := hd2 (Nat.succ_ne_zero _); have := go hs; subst this; simp only [ev_okc, decide_eq_true_eq] at hcc; subst hcc; exact fun H locs ls hP hS hL => lv_bipush hx hb hd rfl (kk H locs ls hP hS hL)
    · obtain ⟨hd, rfl⟩ := hd2 (Nat.succ_ne_zero _); have := go hs; subst this; simp only [ev_okc, decide_eq_true_eq] at hcc; subst hcc; exact fun H locs ls hP hS hL => lv_sipush hx hb hd rfl (kk H locs ls hP hS hL)
    · obtain ⟨hd, rfl⟩ := hd2 (Nat.succ_ne_zero _); have := go hs; subst this; simp only [ev_okc, decide_eq_true_eq] at hcc; subst hcc; exact fun H locs ls hP hS hL => lv_lconst hx hb hd rfl (kk H locs ls hP hS hL)
    · obtain ⟨hd, rfl⟩ := hd2 (Nat.succ_ne_zero _); have := go hs; subst this; obtain ⟨z, rfl, hw⟩ := hW; exact fun H locs ls hP hS hL => lv_ldc hx hb hown (hts _ hw) hd (kk H locs ls hP hS hL)
    · obtain ⟨hd, rfl⟩ := hd2 (Nat.succ_ne_zero _); have := go hs; subst this; obtain ⟨z, rfl, hw⟩ := hW; exact fun H locs ls hP hS hL => lv_ldc2 hx hb hown (hts _ hw) hd (kk H locs ls hP hS hL)
    · obtain ⟨hd, rfl⟩ := hd2 (Nat.succ_ne_zero _); have := go hs; subst this; exact fun H locs ls hP hS hL => lv_null hx hb hd (kk H locs ls hP hS hL)
    · obtain ⟨hd, hn⟩ := hd2 (Nat.succ_ne_zero _); simp only [ev_okc, decide_eq_true_eq] at hcc; exact ev_s_load X hd hn (Or.inl ⟨rfl, Or.inr ⟨_, rfl, hcc⟩⟩) hs kk
    · obtain ⟨hd, hn⟩ := hd2 (Nat.succ_ne_zero _); simp only [ev_okc, decide_eq_true_eq] at hcc; exact ev_s_load X hd hn (Or.inl ⟨rfl, Or.inl (by rw [hcc])⟩) hs kk
    · obtain ⟨hd, hn⟩ := hd2 (Nat.succ_ne_zero _); simp only [ev_okc, decide_eq_true_eq] at hcc; exact ev_s_load X hd hn (Or.inr (Or.inl ⟨rfl, Or.inr ⟨_, rfl, hcc⟩⟩)) hs kk
    · obtain ⟨hd, hn⟩ := hd2 (Nat.succ_ne_zero _); simp only [ev_okc, decide_eq_true_eq] at hcc; exact ev_s_load X hd hn (Or.inr (Or.inl ⟨rfl, Or.inl (by rw [hcc])⟩)) hs kk
    · obtain ⟨hd, hn⟩ := hd2 (Nat.succ_ne_zero _); simp only [ev_okc, decide_eq_true_eq] at hcc; exact ev_s_load X hd hn (Or.inr (Or.inr ⟨rfl, Or.inr ⟨_, rfl, hcc⟩⟩)) hs kk
    · obtain ⟨hd, hn⟩ := hd2 (Nat.succ_ne_zero _); simp only [ev_okc, decide_eq_true_eq] at hcc; exact ev_s_load X hd hn (Or.inr (Or.inr ⟨rfl, Or.inl (by rw [hcc])⟩)) hs kk
    · obtain ⟨hd, hn⟩ := hd2 (Nat.succ_ne_zero _); simp only [ev_okc, decide_eq_true_eq] at hcc; exact ev_s_store X hd hn (Or.inl ⟨rfl, Or.inr ⟨_, rfl, hcc⟩⟩) hs kk
    · obtain ⟨hd, hn⟩ := hd2 (Nat.succ_ne_zero _); simp only [ev_okc, decide_eq_true_eq] at hcc; exact ev_s_store X hd hn (Or.inl ⟨rfl, Or.inl (by rw [hcc])⟩) hs kk
    · obtain ⟨hd, hn⟩ := hd2 (Nat.succ_ne_zero _); simp only [ev_okc, decide_eq_true_eq] at hcc; exact ev_s_storeL X hd hn (Or.inr ⟨_, rfl, hcc⟩) hs kk
    · obtain ⟨hd, hn⟩ := hd2 (Nat.succ_ne_zero _); simp only [ev_okc, decide_eq_true_eq] at hcc; exact ev_s_storeL X hd hn (Or.inl (by rw [hcc])) hs kk
    · obtain ⟨hd, hn⟩ := hd2 (Nat.succ_ne_zero _); simp only [ev_okc, decide_eq_true_eq] at hcc; exact ev_s_store X hd hn (Or.inr ⟨rfl, Or.inr ⟨_, rfl, hcc⟩⟩) hs kk
    · obtain ⟨hd, hn⟩ := hd2 (Nat.succ_ne_zero _); simp only [ev_okc, decide_eq_true_eq] at hcc; exact ev_s_store X hd hn (Or.inr ⟨rfl, Or.inl (by rw [hcc])⟩) hs kk
    · obtain ⟨hd, hn⟩ := hd2 (Nat.succ_ne_zero _); simp only [ev_okc, Bool.and_eq_true, decide_eq_true_eq] at hcc; obtain ⟨rfl, hv⟩ := hcc; exact ev_s_inc X hd hn hv hs kk
    · obtain ⟨hd, rfl⟩ := hd2 (Nat.succ_ne_zero _); unfold ev_bin at hs; split at hs
      · have := go hs; subst this; exact fun H locs ls hP hS hL => lv_iadd hx hb hd (kk H locs ls hP hS hL)
      · cases hs
    · obtain ⟨hd, rfl⟩ := hd2 (Nat.succ_ne_zero _); unfold ev_bin at hs; split at hs
      · have := go hs; subst this; exact fun H locs ls hP hS hL => lv_isub hx hb hd (kk H locs ls hP hS hL)
      · cases hs
    · obtain ⟨hd, rfl⟩ := hd2 (Nat.succ_ne_zero _); unfold ev_bin at hs; split at hs
      · have := go hs; subst this; exact fun H locs ls hP hS hL => lv_imul hx hb hd (kk H locs ls hP hS hL)
      · cases hs
    · obtain ⟨hd, rfl⟩ := hd2 (Nat.succ_ne_zero _); unfold ev_bin at hs; split at hs
      · have := go hs; subst this; exact fun H locs ls hP hS hL => lv_iand hx hb hd (kk H locs ls hP hS hL)
      · cases hs
    · obtain ⟨hd, rfl⟩ := hd2 (Nat.succ_ne_zero _); unfold ev_bin at hs; split at hs
      · have := go hs; subst this; exact fun H locs ls hP hS hL => lv_ior hx hb hd (kk H locs ls hP hS hL)
      · cases hs
    · obtain ⟨hd, rfl⟩ := hd2 (Nat.succ_ne_zero _); unfold ev_bin at hs; split at hs
      · have := go hs; subst this; exact fun H locs ls hP hS hL => lv_ixor hx hb hd (kk H locs ls hP hS hL)
      · cases hs
    · obtain ⟨hd, rfl⟩ := hd2 (Nat.succ_ne_zero _); unfold ev_bin at hs; split at hs
      · have := go hs; subst this; exact fun H locs ls hP hS hL => lv_ishl hx hb hd (kk H locs ls hP hS hL)
      · cases hs
    · obtain ⟨hd, rfl⟩ := hd2 (Nat.succ_ne_zero _); unfold ev_bin at hs; split at hs
      · have := go hs; subst this; exact fun H locs ls hP hS hL => lv_ishr hx hb hd (kk H locs ls hP hS hL)
      · cases hs
    · obtain ⟨hd, rfl⟩ := hd2 (Nat.succ_ne_zero _); unfold ev_bin at hs; split at hs
      · have := go hs; subst this; exact fun H locs ls hP hS hL => lv_iushr hx hb hd rfl (kk H locs ls hP hS hL)
      · cases hs
    · obtain ⟨hd, rfl⟩ := hd2 (Nat.succ_ne_zero _); unfold ev_div at hs; split at hs
      · rename_i y x r
        by_cases hy : y = 0
        · simp [hy] at hs
        · rw [decide_eq_false hy] at hs
          have := go hs; subst this; exact fun H locs ls hP hS hL => lv_idiv hx hb hd hy (kk H locs ls hP hS hL)
      · cases hs
    · obtain ⟨hd, rfl⟩ := hd2 (Nat.succ_ne_zero _); unfold ev_div at hs; split at hs
      · rename_i y x r
        by_cases hy : y = 0
        · simp [hy] at hs
        · rw [decide_eq_false hy] at hs
          have := go hs; subst this; exact fun H locs ls hP hS hL => lv_irem hx hb hd hy (kk H locs ls hP hS hL)
      · cases hs
    · obtain ⟨hd, rfl⟩ := hd2 (Nat.succ_ne_zero _); unfold ev_un at hs; split at hs
      · have := go hs; subst this; exact fun H locs ls hP hS hL => lv_ineg hx hb hd (kk H locs ls hP hS hL)
      · cases hs
    · obtain ⟨hd, rfl⟩ := hd2 (Nat.succ_ne_zero _); unfold ev_un at hs; split at hs
      · have := go hs; subst this; exact fun H locs ls hP hS hL => lv_i2l hx hb hd rfl (kk H locs ls hP hS hL)
      · cases hs
    · obtain ⟨hd, rfl⟩ := hd2 (Nat.succ_ne_zero _); unfold ev_un at hs; split at hs
      · have := go hs; subst this; exact fun H locs ls hP hS hL => lv_i2s hx hb hd rfl (kk H locs ls hP hS hL)
      · cases hs
    · obtain ⟨hd, rfl⟩ := hd2 (Nat.succ_ne_zero _); unfold ev_l2i at hs; split at hs
      · have := go hs; subst this; exact fun H locs ls hP hS hL => lv_l2i hx hb hd rfl (kk H locs ls hP hS hL)
      · cases hs
    · obtain ⟨hd, rfl⟩ := hd2 (Nat.succ_ne_zero _); unfold ev_binL at hs; split at hs
      · have := go hs; subst this; exact fun H locs ls hP hS hL => lv_ladd hx hb hd (kk H locs ls hP hS hL)
      · cases hs
    · obtain ⟨hd, rfl⟩ := hd2 (Nat.succ_ne_zero _); unfold ev_binL at hs; split at hs
      · have := go hs; subst this; exact fun H locs ls hP hS hL => lv_land hx hb hd (kk H locs ls hP hS hL)
      · cases hs
    · obtain ⟨hd, rfl⟩ := hd2 (Nat.succ_ne_zero _); unfold ev_binL at hs; split at hs
      · have := go hs; subst this; exact fun H locs ls hP hS hL => lv_lor hx hb hd (kk H locs ls hP hS hL)
      · cases hs
    · obtain ⟨hd, rfl⟩ := hd2 (Nat.succ_ne_zero _); unfold ev_binL at hs; split at hs
      · have := go hs; subst this; exact fun H locs ls hP hS hL => W.lcmp hx hb hd (kk H locs ls hP hS hL)
      · cases hs
    · obtain ⟨hd, rfl⟩ := hd2 (Nat.succ_ne_zero _); unfold ev_shL at hs; split at hs
      · have := go hs; subst this; exact fun H locs ls hP hS hL => lv_lshl hx hb hd rfl (kk H locs ls hP hS hL)
      · cases hs
    · obtain ⟨hd, rfl⟩ := hd2 (Nat.succ_ne_zero _); unfold ev_shL at hs; split at hs
      · have := go hs; subst this; exact fun H locs ls hP hS hL => lv_lshr hx hb hd rfl (kk H locs ls hP hS hL)
      · cases hs
    · obtain ⟨hd, rfl⟩ := hd2 (Nat.succ_ne_zero _); unfold ev_shL at hs; split at hs
      · have := go hs; subst this; exact fun H locs ls hP hS hL => lv_lushr hx hb hd rfl (kk H locs ls hP hS hL)
      · cases hs
    · obtain ⟨hd, rfl⟩ := hd2 (Nat.succ_ne_zero _); unfold ev_dup at hs; split at hs
      · obtain ⟨hq, hs⟩ := ev_cond (y := some (Sum.inl cf')) hs
        have := go hs; subst this; exact fun H locs ls hP hS hL => lv_dup hx hb hd (Nat.eq_of_beq_eq_true hq) (kk H locs ls hP hS hL)
      · cases hs
    · obtain ⟨hd, rfl⟩ := hd2 (Nat.succ_ne_zero _); unfold ev_dup2 at hs; split at hs
      · obtain ⟨hq, hs⟩ := ev_cond (y := some (Sum.inl cf')) hs
        rw [Bool.and_eq_true] at hq
        have := go hs; subst this; exact fun H locs ls hP hS hL => lv_dup2_11 hx hb hd (Nat.eq_of_beq_eq_true hq.1) (Nat.eq_of_beq_eq_true hq.2) (kk H locs ls hP hS hL)
      · cases hs
    · obtain ⟨hd, rfl⟩ := hd2 (Nat.succ_ne_zero _); unfold ev_icm at hs; split at hs
      · rename_i cnd off _ y x r
        simp only [ev_okc, decide_eq_true_eq] at hcc
        have := go hs; subst this
        intro H locs ls hP hS hL
        have kk := kk H locs ls hP hS hL
        cases cnd
        · exact lv_icmp_eq hx hb hd hcc (fun q => by rw [show ev_cmp .eq x y = true from decide_eq_true q] at kk; exact kk) (fun q => by rw [show ev_cmp .eq x y = false from decide_eq_false q] at kk; exact kk)
        · exact lv_icmp_ne hx hb hd hcc (fun q => by rw [show ev_cmp .ne x y = true from decide_eq_true q] at kk; exact kk) (fun q => by rw [show ev_cmp .ne x y = false from decide_eq_false (fun z => z q)] at kk; exact kk)
        · exact lv_icmp_lt hx hb hd hcc (fun q => by rw [show ev_cmp .lt x y = true from decide_eq_true q] at kk; exact kk) (fun q => by rw [show ev_cmp .lt x y = false from decide_eq_false q] at kk; exact kk)
        · exact lv_icmp_ge hx hb hd hcc (fun q => by rw [show ev_cmp .ge x y = true from decide_eq_true q] at kk; exact kk) (fun q => by rw [show ev_cmp .ge x y = false from decide_eq_false q] at kk; exact kk)
        · exact lv_icmp_gt hx hb hd hcc (fun q => by rw [show ev_cmp .gt x y = true from decide_eq_true q] at kk; exact kk) (fun q => by rw [show ev_cmp .gt x y = false from decide_eq_false q] at kk; exact kk)
        · exact lv_icmp_le hx hb hd hcc (fun q => by rw [show ev_cmp .le x y = true from decide_eq_true q] at kk; exact kk) (fun q => by rw [show ev_cmp .le x y = false from decide_eq_false q] at kk; exact kk)
      · cases hs
    · obtain ⟨hd, rfl⟩ := hd2 (Nat.succ_ne_zero _); unfold ev_ifc at hs; split at hs
      · rename_i cnd off _ x r
        simp only [ev_okc, decide_eq_true_eq] at hcc
        have := go hs; subst this
        intro H locs ls hP hS hL
        have kk := kk H locs ls hP hS hL
        cases cnd
        · exact lv_if_eq hx hb hd hcc (fun q => by rw [show ev_cmp .eq x 0 = true from decide_eq_true q] at kk; exact kk) (fun q => by rw [show ev_cmp .eq x 0 = false from decide_eq_false q] at kk; exact kk)
        · exact lv_if_ne hx hb hd hcc (fun q => by rw [show ev_cmp .ne x 0 = true from decide_eq_true q] at kk; exact kk) (fun q => by rw [show ev_cmp .ne x 0 = false from decide_eq_false (fun z => z q)] at kk; exact kk)
        · exact lv_if_lt hx hb hd hcc (fun q => by rw [show ev_cmp .lt x 0 = true from decide_eq_true q] at kk; exact kk) (fun q => by rw [show ev_cmp .lt x 0 = false from decide_eq_false q] at kk; exact kk)
        · exact lv_if_ge hx hb hd hcc (fun q => by rw [show ev_cmp .ge x 0 = true from decide_eq_true q] at kk; exact kk) (fun q => by rw [show ev_cmp .ge x 0 = false from decide_eq_false q] at kk; exact kk)
        · exact lv_if_gt hx hb hd hcc (fun q => by rw [show ev_cmp .gt x 0 = true from decide_eq_true q] at kk; exact kk) (fun q => by rw [show ev_cmp .gt x 0 = false from decide_eq_false q] at kk; exact kk)
        · exact lv_if_le hx hb hd hcc (fun q => by rw [show ev_cmp .le x 0 = true from decide_eq_true q] at kk; exact kk) (fun q => by rw [show ev_cmp .le x 0 = false from decide_eq_false q] at kk; exact kk)
      · cases hs
    · obtain ⟨hd, rfl⟩ := hd2 (Nat.succ_ne_zero _); simp only [ev_okc, decide_eq_true_eq] at hcc; unfold ev_ifn at hs; split at hs
      · have := go hs; subst this; exact fun H locs ls hP hS hL => lv_ifnullN hx hb hd hcc (kk H locs ls hP hS hL)
      · have := go hs; subst this; exact fun H locs ls hP hS hL => lv_ifnull hx hb hd (kk H locs ls hP hS hL)
      · cases hs
    · obtain ⟨hd, rfl⟩ := hd2 (Nat.succ_ne_zero _); simp only [ev_okc, decide_eq_true_eq] at hcc; unfold ev_ifn at hs; split at hs
      · have := go hs; subst this; exact fun H locs ls hP hS hL => lv_ifnonnullN hx hb hd (kk H locs ls hP hS hL)
      · have := go hs; subst this; exact fun H locs ls hP hS hL => lv_ifnonnull hx hb hd hcc (kk H locs ls hP hS hL)
      · cases hs
    · obtain ⟨hd, rfl⟩ := hd2 (Nat.succ_ne_zero _); simp only [ev_okc, decide_eq_true_eq] at hcc; have := go hs; subst this; exact fun H locs ls hP hS hL => lv_goto hx hb hd hcc (kk H locs ls hP hS hL)
    · unfold ev_tss at hs
      split at hs
      · simp only [ev_okc, Bool.and_eq_true, decide_eq_true_eq] at hcc
        have := go hs; subst this; exact ev_s_tsw X hd0 hcc.1 hcc.2.1 hcc.2.2 kk
      · cases hs
    · obtain ⟨hd, hn⟩ := hd2 (Nat.succ_ne_zero _); exact ev_s_get X hd hn hW hs kk
    · obtain ⟨hd, hn⟩ := hd2 (Nat.succ_ne_zero _); exact ev_s_put X hd hn hW hs kk
    · obtain ⟨hd, rfl⟩ := hd2 (Nat.succ_ne_zero _); have := go hs; subst this; obtain ⟨q, hq, hw⟩ := hW; exact fun H locs ls hP hS hL => va_gets hx hb (hK.2.1 _ q hq) hS hown (hts _ hw) (fun _ h9 => h9) hd (kk H locs ls hP hS hL)
    · obtain ⟨hd, hn⟩ := hd2 (Nat.succ_ne_zero _); exact ev_s_iald X hd hn hs kk
    · obtain ⟨hd, hn⟩ := hd2 (Nat.succ_ne_zero _); exact ev_s_iast X hd hn hs kk
    · obtain ⟨hd, hn⟩ := hd2 (Nat.succ_ne_zero _); exact ev_s_lald X hd hn hs kk
    · obtain ⟨hd, hn⟩ := hd2 (Nat.succ_ne_zero _); exact ev_s_last X hd hn hs kk
    · obtain ⟨hd, hn⟩ := hd2 (Nat.succ_ne_zero _); exact ev_s_aald X hd hn hs kk
    · obtain ⟨hd, hn⟩ := hd2 (Nat.succ_ne_zero _); exact ev_s_aast X hd hn hs kk
    · obtain ⟨hd, hn⟩ := hd2 (Nat.succ_ne_zero _); exact ev_s_alen X hd hn hs kk
    · obtain ⟨hd, hn⟩ := hd2 (Nat.succ_ne_zero _); exact ev_s_newa (ty := .int) (o := fun n => .inr (.inl (n, fun _ => 0))) X hd hn hc hs0 hcap rfl hGl.2.2.2.2.2.1 (by decide) (fun a n H q => q) hs kk
    · obtain ⟨hd, hn⟩ := hd2 (Nat.succ_ne_zero _); exact ev_s_newa (ty := .long) (o := fun n => .inr (.inr (.inl (n, fun _ => 0)))) X hd hn hc hs0 hcap rfl hGl.2.2.2.2.2.2 (by decide) (fun a n H q => q) hs kk
    · obtain ⟨hd, hn⟩ := hd2 (Nat.succ_ne_zero _); exact ev_s_anew X hd hn hc hs0 hcap hW hs kk
    · obtain ⟨hd, hn⟩ := hd2 (Nat.succ_ne_zero _); exact ev_s_new X hd hn hc hs0 hcap hW hs kk
    · obtain ⟨hd, hn⟩ := hd2 (Nat.succ_ne_zero _)
      dsimp only [ev_okW] at hW
      split at hs
      · rename_i h1001
        rw [if_pos h1001] at hW
        exact ev_s_cpy X hGl hd hn hW hs kk
      · unfold ev_callS at hs
        obtain ⟨-, hs⟩ := ev_cond (y := some (Sum.inl cf')) hs
        cases hs
    · obtain ⟨hd, rfl⟩ := hd2 (Nat.succ_ne_zero _)
      dsimp only [ev_okW] at hW
      split at hs
      · rename_i h1000
        rw [if_pos h1000] at hW
        unfold ev_oin at hs
        split at hs
        · obtain ⟨hq, hs⟩ := ev_cond (y := some (Sum.inl cf')) hs
          have hsum := Nat.le_of_ble_eq_true hq
          unfold ev_sum at hsum
          have := go hs; subst this
          exact fun H locs ls hP hS hL => W.objInit hx hb hown (hts _ hW) (hts _ hGl.2.2.2.1) (hts _ hGl.2.2.2.2.1) rfl (by rw [hml]; exact hL.2.1) rfl hd (by omega) (by show 2 * 0 + _ + 12 ≤ _; omega) (kk H locs ls hP hS hL)
        · cases hs
      · unfold ev_callI at hs
        split at hs
        · obtain ⟨-, hs⟩ := ev_cond (y := some (Sum.inl cf')) hs
          cases hs
        · cases hs
    · unfold ev_callV at hs
      split at hs
      · split at hs
        · obtain ⟨-, hs⟩ := ev_cond (y := some (Sum.inl cf')) hs
          cases hs
        · cases hs
      · cases hs
    · unfold ev_ret at hs
      split at hs
      · obtain ⟨-, hs⟩ := ev_cond (y := some (Sum.inl cf')) hs
        cases hs
      · cases hs
    · unfold ev_ret at hs
      split at hs
      · obtain ⟨-, hs⟩ := ev_cond (y := some (Sum.inl cf')) hs
        cases hs
      · cases hs
    · unfold ev_ret at hs
      split at hs
      · obtain ⟨-, hs⟩ := ev_cond (y := some (Sum.inl cf')) hs
        cases hs
      · cases hs
    · unfold ev_rtv at hs; split at hs <;> cases hs
    · cases hs
  · cases hs
end EVV
