/-! The law's loop, over the machine. -/
theorem d864 : decode code 864 = .ok (.ireturn, 1) := by decide +kernel
section LLP
variable {p : Program} {l : Launch} {e : Env} {s : State} {m : MethodId} {below : List Frame} {meth : Method} {c : Code} {D : va_G} {bs ss c0 : Nat} {sa : Nat → Nat}
theorem st_nil {R : Room} {args : Array Value} {T : State} {locs : List Loc} {cells slots : Nat} (X : Stand p l e R s m args below meth c T locs cells slots) (h : ∀ x ∈ locs, s.heap.size ≤ x.base) : Stand p l e R s m args below meth c T [] cells slots := by
  obtain ⟨y1, y2, y3, y4, y5, y6⟩ := id X.same
  refine ⟨X.admits, X.cas, X.clock, X.frames, X.room, X.hears, X.method, X.code, X.here, X.tail, X.warmed, X.limits, X.bytes, y1, y2, y3, y4, y5, fun a k hk => ?_⟩
  obtain ⟨k', z1, z2, z3, z4⟩ := y6 a k hk
  refine ⟨k', z1, z2, z3, fun i _ => z4 i (fun hm => ?_)⟩
  have q1 := h _ hm
  have q2 : a < s.heap.size := (Array.getElem?_eq_some_iff.mp hk).1
  exact absurd q2 (Nat.not_lt.mpr q1)
variable {B P z M sc n : Nat} {key mark I K sf : Nat → Int32}
set_option maxHeartbeats 1000000 in
set_option maxRecDepth 100000 in
theorem lw_exitG (hGl : ev_glob) (X : ev_X p room_1 s m #[.ref sc] meth c D bs sa t_L_law 7) (hb0 : bs = s.heap.size) (hn : n ≤ 2562) {i : Nat} (hi3 : i ≤ 3000) (hi : n < i + 5) {H : e_H} (hsc : H.1 sc = some (.inr (.inl (n, sf)))) {l5 l6 : Option Value} (hcap : ev_cn H - c0 ≤ 601024 ∧ ev_sn H - 0 ≤ 7293000) (hc : c0 ≤ ev_cn H) :
    ev_G p l e room_1 s m #[.ref sc] below meth c D bs t_L_law c0 0 (lw_Z below #[.ref sc] s) (45, lwl sc B M i l5 l6, [], H) := by
  have X0 := X
  obtain ⟨hx, hb, hml0, hret, hown, hnm, hlk, hts, hKK, hRf, hRl, hbs⟩ := X0
  obtain ⟨n9, hr⟩ := lw_exit (bs := bs) (sa := sa) (B := B) (M := M) (l5 := l5) (l6 := l6) hn hi3 hi hsc
  refine ev_rch_W (E := fun x => x = .inl (864, lwl sc B M i l5 l6, [.int 1], H)) X hGl ok_L_law (ev_sound hGl ok_tbs 7) (fun cf hq => ?_) (fun cf w hq _ => by cases hq) (fun x hq => by subst hq; exact hcap) n9 _ hc (Nat.zero_le _) hr
  simp only [Sum.inl.injEq] at hq
  subst hq
  intro Hp locs ls hP hS hL T hT X9
  have X1 := st_nil X9 (fun x hx => by have := hS.2.2 x hx; rw [hb0] at this; exact this)
  have X2 := stand_widen X1 (k := 601024) (n := 7293000) hcap.1 hcap.2
  exact lw_ret hx hb hret hlk d864 T hT X2
set_option maxHeartbeats 2000000 in
set_option maxRecDepth 100000 in
theorem lw_loop (hl : l.stackTraces = false) (hGl : ev_glob) (X : ev_X p room_1 s m #[.ref sc] meth c D bs sa t_L_law 7) (hX : xk_K bs ss s) (hb0 : bs = s.heap.size) (hc0 : c0 = s.heap.size) (hO : lwO bs B P z M sc sa) (hn : n ≤ 2562) :
    ∀ (f i : Nat), n ≤ i + 5 * f → i ≤ 2600 → ∀ (q : zS) (H : e_H) (l5 l6 : Option Value) (zz u : Nat), Iv P q → lwK B P z M sc n sa key mark I K sf q (mS M P key mark I K q) H → H.2 = some (zz, u) → c0 ≤ zz → zz - c0 ≤ 300 + i → u ≤ 10000 + 6 * i →
      ev_G p l e room_1 s m #[.ref sc] below meth c D bs t_L_law c0 0 (lw_Z below #[.ref sc] s) (45, lwl sc B M i l5 l6, [], H) := by
  intro f
  induction f with
  | zero =>
    intro i hf hi q H l5 l6 zz u hI hK hH2 hcz hz hu
    have hcn : ev_cn H = zz := by unfold ev_cn; rw [hH2]
    have hsn : ev_sn H = u := by unfold ev_sn; rw [hH2]
    exact lw_exitG hGl X hb0 hn (by omega) (by omega) hK.2.2.2 ⟨by omega, by omega⟩ (by omega)
  | succ f ih =>
    intro i hf hi3 q H l5 l6 zz u hI hK hH2 hcz hz hu
    have hcn : ev_cn H = zz := by unfold ev_cn; rw [hH2]
    have hsn : ev_sn H = u := by unfold ev_sn; rw [hH2]
    by_cases hi : i + 5 ≤ n
    rotate_left
    · exact lw_exitG hGl X hb0 hn (by omega) (by omega) hK.2.2.2 ⟨by omega, by omega⟩ (by omega)
    by_cases h0 : opx (sf i) = 0
    · obtain ⟨n9, hr⟩ := lw_pk1 (bs := bs) (sa := sa) (B := B) (M := M) (l5 := l5) (l6 := l6) hn hi hK.2.2.2 h0
      refine ev_rch_W (E := fun x => x = .inl (161, lwl sc B M i l5 l6, [.int (sf (i + 2)), .int (sf (i + 1)), .ref B], H)) X hGl ok_L_law (ev_sound hGl ok_tbs 7) (fun cf hq => ?_) (fun cf w hq _ => by cases hq) (fun x hq => by subst hq; exact ⟨by show ev_cn H - c0 ≤ 601024; omega, by show ev_sn H - 0 ≤ 7293000; omega⟩) n9 _ (by show c0 ≤ ev_cn H; omega) (Nat.zero_le _) hr
      simp only [Sum.inl.injEq] at hq
      subst hq
      refine lw_callP hl hGl X hX hc0 hO q hI H hK zz u hH2 hcz ⟨by omega, by omega⟩ (sf (i + 1)) (sf (i + 2)) _ (fun H' zz' u' hK' hH' a1 a2 a3 a4 => ?_)
      have hcn' : ev_cn H' = zz' := by unfold ev_cn; rw [hH']
      have hsn' : ev_sn H' = u' := by unfold ev_sn; rw [hH']
      obtain ⟨n8, hr8⟩ := lw_pk2 (bs := bs) (sa := sa) (E := fun x => ∃ l5 H'', lwK B P z M sc n sa key mark I K sf (q_poke (sf (i + 1)) (sf (i + 2)) q).2 (mS M P key mark I K (q_poke (sf (i + 1)) (sf (i + 2)) q).2) H'' ∧ H''.2 = H'.2 ∧ x = .inl (45, lwl sc B M (i + 5) l5 l6, [], H'')) hO q hI H' i hi hn hK' l5 l6 (fun l5 H'' a b => ⟨l5, H'', a, b, rfl⟩)
      refine ev_rch_W (E := fun x => ∃ l5 H'', lwK B P z M sc n sa key mark I K sf (q_poke (sf (i + 1)) (sf (i + 2)) q).2 (mS M P key mark I K (q_poke (sf (i + 1)) (sf (i + 2)) q).2) H'' ∧ H''.2 = H'.2 ∧ x = .inl (45, lwl sc B M (i + 5) l5 l6, [], H'')) X hGl ok_L_law (ev_sound hGl ok_tbs 7) (fun cf hq => ?_) (fun cf w hq _ => by obtain ⟨_, _, _, _, hq⟩ := hq; cases hq) (fun x hq => ?_) n8 _ (by show c0 ≤ ev_cn H'; omega) (Nat.zero_le _) hr8
      · obtain ⟨l5', H'', b1, b2, hq⟩ := hq
        simp only [Sum.inl.injEq] at hq
        subst hq
        exact ih (i + 5) (by omega) (by omega) _ H'' l5' l6 zz' u' (Iv_poke _ _ q hI) b1 (b2.trans hH') (by omega) (by omega) (by omega)
      · obtain ⟨l5', H'', b1, b2, rfl⟩ := hq
        have g1 : ev_cn H'' = zz' := by unfold ev_cn; rw [b2, hH']
        have g2 : ev_sn H'' = u' := by unfold ev_sn; rw [b2, hH']
        exact ⟨by show ev_cn H'' - c0 ≤ 601024; omega, by show ev_sn H'' - 0 ≤ 7293000; omega⟩
    by_cases h1 : opx (sf i) = 1
    · obtain ⟨n9, hr⟩ := lw_bf1 (bs := bs) (sa := sa) (B := B) (M := M) (l5 := l5) (l6 := l6) hn hi hK.2.2.2 h1
      refine ev_rch_W (E := fun x => x = .inl (204, lwl sc B M i l5 l6, [.ref (M + 19), .int (sf (i + 1)), .ref B], H)) X hGl ok_L_law (ev_sound hGl ok_tbs 7) (fun cf hq => ?_) (fun cf w hq _ => by cases hq) (fun x hq => by subst hq; exact ⟨by show ev_cn H - c0 ≤ 601024; omega, by show ev_sn H - 0 ≤ 7293000; omega⟩) n9 _ (by show c0 ≤ ev_cn H; omega) (Nat.zero_le _) hr
      simp only [Sum.inl.injEq] at hq
      subst hq
      refine lw_callB hl hGl X hX hc0 hO q hI H hK zz u hH2 hcz ⟨by omega, by omega⟩ (sf (i + 1)) _ (fun H' zz' u' hK' hout hH' a1 a2 a3 a4 => ?_)
      have hcn' : ev_cn H' = zz' := by unfold ev_cn; rw [hH']
      have hsn' : ev_sn H' = u' := by unfold ev_sn; rw [hH']
      obtain ⟨n8, hr8⟩ := lw_bf2 (bs := bs) (sa := sa) (E := fun x => ∃ l5 l6 H'', lwK B P z M sc n sa key mark I K sf q (mS M P key mark I K q) H'' ∧ H''.2 = H'.2 ∧ x = .inl (45, lwl sc B M (i + 5) l5 l6, [], H'')) hO q hI H' i hi hn hK' hout l5 l6 (fun l5 l6 H'' a b => ⟨l5, l6, H'', a, b, rfl⟩)
      refine ev_rch_W (E := fun x => ∃ l5 l6 H'', lwK B P z M sc n sa key mark I K sf q (mS M P key mark I K q) H'' ∧ H''.2 = H'.2 ∧ x = .inl (45, lwl sc B M (i + 5) l5 l6, [], H'')) X hGl ok_L_law (ev_sound hGl ok_tbs 7) (fun cf hq => ?_) (fun cf w hq _ => by obtain ⟨_, _, _, _, _, hq⟩ := hq; cases hq) (fun x hq => ?_) n8 _ (by show c0 ≤ ev_cn H'; omega) (Nat.zero_le _) hr8
      · obtain ⟨l5', l6', H'', b1, b2, hq⟩ := hq
        simp only [Sum.inl.injEq] at hq
        subst hq
        exact ih (i + 5) (by omega) (by omega) q H'' l5' l6' zz' u' hI b1 (b2.trans hH') (by omega) (by omega) (by omega)
      · obtain ⟨l5', l6', H'', b1, b2, rfl⟩ := hq
        have g1 : ev_cn H'' = zz' := by unfold ev_cn; rw [b2, hH']
        have g2 : ev_sn H'' = u' := by unfold ev_sn; rw [b2, hH']
        exact ⟨by show ev_cn H'' - c0 ≤ 601024; omega, by show ev_sn H'' - 0 ≤ 7293000; omega⟩
    obtain ⟨n8, hr8⟩ := lw_iter (bs := bs) (sa := sa) (E := fun x => ∃ q' H'', Iv P q' ∧ lwK B P z M sc n sa key mark I K sf q' (mS M P key mark I K q') H'' ∧ H''.2 = H.2 ∧ x = .inl (45, lwl sc B M (i + 5) l5 l6, [], H'')) hO q hI H hK i hi hn l5 l6 h0 h1 (fun q' H'' a b d => ⟨q', H'', a, b, d, rfl⟩)
    refine ev_rch_W (E := fun x => ∃ q' H'', Iv P q' ∧ lwK B P z M sc n sa key mark I K sf q' (mS M P key mark I K q') H'' ∧ H''.2 = H.2 ∧ x = .inl (45, lwl sc B M (i + 5) l5 l6, [], H'')) X hGl ok_L_law (ev_sound hGl ok_tbs 7) (fun cf hq => ?_) (fun cf w hq _ => by obtain ⟨_, _, _, _, _, hq⟩ := hq; cases hq) (fun x hq => ?_) n8 _ (by show c0 ≤ ev_cn H; omega) (Nat.zero_le _) hr8
    · obtain ⟨q', H'', b0, b1, b2, hq⟩ := hq
      simp only [Sum.inl.injEq] at hq
      subst hq
      exact ih (i + 5) (by omega) (by omega) q' H'' l5 l6 zz u b0 b1 (b2.trans hH2) (by omega) (by omega) (by omega)
    · obtain ⟨q', H'', b0, b1, b2, rfl⟩ := hq
      have g1 : ev_cn H'' = zz := by unfold ev_cn; rw [b2, hH2]
      have g2 : ev_sn H'' = u := by unfold ev_sn; rw [b2, hH2]
      exact ⟨by show ev_cn H'' - c0 ≤ 601024; omega, by show ev_sn H'' - 0 ≤ 7293000; omega⟩
end LLP
