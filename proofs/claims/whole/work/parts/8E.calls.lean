/-! The law's calls of its own poke and buffer, over the machine. -/
theorem d161 : decode t_L_law.1.2.2.1 161 = .ok (.invokestatic 31, 3) := by decide +kernel
theorem d204 : decode t_L_law.1.2.2.1 204 = .ok (.invokestatic 39, 3) := by decide +kernel
theorem dLp3 : decode t_L_poke.1.2.2.1 3 = .ok (.invokevirtual 7, 3) := by decide +kernel
theorem dLb4 : decode t_L_buffer.1.2.2.1 4 = .ok (.invokevirtual 15, 3) := by decide +kernel
theorem lwK.two {B P z M sc n : Nat} {sa : Nat → Nat} {key mark I K sf : Nat → Int32} {s1 : zS} {Mo : List e_O → Prop} {H : e_H} (c : Option (Nat × Nat)) (hK : lwK B P z M sc n sa key mark I K sf s1 Mo H) : lwK B P z M sc n sa key mark I K sf s1 Mo (H.1, c) := by
  obtain ⟨⟨h, hS⟩, ⟨o, h2, hMo, hmo, hH⟩, hg, hsc⟩ := hK
  refine ⟨⟨(h.1, c), ?_⟩, ⟨o, (h2.1, c), hMo, hmo, by rw [hH]; rfl⟩, hg, hsc⟩
  obtain ⟨F, w, ms, Bf, lg, ⟨c0, c1, c2, c3⟩, ⟨en, gv, ft, mk⟩⟩ := s1
  obtain ⟨o0, o1, o2, o3, D, L, hm, hs, hh, sp, L2, gm, gs, gh, X, S, Bk, hH2, ho⟩ := hS
  exact ⟨o0, o1, o2, o3, D, L, hm, hs, hh, sp, L2, gm, gs, gh, X, S, Bk, by rw [hH2]; rfl, ho⟩
theorem lwK.out {bs B P z M sc n : Nat} {sa : Nat → Nat} {key mark I K sf : Nat → Int32} {s1 : zS} {Mo : List e_O → Prop} {H : e_H} (hO : lwO bs B P z M sc sa) (g : Nat → Int64) (hK : lwK B P z M sc n sa key mark I K sf s1 Mo H) : lwK B P z M sc n sa key mark I K sf s1 Mo (ev_up H (M + 19) (.inr (.inr (.inl (1, g))))) := by
  obtain ⟨hP, hz, hM, hC, hD, hsa, hscB⟩ := hO
  obtain ⟨⟨h, hS⟩, ⟨o, h2, hMo, hmo, rfl⟩, -, hsc⟩ := hK
  have fr : ∀ a, a ≠ M + 19 → (ev_up (wd (mas M sa) o h2) (M + 19) (.inr (.inr (.inl (1, g))))).1 a = (wd (mas M sa) o h2).1 a := fun a ha => by rw [ev_up_1, if_neg ha]
  refine ⟨⟨_, cS_move hC hz hS (fun a ha hb => fr a (by omega)) (fun j hj => fr _ (by have := hsa j (by omega); omega))⟩, ⟨o, _, hMo, hmo, mo_move (h := h2) hD hmo (fun a ha hb => fr a (by omega)) (fr _ (by have := hsa 3 (by decide); omega)) (fr _ (by have := hsa 4 (by decide); omega))⟩, ⟨g, ?_⟩, ?_⟩
  · rw [ev_up_1, if_pos rfl]
  · rw [fr _ (by omega)]; exact hsc
theorem lw_clD {bs : Nat} {sa : Nat → Nat} {B P z M sc n : Nat} {key mark I K sf : Nat → Int32} (d : Nat) (hO : lwO bs B P z M sc sa) {s1 s1' : zS} {Mo : List e_O → Prop} {H : e_H} (hK : lwK B P z M sc n sa key mark I K sf s1 Mo H) {y : Nat} {avs : List Value} {v : Option Value} (hc : ∀ h, cS B P z sa key mark I K s1 h H → ∃ rv H', (rv = v ∧ cS B P z sa key mark I K s1' h H') ∧ ev_run tbs bs sa d y avs H rv H') : ∃ H', ev_run tbs bs sa d y avs H v H' ∧ lwK B P z M sc n sa key mark I K sf s1' Mo H' ∧ H'.2 = H.2 := by
  obtain ⟨hP, hz, hM, hC, hD, hsa, hscB⟩ := hO
  obtain ⟨⟨h, hS⟩, ⟨o, h2, hMo, hmo, rfl⟩, ⟨g, hg⟩, hsc⟩ := hK
  obtain ⟨rv, H', ⟨rfl, hS'⟩, hr⟩ := hc h hS
  obtain ⟨e2, fr⟩ := cS_frame hC hz hS hS'
  refine ⟨H', hr, ⟨⟨h, hS'⟩, ⟨o, H', hMo, hmo, mo_move hD hmo (fun a ha hb => fr a (by omega)) (fr _ (Or.inl (hsa 3 (by decide)))) (fr _ (Or.inl (hsa 4 (by decide))))⟩, ⟨g, ?_⟩, ?_⟩, e2⟩
  · rw [fr _ (by omega)]; exact hg
  · rw [fr _ (Or.inl hscB)]; exact hsc
section LWM
variable {p : Program} {l : Launch} {e : Env} {s : State} {m : MethodId} {args : Array Value} {below : List Frame} {meth : Method} {c : Code} {D : va_G} {bs ss c0 : Nat} {sa : Nat → Nat} {Q : State → Prop}
theorem lw_csw {T T' : e_M} {hh : List (Nat × Nat × Nat × Nat)} {rm : Room} {mc ms n idx d : Nat} (X : ev_X p room_1 s m args meth c D bs sa T d) (hcw : Cond.codeWith T'.1.2.1 T'.1.2.2.1 T'.1.2.2.2.1 T'.1.2.2.2.2 hh ∈ ev_GW) (hst : Cond.static T'.1.2.1 ∈ ev_GW) (hml : Cond.methodLink T.1.1 idx T'.1.2.1 ∈ ev_GW) (hini : Cond.initialized T'.1.2.1.cls ∈ ev_GW)
    (hd : T'.1.2.1.cls ≠ "java/lang/invoke/MethodHandle" ∧ T'.1.2.1.cls ≠ "java/lang/invoke/VarHandle" ∧ (parseMethodDescriptor T'.1.2.1.desc).map (fun d => d.parameters.length) = some n) (hrc : rm.cells = mc) (hrs : rm.slots = ms) (hR : rm.frames + 1 ≤ 10 ∧ 8 + (T'.1.2.2.2.1 + 11) + rm.locals ≤ 354) :
    vx_CSW room_1 s args T.1.1 idx T'.1.2.1 T'.1.2.2.1 T'.1.2.2.2.1 T'.1.2.2.2.2 hh (xh_ws T' hh) rm mc ms n := by
  obtain ⟨hx, hb, hml0, hret, hown, hnm, hlk, hts, hK, hRf, hRl, hbs⟩ := X
  refine ⟨⟨hrc, hrs, hR.1, hR.2, pay_in hts (xh_good hcw), List.mem_cons_self⟩, hts _ hcw, hts _ hini, ⟨hd.1, hd.2.1⟩, fun sig h => ?_, hts _ hml, hts _ hst⟩
  have h2 := hd.2.2
  rw [h] at h2
  exact (Option.some.inj h2).symm
theorem lw_back1 {T : e_M} {d zz u pc : Nat} {h : e_H} {H : Heap} {locs : List Loc} {ls : Array Slot} {lo : e_L} {sk r : List Value} {a9 : Array Value} (hz : h.2 = some (zz, u)) (hc0 : c0 = s.heap.size) (hcz : c0 ≤ zz) (hP : ev_P D s h H)
    (hr : va_Run p l e room_1 s m args below meth c H locs (ev_cn h - c0) (ev_sn h - 0) 1 6 (F0 m pc ls sk) r (xp_Q D bs h a9) (fun q => bs ≤ q)) (hS : va_S (fun q => bs ≤ q) s.heap H locs) (hL : ev_LR ls T.1.2.2.2.1 lo)
    (kk : ∀ z', zz ≤ z' → z' ≤ zz + 1 → ev_G p l e room_1 s m args below meth c D bs T c0 0 Q (pc + 3, lo, .int 1 :: r, (h.1, some (z', u + 6)))) : W p l e room_1 s m args below meth c H locs (ev_cn h - c0) (ev_sn h - 0) Q (F0 m pc ls sk) := by
  intro T0 hT X0
  obtain ⟨v1, st₀, t, T', L, h0, X', hL', e1, e2, ⟨hv, hCR, hFr⟩, st⟩ := hr T0 hT X0
  cases hv
  have hsz : H.size = zz := hP.2 zz u hz
  have hcn : ev_cn h = zz := by unfold ev_cn; rw [hz]
  have hsn : ev_sn h = u := by unfold ev_sn; rw [hz]
  have hFr : H.size ≤ t.heap.size ∧ ∀ q : Nat, q < H.size → ¬ bs ≤ q → t.heap[q]? = H[q]? := by
    have q7 : st₀.heap.size ≤ t.heap.size ∧ ∀ q : Nat, q < st₀.heap.size → ¬ bs ≤ q → t.heap[q]? = st₀.heap[q]? := hFr
    rwa [h0] at q7
  have hal : s.vm.Alike t.vm := by rw [← e2]; exact X'.warmed.alike
  obtain ⟨y1, y2, y3, y4, y5, y6⟩ := id X'.same
  have y3' : T'.heap.size ≤ s.heap.size + (ev_cn h - c0 + 1) := y3
  have y2' : s.heap.size ≤ T'.heap.size := y2
  have hz1 : zz ≤ T'.heap.size := by rw [e1, ← hsz]; exact hFr.1
  have hz2 : T'.heap.size ≤ zz + 1 := by rw [hcn] at y3'; omega
  have X'' : Stand p l e room_1 s m args below meth c T' (locs ++ L) (T'.heap.size - c0) (u + 6 - 0) := by
    refine ⟨X'.admits, X'.cas, X'.clock, X'.frames, X'.room, X'.hears, X'.method, X'.code, X'.here, X'.tail, X'.warmed, X'.limits, X'.bytes, y1, y2, ?_, y4, ?_, y6⟩
    · show T'.heap.size ≤ s.heap.size + (T'.heap.size - c0); omega
    · rw [hsn] at y5; omega
  obtain ⟨t2, a1, b1⟩ := kk T'.heap.size hz1 hz2 T'.heap (locs ++ L) ls ⟨fun a o ho => by rw [e1]; exact ev_CR.moved hal.symm (hCR a o ho), fun z9 u9 hu => by simp only [Option.some.injEq, Prod.mk.injEq] at hu; exact hu.1⟩
    ⟨Nat.le_trans hS.1 (by rw [e1]; exact hFr.1), fun q h1 h2 => by rw [e1, hFr.2 q (Nat.lt_of_lt_of_le h1 hS.1) h2]; exact hS.2.1 q h1 h2, fun q hq => by
      rcases List.mem_append.mp hq with h | h
      · exact hS.2.2 q h
      · exact hL' q h⟩ hL T' rfl X''
  exact ⟨t2, st t2 a1, b1⟩
variable {B P z M sc n : Nat} {key mark I K sf : Nat → Int32}
set_option maxHeartbeats 2000000 in
set_option maxRecDepth 100000 in
theorem lw_callP (hl : l.stackTraces = false) (hGl : ev_glob) (X : ev_X p room_1 s m args meth c D bs sa t_L_law 7) (hX : xk_K bs ss s) (hc0 : c0 = s.heap.size) (hO : lwO bs B P z M sc sa) (q : zS) (hI : Iv P q) (H : e_H) (hK : lwK B P z M sc n sa key mark I K sf q (mS M P key mark I K q) H) (zz u : Nat) (hH2 : H.2 = some (zz, u)) (hcz : c0 ≤ zz) (hcap : zz - c0 + 1 ≤ 601024 ∧ u + 6 ≤ 7293000) (k v : Int32) (lo : e_L)
    (kk : ∀ H' zz' u', lwK B P z M sc n sa key mark I K sf (q_poke k v q).2 (mS M P key mark I K q) H' → H'.2 = some (zz', u') → zz ≤ zz' → zz' ≤ zz + 1 → u ≤ u' → u' ≤ u + 6 → ev_G p l e room_1 s m args below meth c D bs t_L_law c0 0 Q (164, lo, [.int (q_poke k v q).1], H')) :
    ev_G p l e room_1 s m args below meth c D bs t_L_law c0 0 Q (161, lo, [.int v, .int k, .ref B], H) := by
  have hcn : ev_cn H = zz := by unfold ev_cn; rw [hH2]
  have hsn : ev_sn H = u := by unfold ev_sn; rw [hH2]
  obtain ⟨fs, hB⟩ := hK.x hO
  have X0 := X
  obtain ⟨hx, hb, hml0, hret, hown, hnm, hlk, hts, hKK, hRf, hRl, hbs⟩ := X0
  by_cases hk : inI k 64
  · have hq : ∀ q, (q_poke k v q).1 = 0 := by
      intro q
      obtain ⟨F, w, ms, Bq, zq⟩ := q
      have : q_poke k v (F, w, ms, Bq, zq) = _ := if_pos hk
      rw [this]
    obtain ⟨H', hr, hK', e2⟩ := lw_clD 2 hO hK (v := none) (s1' := (q_poke k v q).2) (fun h hS => c_poke 0 B P z hO.1 key mark I K hO.2.2.2.1 q hI h H hS k v hk)
    have hcn' : ev_cn H' = zz := by unfold ev_cn; rw [e2, hH2]
    have hsn' : ev_sn H' = u := by unfold ev_sn; rw [e2, hH2]
    intro Hp locs ls hP hS hL
    have hM := ev_soundH (l := l) (D := D) (bs := bs) (sa := sa) hGl t_L_poke [(0, 6, 9, 13)] ok_L_poke (d := 2) (as := [.ref B, .int k, .int v]) (h := H) (h' := H') (v := some (.int 0)) (Nat.le_of_ble_eq_true rfl) (xl_poke_in hB hr)
    have k1 := kk H' zz u hK' (by rw [e2, hH2]) (Nat.le_refl _) (by omega) (Nat.le_refl _) (by omega)
    rw [hq] at k1
    exact ev_back (h' := H') (by show c0 ≤ ev_cn H; omega) (Nat.zero_le _) (by rw [hcn, hcn']; exact Nat.le_refl _) (by rw [hsn, hsn']; exact Nat.le_refl _) (vx_runSW (g := F0 m 161 ls [.int v, .int k, .ref B]) (rest := []) (As := [.ref B, .int k, .int v]) ⟨hx, hb, hml0, hown, hts⟩ hM (lw_csw (n := 3) (T' := t_L_poke) X in_cw_L_poke in_st_L_poke in_ml_L_poke in_ini_L ⟨by decide, by decide, by decide +kernel⟩ rfl rfl ⟨by show 3 + 1 ≤ 10; decide, by show 8 + (4 + 11) + 40 * 3 ≤ 354; decide⟩) ⟨ev_blind, ev_pre X hP hS⟩ rfl rfl hL.2.1 rfl (Nat.le_of_ble_eq_true rfl) d161 ⟨by show ev_cn H - c0 + (ev_cn H' - ev_cn H) ≤ 601024; omega, by show ev_sn H - 0 + (ev_sn H' - ev_sn H) ≤ 7293000; omega⟩) hS hL k1
  · have hq : q_poke k v q = (1, q) := by
      obtain ⟨F, w, ms, Bq, zq⟩ := q
      exact if_neg hk
    rw [hq] at kk
    intro Hp locs ls hP hS hL
    have hM1 := xp_thr (l := l) (D := D) (bs := bs) (ss := ss) (sa := sa) hl hGl t_X4_poke rfl ok_X4_poke (as := [.ref B, .int k, .int v]) (h := H) (Nat.le_of_ble_eq_true rfl) (x_poke B H k v hk) (by decide +kernel) (by decide +kernel) (by decide +kernel) (by decide +kernel) (by decide +kernel)
    have hM := xl_thr (l := l) (D := D) (bs := bs) (ss := ss) (sa := sa) hGl t_L_poke t_X4_poke rfl ok_L_poke (as := [.ref B, .int k, .int v]) (As := [.int k, .int v]) (rest := []) (n := 2) (a0 := 0) (b0 := 6) (hp := 9) hB (Nat.le_of_ble_eq_true rfl) (xl_poke B H k v) dLp3 hM1 in_mlX_poke in_ins_poke in_sel_poke in_code_poke in_ini_X4 ⟨by decide, by decide, by decide +kernel⟩ rfl (Nat.le_of_ble_eq_true rfl) (by decide) (fun x hx => by cases hx; exact ⟨by decide, rfl, rfl⟩) ⟨_, rfl⟩ (xl_poke_end B k v)
    exact lw_back1 (T := t_L_law) (d := 7) hH2 hc0 hcz hP (vx_runSW (g := F0 m 161 ls [.int v, .int k, .ref B]) (rest := []) (As := [.ref B, .int k, .int v]) ⟨hx, hb, hml0, hown, hts⟩ hM (lw_csw (n := 3) (T' := t_L_poke) X in_cw_L_poke in_st_L_poke in_ml_L_poke in_ini_L ⟨by decide, by decide, by decide +kernel⟩ rfl rfl ⟨by decide, by decide⟩) ⟨xp_blind, xp_pre X hX hP hS⟩ rfl rfl hL.2.1 rfl (Nat.le_of_ble_eq_true rfl) d161 ⟨by show ev_cn H - c0 + 1 ≤ 601024; omega, by show ev_sn H - 0 + 6 ≤ 7293000; omega⟩) hS hL
      (fun z' h1 h2 => kk (H.1, some (z', u + 6)) z' (u + 6) (hK.two _) rfl h1 h2 (by omega) (Nat.le_refl _))
set_option maxHeartbeats 2000000 in
set_option maxRecDepth 100000 in
theorem lw_callB (hl : l.stackTraces = false) (hGl : ev_glob) (X : ev_X p room_1 s m args meth c D bs sa t_L_law 7) (hX : xk_K bs ss s) (hc0 : c0 = s.heap.size) (hO : lwO bs B P z M sc sa) (q : zS) (hI : Iv P q) (H : e_H) (hK : lwK B P z M sc n sa key mark I K sf q (mS M P key mark I K q) H) (zz u : Nat) (hH2 : H.2 = some (zz, u)) (hcz : c0 ≤ zz) (hcap : zz - c0 + 1 ≤ 601024 ∧ u + 6 ≤ 7293000) (k : Int32) (lo : e_L)
    (kk : ∀ H' zz' u', lwK B P z M sc n sa key mark I K sf q (mS M P key mark I K q) H' → ((q_buffer k q).1 = 0 → ∃ g : Nat → Int64, g 0 = (q_buffer k q).2.toInt64 ∧ H'.1 (M + 19) = some (.inr (.inr (.inl (1, g))))) → H'.2 = some (zz', u') → zz ≤ zz' → zz' ≤ zz + 1 → u ≤ u' → u' ≤ u + 6 → ev_G p l e room_1 s m args below meth c D bs t_L_law c0 0 Q (207, lo, [.int (q_buffer k q).1], H')) :
    ev_G p l e room_1 s m args below meth c D bs t_L_law c0 0 Q (204, lo, [.ref (M + 19), .int k, .ref B], H) := by
  have hcn : ev_cn H = zz := by unfold ev_cn; rw [hH2]
  have hsn : ev_sn H = u := by unfold ev_sn; rw [hH2]
  have hbM : bs ≤ M + 19 := by have := hO.2.2.1; have := hO.2.1; have := hO.2.2.2.1.2.2.1; omega
  obtain ⟨fs, hB⟩ := hK.x hO
  have X0 := X
  obtain ⟨hx, hb, hml0, hret, hown, hnm, hlk, hts, hKK, hRf, hRl, hbs⟩ := X0
  by_cases hk : inI k 64
  · have hq : (q_buffer k q).1 = 0 := by
      obtain ⟨F, w, ms, Bq, zq⟩ := q
      have : q_buffer k (F, w, ms, Bq, zq) = _ := if_pos hk
      rw [this]
    obtain ⟨H1, hr, hK1, e2⟩ := lw_clD 2 hO hK (v := some (.int (q_buffer k q).2)) (s1' := q) (fun h hS => c_buffer 0 B P z hO.1 key mark I K hO.2.2.2.1 q hI h H hS k hk)
    obtain ⟨g0, hg0⟩ := hK1.2.2.1
    obtain ⟨g, hg, hrun⟩ := xl_buffer_in (a := M + 19) hbM hB hg0 hr
    have hK' := hK1.out hO g
    have hcn' : ev_cn (ev_up H1 (M + 19) (.inr (.inr (.inl (1, g))))) = zz := by show ev_cn H1 = zz; unfold ev_cn; rw [e2, hH2]
    have hsn' : ev_sn (ev_up H1 (M + 19) (.inr (.inr (.inl (1, g))))) = u := by show ev_sn H1 = u; unfold ev_sn; rw [e2, hH2]
    intro Hp locs ls hP hS hL
    have hM := ev_soundH (l := l) (D := D) (bs := bs) (sa := sa) hGl t_L_buffer [(0, 9, 12, 13)] ok_L_buffer (d := 2) (as := [.ref B, .int k, .ref (M + 19)]) (h := H) (v := some (.int 0)) (Nat.le_of_ble_eq_true rfl) hrun
    have k1 := kk (ev_up H1 (M + 19) (.inr (.inr (.inl (1, g))))) zz u hK' (fun _ => ⟨g, hg, by rw [ev_up_1, if_pos rfl]⟩) (by show H1.2 = _; rw [e2, hH2]) (Nat.le_refl _) (by omega) (Nat.le_refl _) (by omega)
    rw [hq] at k1
    exact ev_back (h' := ev_up H1 (M + 19) (.inr (.inr (.inl (1, g))))) (by show c0 ≤ ev_cn H; omega) (Nat.zero_le _) (by rw [hcn, hcn']; exact Nat.le_refl _) (by rw [hsn, hsn']; exact Nat.le_refl _) (vx_runSW (g := F0 m 204 ls [.ref (M + 19), .int k, .ref B]) (rest := []) (As := [.ref B, .int k, .ref (M + 19)]) ⟨hx, hb, hml0, hown, hts⟩ hM (lw_csw (n := 3) (T' := t_L_buffer) X in_cw_L_buffer in_st_L_buffer in_ml_L_buffer in_ini_L ⟨by decide, by decide, by decide +kernel⟩ rfl rfl ⟨by show 3 + 1 ≤ 10; decide, by show 8 + (4 + 11) + 40 * 3 ≤ 354; decide⟩) ⟨ev_blind, ev_pre X hP hS⟩ rfl rfl hL.2.1 rfl (Nat.le_of_ble_eq_true rfl) d204 ⟨by rw [hcn']; show ev_cn H - c0 + (zz - ev_cn H) ≤ 601024; omega, by rw [hsn']; show ev_sn H - 0 + (u - ev_sn H) ≤ 7293000; omega⟩) hS hL k1
  · have hq : (q_buffer k q).1 = 1 := by
      obtain ⟨F, w, ms, Bq, zq⟩ := q
      have : q_buffer k (F, w, ms, Bq, zq) = _ := if_neg hk
      rw [this]
    rw [hq] at kk
    intro Hp locs ls hP hS hL
    have hM1 := xp_thr (l := l) (D := D) (bs := bs) (ss := ss) (sa := sa) hl hGl t_X4_buffer rfl ok_X4_buffer (as := [.ref B, .int k]) (h := H) (Nat.le_of_ble_eq_true rfl) (x_buffer B H k hk) (by decide +kernel) (by decide +kernel) (by decide +kernel) (by decide +kernel) (by decide +kernel)
    have hM := xl_thr (l := l) (D := D) (bs := bs) (ss := ss) (sa := sa) hGl t_L_buffer t_X4_buffer rfl ok_L_buffer (as := [.ref B, .int k, .ref (M + 19)]) (As := [.int k]) (rest := [.int 0, .ref (M + 19)]) (n := 1) (a0 := 0) (b0 := 9) (hp := 12) hB (Nat.le_of_ble_eq_true rfl) (xl_buffer B (M + 19) H k) dLb4 hM1 in_mlX_buffer in_ins_buffer in_sel_buffer in_code_buffer in_ini_X4 ⟨by decide, by decide, by decide +kernel⟩ rfl (Nat.le_of_ble_eq_true rfl) (by decide) (fun x hx => by cases hx; exact ⟨by decide, rfl, rfl⟩) ⟨_, rfl⟩ (xl_buffer_end B (M + 19) k)
    exact lw_back1 (T := t_L_law) (d := 7) hH2 hc0 hcz hP (vx_runSW (g := F0 m 204 ls [.ref (M + 19), .int k, .ref B]) (rest := []) (As := [.ref B, .int k, .ref (M + 19)]) ⟨hx, hb, hml0, hown, hts⟩ hM (lw_csw (n := 3) (T' := t_L_buffer) X in_cw_L_buffer in_st_L_buffer in_ml_L_buffer in_ini_L ⟨by decide, by decide, by decide +kernel⟩ rfl rfl ⟨by decide, by decide⟩) ⟨xp_blind, xp_pre X hX hP hS⟩ rfl rfl hL.2.1 rfl (Nat.le_of_ble_eq_true rfl) d204 ⟨by show ev_cn H - c0 + 1 ≤ 601024; omega, by show ev_sn H - 0 + 6 ≤ 7293000; omega⟩) hS hL
      (fun z' h1 h2 => kk (H.1, some (z', u + 6)) z' (u + 6) (hK.two _) (fun h => absurd h (by decide)) rfl h1 h2 (by omega) (Nat.le_refl _))
end LWM
