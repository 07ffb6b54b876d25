theorem or_0 {x y : Int32} : x ||| y = 0 ↔ x = 0 ∧ y = 0 := by
  constructor
  · intro h
    have h2 : x.toBitVec ||| y.toBitVec = 0#32 := by rw [← Int32.toBitVec_or, h]; rfl
    have := BitVec.or_eq_zero_iff.mp h2
    exact ⟨Int32.toBitVec_inj.mp this.1, Int32.toBitVec_inj.mp this.2⟩
  · rintro ⟨rfl, rfl⟩; rfl
theorem xor_0 {x y : Int32} : x ^^^ y = 0 ↔ x = y := by
  constructor
  · intro h
    have h2 : x.toBitVec ^^^ y.toBitVec = 0#32 := by rw [← Int32.toBitVec_xor, h]; rfl
    exact Int32.toBitVec_inj.mp (BitVec.xor_eq_zero_iff.mp h2)
  · rintro rfl; exact Int32.xor_self
abbrev eqD (D B : Nat → Int32) : Prop := ∀ j, j < 8 → D j = B (40 + j)
section CSL
variable {bs : Nat} {sa : Nat → Nat}
set_option maxHeartbeats 1000000 in
set_option maxRecDepth 100000 in
theorem c_isTagged_loop {B P z : Nat} {G : e_H} {c0 c1 c2 c3 : Int32} {lg : Int64} {o0 o1 o2 o3 : Int32} {Bf D : Nat → Int32} {L : Int32} {hm hs hh : Nat → Int32} {sp : Nat → Option Nat} {L2 : Int32} {gm gs gh key mark X S Bk I K : Nat → Int32} (d : Nat) (hD : (cas B z sa).Nodup) (E : e_C ⊕ (Option Value × e_H) → Prop) (hK : E (.inr (some (.int (if eqD D Bf then 1 else 0)), wd (cas B z sa) (cos B P z c0 c1 c2 c3 lg o0 o1 o2 o3 Bf D L hm hs hh sp L2 gm gs gh key mark X S Bk I K) G))) :
    ∀ (c k : Nat), k + c = 8 → ∀ n : Int32, (n = 0 ↔ ∀ j, j < k → D j = Bf (40 + j)) → ∀ ki, ki = nI k → ev_E tbs bs sa d t_X4_isTagged E (25, [some (.ref B), some (.int n), some (.int ki)], [.int 8, .int ki], wd (cas B z sa) (cos B P z c0 c1 c2 c3 lg o0 o1 o2 o3 Bf D L hm hs hh sp L2 gm gs gh key mark X S Bk I K) G) := by
  intro c
  induction c with
  | zero =>
    intro k hk n hn ki hki
    have e : k = 8 := by omega
    subst e; subst hki
    refine EV.icT rfl (by decide) ?_
    repeat refine EV.s rfl rfl rfl ?_
    by_cases hz : eqD D Bf
    · rw [if_pos hz] at hK
      refine EV.ifF rfl (decide_eq_false (fun q => q (hn.mpr hz))) ?_
      repeat refine EV.s rfl rfl rfl ?_
      refine EV.ret rfl ?_
      exact hK
    · rw [if_neg hz] at hK
      refine EV.ifT rfl (decide_eq_true (fun q => hz (hn.mp q))) ?_
      repeat refine EV.s rfl rfl rfl ?_
      refine EV.ret rfl ?_
      exact hK
  | succ c ih =>
    intro k hk n hn ki hki
    subst hki
    refine EV.icF rfl (decide_eq_false (nI_ge (b := 8) (by omega) (by decide))) ?_
    repeat (first | refine EV.s rfl rfl rfl ?_ | refine EW.get 0 hD rfl rfl rfl rfl ?_)
    refine EW.iald 2 (k) hD rfl rfl rfl (rfl) (by omega) (by decide) ?_
    repeat (first | refine EV.s rfl rfl rfl ?_ | refine EW.get 0 hD rfl rfl rfl rfl ?_)
    refine EW.iald 1 (40 + k) hD rfl rfl rfl ((nI_add 40 k)) (by omega) (by decide) ?_
    repeat refine EV.s rfl rfl rfl ?_
    refine ih (k + 1) (by omega) _ ?_ _ (nI_1 k)
    rw [or_0, xor_0, hn]
    constructor
    · rintro ⟨h1, h2⟩ j hj
      by_cases e : j = k
      · rw [e]; exact h2
      · exact h1 j (by omega)
    · intro h1
      exact ⟨fun j hj => h1 j (by omega), h1 k (by omega)⟩
set_option maxHeartbeats 1000000 in
set_option maxRecDepth 100000 in
theorem c_isTagged {B P z : Nat} {F w ms : Nat → Nat → Int32} {h : e_H} {c0 c1 c2 c3 : Int32} {lg : Int64} {o0 o1 o2 o3 : Int32} {Bf D : Nat → Int32} {L : Int32} {hm hs hh : Nat → Int32} {sp : Nat → Option Nat} {L2 : Int32} {gm gs gh key mark X S Bk I K : Nat → Int32} (d : Nat) (hO : cOK bs B P z sa) :
    ∃ rv H', (rv = some (.int (if tgd K I mark Bf then 1 else 0)) ∧ ∃ D' L2' gm' gs' gh' X', H' = wd (cas B z sa) (cos B P z c0 c1 c2 c3 lg o0 o1 o2 o3 Bf D' L hm hs hh sp L2' gm' gs' gh' key mark X' S Bk I K) (pgH B P F w ms h)) ∧ ev_run tbs bs sa (d + 5) 66 [.ref B] (wd (cas B z sa) (cos B P z c0 c1 c2 c3 lg o0 o1 o2 o3 Bf D L hm hs hh sp L2 gm gs gh key mark X S Bk I K) (pgH B P F w ms h)) rv H' := by
  have hD := hO.1
  have hbB := hO.2.2.1
  have hbz := hO.2.2.2
  refine RUN.mkE (T := t_X4_isTagged) rfl (Nat.le_of_ble_eq_true rfl) ?_
  repeat (first | refine EV.s rfl rfl rfl ?_ | refine EW.get 0 hD rfl rfl rfl rfl ?_)
  refine EW.cvF 10 [10, 16, 17, 11, 12, 13, 14, 20, 21, 1, 2] hD (r_signA d z (z + 6) (z + 7) (z + 1) (z + 2) (z + 3) (z + 4) (B + 1) (B + 2) 40 64 8 0 (.ref (z + 5)) (.ref (z + 8)) (.ref (z + 9)) L2 mark X gm gs gh I K Bf D (nd_sub hD [10, 16, 17, 11, 12, 13, 14, 20, 21, 1, 2] (by decide) rfl) (by omega) (by omega) (by omega) (by omega) (by omega) (by omega) (by decide) (by decide) (by decide) (by decide) (by decide)) rfl rfl rfl rfl rfl (Nat.le_of_ble_eq_true rfl) (Nat.le_of_ble_eq_true rfl) rfl rfl rfl ?_
  rintro rv os2 ⟨rfl, X', F', G', H', L', T', rfl, hT⟩
  refine ⟨(cos B P z c0 c1 c2 c3 lg o0 o1 o2 o3 Bf T' L hm hs hh sp L' F' G' H' key mark X' S Bk I K), rfl, ?_⟩
  repeat refine EV.s rfl rfl rfl ?_
  refine c_isTagged_loop (P := P) (d + 4) hD _ ?_ 8 0 (by omega) _ ⟨fun _ j hj => absurd hj (by omega), fun _ => rfl⟩ _ rfl
  refine ⟨_, _, rfl, ?_, _, _, _, _, _, _, rfl⟩
  have e : eqD T' Bf ↔ tgd K I mark Bf := by
    have q : ∀ j, j < 8 → T' j = hmo K I mark Bf 40 j := by
      intro j hj
      rw [hT, cpy_lo hj, Nat.zero_add]
    exact ⟨fun h j hj => by rw [← q j hj]; exact (h j hj).symm, fun h j hj => by rw [q j hj]; exact (h j hj).symm⟩
  by_cases t : tgd K I mark Bf
  · rw [if_pos t, if_pos (e.mpr t)]
  · rw [if_neg t, if_neg (fun q => t (e.mp q))]
set_option maxHeartbeats 1000000 in
set_option maxRecDepth 100000 in
theorem c_coverP {B P z : Nat} {F w ms : Nat → Nat → Int32} {h : e_H} {c0 c1 c2 c3 : Int32} {lg : Int64} {o0 o1 o2 o3 : Int32} {Bf D : Nat → Int32} {L : Int32} {hm hs hh : Nat → Int32} {sp : Nat → Option Nat} {L2 : Int32} {gm gs gh key mark X S Bk I K : Nat → Int32} (d : Nat) (hO : cOK bs B P z sa) (k : Nat) (hk : k < P) (u l : Int32) :
    ∃ S' Bk', ev_run tbs bs sa (d + 4) 30 [.ref z, .ref (B + 11 + 3 * k), .int (nI 0), .int u, .int l] (wd (cas B z sa) (cos B P z c0 c1 c2 c3 lg o0 o1 o2 o3 Bf D L hm hs hh sp L2 gm gs gh key mark X S Bk I K) (pgH B P F w ms h)) none (wd (cas B z sa) (cos B P z c0 c1 c2 c3 lg o0 o1 o2 o3 Bf D L hm hs hh sp L2 gm gs gh key mark X S' Bk' I K) (pgH B P F (upp w k (xk (w k) 0 (sm cc4 key u l) 32)) ms h)) := by
  have hbB := hO.2.2.1
  have hbz := hO.2.2.2
  have ho : ∀ a ∈ [B + 11 + 3 * k], a ∉ cas B z sa := by
    intro a ha
    refine hO.2.1 a ?_ ?_ <;> simp at ha <;> omega
  have hn : [z, z + 5, z + 8, z + 9, sa 2, B + 11 + 3 * k].Nodup := nd_app (as1 := [z, z + 5, z + 8, z + 9, sa 2]) (cs := [B + 11 + 3 * k]) hO.1 [10, 15, 18, 19, 22] (by decide) rfl (by simp) ho
  have hfx : [z, z + 5, z + 8, z + 9, sa 2, B + 11 + 3 * k].map (wd (cas B z sa) (cos B P z c0 c1 c2 c3 lg o0 o1 o2 o3 Bf D L hm hs hh sp L2 gm gs gh key mark X S Bk I K) (pgH B P F w ms h)).1 = List.map some (α := e_O) [.inl (3, [.ref (z + 1), .ref (z + 5), .ref (z + 6), .ref (z + 7), .ref (z + 8), .ref (z + 9)]), .inr (.inl (8, key)), .inr (.inl (16, S)), .inr (.inl (16, Bk)), .inr (.inl (4, cc4)), .inr (.inl (32, w k))] := by
    simp only [List.map_cons, List.map_nil]
    rw [wd_out (ho (B + 11 + 3 * k) (by simp)), pg_1 hk]
    rw [wd_at (q := 10) hO.1 rfl rfl, wd_at (q := 15) hO.1 rfl rfl, wd_at (q := 18) hO.1 rfl rfl, wd_at (q := 19) hO.1 rfl rfl, wd_at (q := 22) hO.1 rfl rfl]
  obtain ⟨rv, os2, ⟨⟨rfl, S', B', rfl⟩, -⟩, hr⟩ := CT.at (H := wd (cas B z sa) (cos B P z c0 c1 c2 c3 lg o0 o1 o2 o3 Bf D L hm hs hh sp L2 gm gs gh key mark X S Bk I K) (pgH B P F w ms h)) (r_cover (bs := bs) (sa := sa) d z (z + 5) (z + 8) (z + 9) (B + 11 + 3 * k) 32 0 u l (.ref (z + 1)) (.ref (z + 6)) (.ref (z + 7)) key S Bk cc4 (w k) hn (by omega) (by omega) (by omega) (by decide) (by decide)) hn hfx
  refine ⟨S', B', ?_⟩
  refine RUN.hq hr (wd_cls (os' := (cos B P z c0 c1 c2 c3 lg o0 o1 o2 o3 Bf D L hm hs hh sp L2 gm gs gh key mark X S' B' I K)) (G' := pgH B P F (upp w k (xk (w k) 0 (sm cc4 key u l) 32)) ms h) 5 [10, 15, 18, 19, 22] hO.1 rfl rfl rfl rfl ho ?_ rfl)
  show wd [B + 11 + 3 * k] [.inr (.inl (32, _))] _ = _
  rw [wd_cons, wd_nil, pg_u1 hk]
set_option maxHeartbeats 1000000 in
set_option maxRecDepth 100000 in
theorem c_readBlob {B P z : Nat} {F w ms : Nat → Nat → Int32} {h : e_H} {c0 c1 c2 c3 : Int32} {lg : Int64} {o0 o1 o2 o3 : Int32} {Bf D : Nat → Int32} {L : Int32} {hm hs hh : Nat → Int32} {sp : Nat → Option Nat} {L2 : Int32} {gm gs gh key mark X S Bk I K : Nat → Int32} (d : Nat) (hO : cOK bs B P z sa) (k : Nat) (hk : k < P) (e : Int32) :
    ∃ rv H', (rv = none ∧ ∃ S' Bk', H' = wd (cas B z sa) (cos B P z c0 c1 c2 c3 lg o0 o1 o2 o3 Bf D L hm hs hh sp L2 gm gs gh key mark X S' Bk' I K) (pgH B P (if Bf 0 = 2 then uF (uF F 0 k 2) 1 k e else uF (uF (uF (uF F 0 k 3) 1 k e) 2 k (Bf 1)) 3 k (Bf 2)) (upp w k (xk (va_cpy Bf (w k) 8 0 32) 0 (sm cc4 key (Bf 4) (Bf 5)) 32)) ms h)) ∧ ev_run tbs bs sa (d + 5) 68 [.ref B, .ref (B + 10 + 3 * k), .int e] (wd (cas B z sa) (cos B P z c0 c1 c2 c3 lg o0 o1 o2 o3 Bf D L hm hs hh sp L2 gm gs gh key mark X S Bk I K) (pgH B P F w ms h)) rv H' := by
  have hD := hO.1
  have hbB := hO.2.2.1
  have hbz := hO.2.2.2
  refine RUN.mkE (T := t_X4_readBlob) rfl (Nat.le_of_ble_eq_true rfl) ?_
  repeat (first | refine EV.s rfl rfl rfl ?_ | refine EW.get 0 hD rfl rfl rfl rfl ?_)
  refine EW.iald 1 (0) hD rfl rfl rfl (rfl) (by omega) (by decide) ?_
  repeat refine EV.s rfl rfl rfl ?_
  have go : ∀ F', F' = (if Bf 0 = 2 then uF (uF F 0 k 2) 1 k e else uF (uF (uF (uF F 0 k 3) 1 k e) 2 k (Bf 1)) 3 k (Bf 2)) → ev_E tbs bs sa (d + 4) t_X4_readBlob (fun x => ∃ v h', x = .inr (v, h') ∧ v = none ∧ ∃ S' Bk', h' = wd (cas B z sa) (cos B P z c0 c1 c2 c3 lg o0 o1 o2 o3 Bf D L hm hs hh sp L2 gm gs gh key mark X S' Bk' I K) (pgH B P (if Bf 0 = 2 then uF (uF F 0 k 2) 1 k e else uF (uF (uF (uF F 0 k 3) 1 k e) 2 k (Bf 1)) 3 k (Bf 2)) (upp w k (xk (va_cpy Bf (w k) 8 0 32) 0 (sm cc4 key (Bf 4) (Bf 5)) 32)) ms h)) (45, [some (.ref B), some (.ref (B + 10 + 3 * k)), some (.int e)], [], wd (cas B z sa) (cos B P z c0 c1 c2 c3 lg o0 o1 o2 o3 Bf D L hm hs hh sp L2 gm gs gh key mark X S Bk I K) (pgH B P F' w ms h)) := by
    intro F' hF
    rw [← hF]
    repeat (first | refine EV.s rfl rfl rfl ?_ | refine EW.get 0 hD rfl rfl rfl rfl ?_)
    refine EP.get (k := k) (hO.2.1 _ (by omega) (by omega)) (by omega) rfl rfl ?_
    repeat refine EV.s rfl rfl rfl ?_
    refine EP.cpyI hO k 8 hk rfl rfl rfl rfl (by decide) (Nat.le_of_ble_eq_true rfl) ?_
    repeat (first | refine EV.s rfl rfl rfl ?_ | refine EW.get 0 hD rfl rfl rfl rfl ?_)
    refine EP.get (k := k) (hO.2.1 _ (by omega) (by omega)) (by omega) rfl rfl ?_
    repeat (first | refine EV.s rfl rfl rfl ?_ | refine EW.get 0 hD rfl rfl rfl rfl ?_)
    refine EW.iald 1 (4) hD rfl rfl rfl (rfl) (by omega) (by decide) ?_
    repeat (first | refine EV.s rfl rfl rfl ?_ | refine EW.get 0 hD rfl rfl rfl rfl ?_)
    refine EW.iald 1 (5) hD rfl rfl rfl (rfl) (by omega) (by decide) ?_
    obtain ⟨S', Bk', hr⟩ := c_coverP (F := F') (w := upp w k (va_cpy Bf (w k) 8 0 32)) (ms := ms) (h := h) (c0 := c0) (c1 := c1) (c2 := c2) (c3 := c3) (lg := lg) (o0 := o0) (o1 := o1) (o2 := o2) (o3 := o3) (Bf := Bf) (D := D) (L := L) (hm := hm) (hs := hs) (hh := hh) (sp := sp) (L2 := L2) (gm := gm) (gs := gs) (gh := gh) (key := key) (mark := mark) (X := X) (S := S) (Bk := Bk) (I := I) (K := K) d hO k hk (Bf 4) (Bf 5)
    rw [upp_at, upp2] at hr
    refine EV.cv rfl rfl (wd_at (q := 10) hD rfl rfl) (Nat.le_of_ble_eq_true rfl) (Nat.le_of_ble_eq_true rfl) (hr) ?_
    repeat refine EV.s rfl rfl rfl ?_
    refine EV.ret rfl ?_
    exact ⟨_, _, rfl, rfl, S', Bk', rfl⟩
  by_cases h0 : Bf 0 = 2
  · refine EV.icF rfl (decide_eq_false (fun q => q h0)) ?_
    repeat refine EV.s rfl rfl rfl ?_
    refine EV.cv rfl rfl ((wd_out (hO.2.1 _ (by omega) (by omega))).trans (pg_0 hk)) (Nat.le_of_ble_eq_true rfl) (Nat.le_of_ble_eq_true rfl) (c_own (d := d + 3) (k := k) (hO.2.1 _ (by omega) (by omega)) hk hbB 2 e) ?_
    refine EV.s rfl rfl rfl ?_
    exact go _ (if_pos h0).symm
  · refine EV.icT rfl (decide_eq_true h0) ?_
    repeat refine EV.s rfl rfl rfl ?_
    refine EV.cv rfl rfl ((wd_out (hO.2.1 _ (by omega) (by omega))).trans (pg_0 hk)) (Nat.le_of_ble_eq_true rfl) (Nat.le_of_ble_eq_true rfl) (c_own (d := d + 3) (k := k) (hO.2.1 _ (by omega) (by omega)) hk hbB 3 e) ?_
    repeat (first | refine EV.s rfl rfl rfl ?_ | refine EW.get 0 hD rfl rfl rfl rfl ?_)
    refine EW.iald 1 (1) hD rfl rfl rfl (rfl) (by omega) (by decide) ?_
    refine EP.put 2 (k := k) (hO.2.1 _ (by omega) (by omega)) (by omega) hbB rfl (by decide) rfl ?_
    repeat (first | refine EV.s rfl rfl rfl ?_ | refine EW.get 0 hD rfl rfl rfl rfl ?_)
    refine EW.iald 1 (2) hD rfl rfl rfl (rfl) (by omega) (by decide) ?_
    refine EP.put 3 (k := k) (hO.2.1 _ (by omega) (by omega)) (by omega) hbB rfl (by decide) rfl ?_
    exact go _ (if_neg h0).symm
set_option maxHeartbeats 2000000 in
set_option maxRecDepth 100000 in
theorem c_whyNotReloaded (d B P z : Nat) (hP : P ≤ 40) (key mark I K : Nat → Int32) (hO : cOK bs B P z sa) (s : zS) (hI : Iv P s) (h H : e_H) (hS : cS B P z sa key mark I K s h H) (p e v sl : Int32) :
    ∃ rv H', (rv = some (.int (if ty P s.1 p 0 ∧ ty P s.1 e 1 ∧ ty P s.1 v 4 then if s.1 5 (cn e) = 1 then if inI sl 16 then if tgd K I mark s.2.2.2.1 then if frs s.1 s.2.1 s.2.2.2.1 (cn e) (cn v) (cn sl) then 0 else 5 else 4 else 3 else 2 else 1)) ∧ cS B P z sa key mark I K s h H') ∧ ev_run tbs bs sa (d + 6) 65 [.ref B, .int p, .int e, .int v, .int sl] H rv H' := by
  obtain ⟨F, w, ms, Bf, lg, ⟨c0, c1, c2, c3⟩, ⟨en, gv, ft, mk⟩⟩ := s; obtain ⟨o0, o1, o2, o3, D, L, hm, hs, hh, sp, L2, gm, gs, gh, X, S, Bk, rfl, ho⟩ := hS; have hD := hO.1; have hbB := hO.2.2.1; have hbz := hO.2.2.2
  refine RUN.mkE (T := t_X4_whyNotReloaded) rfl (Nat.le_of_ble_eq_true rfl) ?_
  repeat refine EV.s rfl rfl rfl ?_
  dsimp only
  have fin : ∀ (y : Int32), (rvq : y = (if ty P F p 0 ∧ ty P F e 1 ∧ ty P F v 4 then if F 5 (cn e) = 1 then if inI sl 16 then if tgd K I mark Bf then if frs F w Bf (cn e) (cn v) (cn sl) then 0 else 5 else 4 else 3 else 2 else 1)) → ∀ D L2 gm gs gh X, (∃ v' h', (Sum.inr (some (.int y), wd (cas B z sa) (cos B P z c0 c1 c2 c3 lg o0 o1 o2 o3 Bf D L hm hs hh sp L2 gm gs gh key mark X S Bk I K) (pgH B P F w ms h)) : e_C ⊕ (Option Value × e_H)) = .inr (v', h') ∧ v' = some (.int (if ty P F p 0 ∧ ty P F e 1 ∧ ty P F v 4 then if F 5 (cn e) = 1 then if inI sl 16 then if tgd K I mark Bf then if frs F w Bf (cn e) (cn v) (cn sl) then 0 else 5 else 4 else 3 else 2 else 1)) ∧ cS B P z sa key mark I K (F, w, ms, Bf, lg, (c0, c1, c2, c3), (en, gv, ft, mk)) h h') := by
    intro y hy D L2 gm gs gh X
    rw [hy]
    exact ⟨_, _, rfl, rfl, o0, o1, o2, o3, _, _, _, _, _, _, _, _, _, _, _, _, _, rfl, ho⟩
  refine EV.cv rfl rfl ((wd_at (q := 0) hD rfl rfl)) (Nat.le_of_ble_eq_true rfl) (Nat.le_of_ble_eq_true rfl) (c_isOfType (d + 3) B P hP F _ (cR_of hO) p 0) ?_
  by_cases hp : ty P F p 0
  rotate_left
  · rw [iso_n hp]
    refine EV.ifT rfl (by decide) ?_
    repeat refine EV.s rfl rfl rfl ?_
    refine EV.ri rfl rfl ?_
    exact fin _ (if_neg (fun q => hp q.1)).symm _ _ _ _ _ _
  rw [iso_y hp]
  refine EV.ifF rfl (by decide) ?_
  repeat refine EV.s rfl rfl rfl ?_
  refine EV.cv rfl rfl ((wd_at (q := 0) hD rfl rfl)) (Nat.le_of_ble_eq_true rfl) (Nat.le_of_ble_eq_true rfl) (c_isOfType (d + 3) B P hP F _ (cR_of hO) e 1) ?_
  by_cases he : ty P F e 1
  rotate_left
  · rw [iso_n he]
    refine EV.ifT rfl (by decide) ?_
    repeat refine EV.s rfl rfl rfl ?_
    refine EV.ri rfl rfl ?_
    exact fin _ (if_neg (fun q => he q.2.1)).symm _ _ _ _ _ _
  rw [iso_y he]
  refine EV.ifF rfl (by decide) ?_
  repeat refine EV.s rfl rfl rfl ?_
  refine EV.cv rfl rfl ((wd_at (q := 0) hD rfl rfl)) (Nat.le_of_ble_eq_true rfl) (Nat.le_of_ble_eq_true rfl) (c_isOfType (d + 3) B P hP F _ (cR_of hO) v 4) ?_
  by_cases hv : ty P F v 4
  rotate_left
  · rw [iso_n hv]
    refine EV.ifF rfl (by decide) ?_
    repeat refine EV.s rfl rfl rfl ?_
    refine EV.ri rfl rfl ?_
    exact fin _ (if_neg (fun q => hv q.2.2)).symm _ _ _ _ _ _
  rw [iso_y hv]
  rw [if_pos ⟨hp, he, hv⟩] at fin ⊢
  refine EV.ifT rfl (by decide) ?_
  repeat refine EV.s rfl rfl rfl ?_
  refine EV.cv rfl rfl ((wd_at (q := 0) hD rfl rfl)) (Nat.le_of_ble_eq_true rfl) (Nat.le_of_ble_eq_true rfl) (c_stateOf (d + 2) B P hP F _ (cR_of hO) e) ?_
  rw [sto, if_pos he]
  repeat refine EV.s rfl rfl rfl ?_
  by_cases h5 : F 5 (cn e) = 1
  rotate_left
  · refine EV.icF rfl (decide_eq_false h5) ?_
    repeat refine EV.s rfl rfl rfl ?_
    refine EV.ri rfl rfl ?_
    exact fin _ (if_neg h5).symm _ _ _ _ _ _
  refine EV.icT rfl (decide_eq_true h5) ?_
  rw [if_pos h5] at fin ⊢
  repeat refine EV.s rfl rfl rfl ?_
  refine EV.call rfl (r_isWithin (d + 4) sl (nI 16) _) ?_
  by_cases hx : inI sl 16
  rotate_left
  · simp only [if_neg hx] at fin ⊢
    refine EV.ifF rfl (by decide) ?_
    repeat refine EV.s rfl rfl rfl ?_
    refine EV.ri rfl rfl ?_
    exact fin _ rfl _ _ _ _ _ _
  simp only [if_pos hx] at fin ⊢
  refine EV.ifT rfl (by decide) ?_
  repeat refine EV.s rfl rfl rfl ?_
  obtain ⟨rv, H', ⟨rfl, D', L2', gm', gs', gh', X', rfl⟩, hr⟩ := c_isTagged (F := F) (w := w) (ms := ms) (h := h) (c0 := c0) (c1 := c1) (c2 := c2) (c3 := c3) (lg := lg) (o0 := o0) (o1 := o1) (o2 := o2) (o3 := o3) (Bf := Bf) (D := D) (L := L) (hm := hm) (hs := hs) (hh := hh) (sp := sp) (L2 := L2) (gm := gm) (gs := gs) (gh := gh) (key := key) (mark := mark) (X := X) (S := S) (Bk := Bk) (I := I) (K := K) d hO
  refine EV.cv rfl rfl ((wd_at (q := 0) hD rfl rfl)) (Nat.le_of_ble_eq_true rfl) (Nat.le_of_ble_eq_true rfl) (hr) ?_
  by_cases htg : tgd K I mark Bf
  rotate_left
  · simp only [if_neg htg] at fin ⊢
    refine EV.ifF rfl (by decide) ?_
    repeat refine EV.s rfl rfl rfl ?_
    refine EV.ri rfl rfl ?_
    exact fin _ rfl _ _ _ _ _ _
  simp only [if_pos htg] at fin ⊢
  refine EV.ifT rfl (by decide) ?_
  repeat (first | refine EV.s rfl rfl rfl ?_ | refine EW.get 0 hD rfl rfl rfl rfl ?_)
  refine EW.iald 1 (4) hD rfl rfl rfl (rfl) (by omega) (by decide) ?_
  repeat (first | refine EV.s rfl rfl rfl ?_ | refine EW.get 0 hD rfl rfl rfl rfl ?_)
  refine EW.iald 1 (5) hD rfl rfl rfl (rfl) (by omega) (by decide) ?_
  refine EV.call rfl (r_join (d + 4) (Bf 4) (Bf 5) _) ?_
  repeat refine EV.s rfl rfl rfl ?_
  obtain ⟨j, hj, rfl, ht1⟩ := ty_j hP he
  obtain ⟨k, hk, rfl, ht4⟩ := ty_j hP hv
  obtain ⟨q, hq, rfl⟩ := in_nI (by decide) hx
  rw [cnI (by omega), cnI (by omega), cnI (by omega)] at fin ⊢
  have no : ∀ l7, ¬ frs F w Bf j k q → ev_E tbs bs sa (d + 5) t_X4_whyNotReloaded (fun x => ∃ v' h', x = .inr (v', h') ∧ v' = some (.int (if frs F w Bf j k q then 0 else 5)) ∧ cS B P z sa key mark I K (F, w, ms, Bf, lg, (c0, c1, c2, c3), (en, gv, ft, mk)) h h') (136, [some (.ref B), some (.int p), some (.int (nI j)), some (.int (nI k)), some (.int (nI q)), some (.long (jn (Bf 4) (Bf 5))), none, l7], [], wd (cas B z sa) (cos B P z c0 c1 c2 c3 lg o0 o1 o2 o3 Bf D' L hm hs hh sp L2' gm' gs' gh' key mark X' S Bk I K) (pgH B P F w ms h)) := by
    intro l7 hn
    repeat refine EV.s rfl rfl rfl ?_
    refine EV.ri rfl rfl ?_
    exact fin _ (if_neg hn).symm _ _ _ _ _ _
  have no2 : ¬ frs F w Bf j k q → ev_E tbs bs sa (d + 5) t_X4_whyNotReloaded (fun x => ∃ v' h', x = .inr (v', h') ∧ v' = some (.int (if frs F w Bf j k q then 0 else 5)) ∧ cS B P z sa key mark I K (F, w, ms, Bf, lg, (c0, c1, c2, c3), (en, gv, ft, mk)) h h') (106, [some (.ref B), some (.int p), some (.int (nI j)), some (.int (nI k)), some (.int (nI q)), some (.long (jn (Bf 4) (Bf 5))), none, none], [], wd (cas B z sa) (cos B P z c0 c1 c2 c3 lg o0 o1 o2 o3 Bf D' L hm hs hh sp L2' gm' gs' gh' key mark X' S Bk I K) (pgH B P F w ms h)) := by
    intro hn
    repeat refine EV.s rfl rfl rfl ?_
    refine EV.ifT rfl (by decide) ?_
    exact no _ hn
  by_cases n0 : jn (Bf 4) (Bf 5) = 0
  · refine EV.ifT rfl (decide_eq_true ((lg_cmp_eq _ _).mpr n0)) ?_
    exact no2 (fun t => t.1.1 n0)
  refine EV.ifF rfl (decide_eq_false (fun t => n0 ((lg_cmp_eq _ _).mp t))) ?_
  repeat (first | refine EV.s rfl rfl rfl ?_ | refine EW.get 0 hD rfl rfl rfl rfl ?_)
  refine EW.aald 9 (k) hD rfl rfl rfl rfl (by omega) (by omega) ?_
  repeat refine EV.s rfl rfl rfl ?_
  refine EV.cv rfl rfl ((wd_out (hO.2.1 _ (by omega) (by omega))).trans (pg_0 hk)) (Nat.le_of_ble_eq_true rfl) (Nat.le_of_ble_eq_true rfl) (c_numberIn (d + 3) B P F w _ (cR_of hO) (cW_of hO) k hk q hq) ?_
  repeat refine EV.s rfl rfl rfl ?_
  by_cases n1 : jn (Bf 4) (Bf 5) = jn (w k (2 * q)) (w k (2 * q + 1))
  rotate_left
  · refine EV.ifT rfl (decide_eq_true (fun t => n1 ((lg_cmp_eq _ _).mp t))) ?_
    exact no2 (fun t => n1 t.1.2)
  refine EV.ifF rfl (decide_eq_false (fun t => t ((lg_cmp_eq _ _).mpr n1))) ?_
  repeat refine EV.s rfl rfl rfl ?_
  refine EV.ifF rfl (by decide) ?_
  repeat (first | refine EV.s rfl rfl rfl ?_ | refine EW.get 0 hD rfl rfl rfl rfl ?_)
  refine EW.iald 1 (3) hD rfl rfl rfl (rfl) (by omega) (by decide) ?_
  repeat (first | refine EV.s rfl rfl rfl ?_ | refine EW.get 0 hD rfl rfl rfl rfl ?_)
  refine EW.aald 9 (j) hD rfl rfl rfl rfl (by omega) (by omega) ?_
  refine EP.get (k := j) (hO.2.1 _ (by omega) (by omega)) (by omega) rfl rfl ?_
  by_cases n2 : Bf 3 = F 4 j
  rotate_left
  · refine EV.icT rfl (decide_eq_true n2) ?_
    exact no _ (fun t => n2 t.2)
  refine EV.icF rfl (decide_eq_false (fun t => t n2)) ?_
  repeat refine EV.s rfl rfl rfl ?_
  refine EV.ri rfl rfl ?_
  exact fin _ (if_pos ⟨⟨n0, n1⟩, n2⟩).symm _ _ _ _ _ _
set_option maxHeartbeats 1000000 in
set_option maxRecDepth 100000 in
theorem c_reload (d B P z : Nat) (hP : P ≤ 40) (key mark I K : Nat → Int32) (hO : cOK bs B P z sa) (s : zS) (hI : Iv P s) (h H : e_H) (hS : cS B P z sa key mark I K s h H) (p e v sl : Int32) :
    ∃ rv H', (rv = some (.int (q_reload P K I key mark p e v sl s).1) ∧ cS B P z sa key mark I K (q_reload P K I key mark p e v sl s).2 h H') ∧ ev_run tbs bs sa (d + 7) 48 [.ref B, .int p, .int e, .int v, .int sl] H rv H' := by
  obtain ⟨rv, H1, ⟨rfl, hS1⟩, hr⟩ := c_whyNotReloaded d B P z hP key mark I K hO s hI h H hS p e v sl
  have hBx : ∃ fs, H.1 B = some (.inl (4, fs)) := by
    obtain ⟨F, w, ms, Bf, lg, ⟨c0, c1, c2, c3⟩, ⟨en, gv, ft, mk⟩⟩ := s; obtain ⟨o0, o1, o2, o3, D, L, hm, hs, hh, sp, L2, gm, gs, gh, X, S, Bk, rfl, ho⟩ := hS
    exact ⟨_, wd_at (q := 0) hO.1 rfl rfl⟩
  obtain ⟨fs, hBx⟩ := hBx
  refine RUN.mkE (T := t_X4_reload) rfl (Nat.le_of_ble_eq_true rfl) ?_
  repeat refine EV.s rfl rfl rfl ?_
  refine EV.cv rfl rfl (hBx) (Nat.le_of_ble_eq_true rfl) (Nat.le_of_ble_eq_true rfl) (hr) ?_
  clear hr hBx hS
  obtain ⟨F, w, ms, Bf, lg, ⟨c0, c1, c2, c3⟩, ⟨en, gv, ft, mk⟩⟩ := s; obtain ⟨o0, o1, o2, o3, D, L, hm, hs, hh, sp, L2, gm, gs, gh, X, S, Bk, rfl, ho⟩ := hS1; have hD := hO.1; have hbB := hO.2.2.1; have hbz := hO.2.2.2
  dsimp only
  by_cases hp : ty P F p 0 ∧ ty P F e 1 ∧ ty P F v 4
  rotate_left
  · rw [if_neg hp]
    have hq : q_reload P K I key mark p e v sl (F, w, ms, Bf, lg, (c0, c1, c2, c3), (en, gv, ft, mk)) = _ := if_neg hp
    rw [hq]
    repeat refine EV.s rfl rfl rfl ?_
    refine EV.icT rfl (by decide) ?_
    repeat refine EV.s rfl rfl rfl ?_
    refine EV.icT rfl (by decide) ?_
    repeat refine EV.s rfl rfl rfl ?_
    refine EV.ifF rfl (by decide) ?_
    repeat refine EV.s rfl rfl rfl ?_
    refine EV.ri rfl rfl ?_
    exact ⟨_, _, rfl, rfl, o0, o1, o2, o3, _, _, _, _, _, _, _, _, _, _, _, _, _, rfl, ho⟩
  rw [if_pos hp]
  by_cases h5 : F 5 (cn e) = 1
  rotate_left
  · rw [if_neg h5]
    have hq : q_reload P K I key mark p e v sl (F, w, ms, Bf, lg, (c0, c1, c2, c3), (en, gv, ft, mk)) = _ := (if_pos hp).trans (if_neg h5)
    rw [hq]
    repeat refine EV.s rfl rfl rfl ?_
    refine EV.icT rfl (by decide) ?_
    repeat refine EV.s rfl rfl rfl ?_
    refine EV.icT rfl (by decide) ?_
    repeat refine EV.s rfl rfl rfl ?_
    refine EV.ifF rfl (by decide) ?_
    repeat refine EV.s rfl rfl rfl ?_
    refine EV.ri rfl rfl ?_
    exact ⟨_, _, rfl, rfl, o0, o1, o2, o3, _, _, _, _, _, _, _, _, _, _, _, _, _, rfl, ho⟩
  rw [if_pos h5]
  by_cases hx : inI sl 16
  rotate_left
  · rw [if_neg hx]
    have hq : q_reload P K I key mark p e v sl (F, w, ms, Bf, lg, (c0, c1, c2, c3), (en, gv, ft, mk)) = _ := (if_pos hp).trans ((if_pos h5).trans (if_neg hx))
    rw [hq]
    repeat refine EV.s rfl rfl rfl ?_
    refine EV.icT rfl (by decide) ?_
    repeat refine EV.s rfl rfl rfl ?_
    refine EV.icT rfl (by decide) ?_
    repeat refine EV.s rfl rfl rfl ?_
    refine EV.ifF rfl (by decide) ?_
    repeat refine EV.s rfl rfl rfl ?_
    refine EV.ri rfl rfl ?_
    exact ⟨_, _, rfl, rfl, o0, o1, o2, o3, _, _, _, _, _, _, _, _, _, _, _, _, _, rfl, ho⟩
  rw [if_pos hx]
  by_cases htg : tgd K I mark Bf
  rotate_left
  · rw [if_neg htg]
    have hq : q_reload P K I key mark p e v sl (F, w, ms, Bf, lg, (c0, c1, c2, c3), (en, gv, ft, mk)) = _ := (if_pos hp).trans ((if_pos h5).trans ((if_pos hx).trans (if_neg htg)))
    rw [hq]
    repeat refine EV.s rfl rfl rfl ?_
    refine EV.icF rfl (by decide) ?_
    repeat (first | refine EV.s rfl rfl rfl ?_ | refine EW.get 0 hD rfl rfl rfl rfl ?_)
    refine EW.putY 0 (cos B P z c0 (c1 + 1) c2 c3 lg o0 o1 o2 o3 Bf D L hm hs hh sp L2 gm gs gh key mark X S Bk I K) hD rfl rfl rfl (by omega) (Nat.le_of_ble_eq_true rfl) rfl rfl ?_
    repeat refine EV.s rfl rfl rfl ?_
    refine EV.icT rfl (by decide) ?_
    repeat refine EV.s rfl rfl rfl ?_
    refine EV.ifF rfl (by decide) ?_
    repeat refine EV.s rfl rfl rfl ?_
    refine EV.ri rfl rfl ?_
    exact ⟨_, _, rfl, rfl, o0, o1, o2, o3, _, _, _, _, _, _, _, _, _, _, _, _, _, rfl, ho⟩
  rw [if_pos htg]
  by_cases hfr : frs F w Bf (cn e) (cn v) (cn sl)
  rotate_left
  · rw [if_neg hfr]
    have hq : q_reload P K I key mark p e v sl (F, w, ms, Bf, lg, (c0, c1, c2, c3), (en, gv, ft, mk)) = _ := (if_pos hp).trans ((if_pos h5).trans ((if_pos hx).trans ((if_pos htg).trans (if_neg hfr))))
    rw [hq]
    repeat refine EV.s rfl rfl rfl ?_
    refine EV.icT rfl (by decide) ?_
    repeat refine EV.s rfl rfl rfl ?_
    refine EV.icF rfl (by decide) ?_
    repeat (first | refine EV.s rfl rfl rfl ?_ | refine EW.get 0 hD rfl rfl rfl rfl ?_)
    refine EW.putY 0 (cos B P z c0 c1 (c2 + 1) c3 lg o0 o1 o2 o3 Bf D L hm hs hh sp L2 gm gs gh key mark X S Bk I K) hD rfl rfl rfl (by omega) (Nat.le_of_ble_eq_true rfl) rfl rfl ?_
    repeat refine EV.s rfl rfl rfl ?_
    refine EV.ifF rfl (by decide) ?_
    repeat refine EV.s rfl rfl rfl ?_
    refine EV.ri rfl rfl ?_
    exact ⟨_, _, rfl, rfl, o0, o1, o2, o3, _, _, _, _, _, _, _, _, _, _, _, _, _, rfl, ho⟩
  rw [if_pos hfr]
  have hq : q_reload P K I key mark p e v sl (F, w, ms, Bf, lg, (c0, c1, c2, c3), (en, gv, ft, mk)) = _ := (if_pos hp).trans ((if_pos h5).trans ((if_pos hx).trans ((if_pos htg).trans (if_pos hfr))))
  rw [hq]
  clear hq
  obtain ⟨i, hi, rfl, ht0⟩ := ty_j hP hp.1
  obtain ⟨k, hk, rfl, ht4⟩ := ty_j hP hp.2.2
  obtain ⟨q, hq, rfl⟩ := in_nI (by decide) hx
  have hjv : i ≠ k := by
    rintro rfl
    rw [ht0] at ht4
    exact absurd ht4 (by decide)
  rw [cnI (by omega), cnI (by omega), cnI (by omega)]
  repeat refine EV.s rfl rfl rfl ?_
  refine EV.icT rfl (by decide) ?_
  repeat refine EV.s rfl rfl rfl ?_
  refine EV.icT rfl (by decide) ?_
  repeat refine EV.s rfl rfl rfl ?_
  refine EV.ifT rfl (by decide) ?_
  repeat (first | refine EV.s rfl rfl rfl ?_ | refine EW.get 0 hD rfl rfl rfl rfl ?_)
  refine EW.putY 0 (cos B P z c0 c1 c2 (c3 + 1) lg o0 o1 o2 o3 Bf D L hm hs hh sp L2 gm gs gh key mark X S Bk I K) hD rfl rfl rfl (by omega) (Nat.le_of_ble_eq_true rfl) rfl rfl ?_
  repeat (first | refine EV.s rfl rfl rfl ?_ | refine EW.get 0 hD rfl rfl rfl rfl ?_)
  refine EW.aald 9 (i) hD rfl rfl rfl rfl (by omega) (by omega) ?_
  repeat refine EV.s rfl rfl rfl ?_
  obtain ⟨rv, H', ⟨rfl, S', Bk', rfl⟩, hr⟩ := c_readBlob (F := F) (w := w) (ms := ms) (h := h) (c0 := c0) (c1 := c1) (c2 := c2) (c3 := c3 + 1) (lg := lg) (o0 := o0) (o1 := o1) (o2 := o2) (o3 := o3) (Bf := Bf) (D := D) (L := L) (hm := hm) (hs := hs) (hh := hh) (sp := sp) (L2 := L2) (gm := gm) (gs := gs) (gh := gh) (key := key) (mark := mark) (X := X) (S := S) (Bk := Bk) (I := I) (K := K) (d + 1) hO i hi e
  refine EV.cv rfl rfl ((wd_at (q := 0) hD rfl rfl)) (Nat.le_of_ble_eq_true rfl) (Nat.le_of_ble_eq_true rfl) (hr) ?_
  repeat (first | refine EV.s rfl rfl rfl ?_ | refine EW.get 0 hD rfl rfl rfl rfl ?_)
  refine EW.aald 9 (k) hD rfl rfl rfl rfl (by omega) (by omega) ?_
  repeat refine EV.s rfl rfl rfl ?_
  refine EV.cv rfl rfl ((wd_out (hO.2.1 _ (by omega) (by omega))).trans (pg_0 hk)) (Nat.le_of_ble_eq_true rfl) (Nat.le_of_ble_eq_true rfl) (c_setNumber (d := d + 4) (k := k) (hO.2.1 _ (by omega) (by omega)) (hO.2.1 _ (by omega) (by omega)) hk hbB q hq 0) ?_
  repeat refine EV.s rfl rfl rfl ?_
  refine EV.ri rfl rfl ?_
  exact ⟨_, _, rfl, rfl, o0, o1, o2, o3, _, _, _, _, _, _, _, _, _, _, _, _, _, rfl, ho⟩
theorem cpy_hi {f g : Nat → Int32} {at_ n j : Nat} (h : j < at_) : va_cpy f g 0 at_ n j = g j := by
  simp only [va_cpy]
  rw [if_neg (by omega)]
set_option maxHeartbeats 2000000 in
set_option maxRecDepth 100000 in
theorem c_writeBlob {B P z : Nat} {F w ms : Nat → Nat → Int32} {h : e_H} {c0 c1 c2 c3 : Int32} {lg : Int64} {o0 o1 o2 o3 : Int32} {Bf D : Nat → Int32} {L : Int32} {hm hs hh : Nat → Int32} {sp : Nat → Option Nat} {L2 : Int32} {gm gs gh key mark X S Bk I K : Nat → Int32} (d : Nat) (hP : P ≤ 40) (hO : cOK bs B P z sa) (k e : Nat) (hk : k < P) (he : e < P) (hw : F 1 k = nI e) (x : Int64) :
    ∃ rv H', (rv = none ∧ ∃ L2' gm' gs' gh' X' S' Bk', H' = wd (cas B z sa) (cos B P z c0 c1 c2 c3 lg o0 o1 o2 o3 (evD F w Bf K I key mark x k) D L hm hs hh sp L2' gm' gs' gh' key mark X' S' Bk' I K) (pgH B P F w ms h)) ∧ ev_run tbs bs sa (d + 5) 67 [.ref B, .ref (B + 10 + 3 * k), .long x] (wd (cas B z sa) (cos B P z c0 c1 c2 c3 lg o0 o1 o2 o3 Bf D L hm hs hh sp L2 gm gs gh key mark X S Bk I K) (pgH B P F w ms h)) rv H' := by
  have hD := hO.1
  have hbB := hO.2.2.1
  have hbz := hO.2.2.2
  refine RUN.mkE (T := t_X4_writeBlob) rfl (Nat.le_of_ble_eq_true rfl) ?_
  repeat (first | refine EV.s rfl rfl rfl ?_ | refine EW.get 0 hD rfl rfl rfl rfl ?_)
  refine EP.get (k := k) (hO.2.1 _ (by omega) (by omega)) (by omega) rfl rfl ?_
  refine EW.iastY 1 (0) (cos B P z c0 c1 c2 c3 lg o0 o1 o2 o3 (upd Bf 0 (F 0 k)) D L hm hs hh sp L2 gm gs gh key mark X S Bk I K) hD rfl rfl rfl (by omega) (rfl) (by omega) (by decide) (rfl) ?_
  repeat (first | refine EV.s rfl rfl rfl ?_ | refine EW.get 0 hD rfl rfl rfl rfl ?_)
  refine EP.get (k := k) (hO.2.1 _ (by omega) (by omega)) (by omega) rfl rfl ?_
  refine EW.iastY 1 (1) (cos B P z c0 c1 c2 c3 lg o0 o1 o2 o3 (upd (upd Bf 0 (F 0 k)) 1 (F 2 k)) D L hm hs hh sp L2 gm gs gh key mark X S Bk I K) hD rfl rfl rfl (by omega) (rfl) (by omega) (by decide) (rfl) ?_
  repeat (first | refine EV.s rfl rfl rfl ?_ | refine EW.get 0 hD rfl rfl rfl rfl ?_)
  refine EP.get (k := k) (hO.2.1 _ (by omega) (by omega)) (by omega) rfl rfl ?_
  refine EW.iastY 1 (2) (cos B P z c0 c1 c2 c3 lg o0 o1 o2 o3 (upd (upd (upd Bf 0 (F 0 k)) 1 (F 2 k)) 2 (F 3 k)) D L hm hs hh sp L2 gm gs gh key mark X S Bk I K) hD rfl rfl rfl (by omega) (rfl) (by omega) (by decide) (rfl) ?_
  repeat (first | refine EV.s rfl rfl rfl ?_ | refine EW.get 0 hD rfl rfl rfl rfl ?_)
  refine EP.get (k := k) (hO.2.1 _ (by omega) (by omega)) (by omega) rfl rfl ?_
  rw [hw]
  refine EW.aald 9 (e) hD rfl rfl rfl rfl (by omega) (by omega) ?_
  refine EP.get (k := e) (hO.2.1 _ (by omega) (by omega)) (by omega) rfl rfl ?_
  refine EW.iastY 1 (3) (cos B P z c0 c1 c2 c3 lg o0 o1 o2 o3 (upd (upd (upd (upd Bf 0 (F 0 k)) 1 (F 2 k)) 2 (F 3 k)) 3 (F 4 e)) D L hm hs hh sp L2 gm gs gh key mark X S Bk I K) hD rfl rfl rfl (by omega) (rfl) (by omega) (by decide) (rfl) ?_
  repeat (first | refine EV.s rfl rfl rfl ?_ | refine EW.get 0 hD rfl rfl rfl rfl ?_)
  refine EW.iastY 1 (4) (cos B P z c0 c1 c2 c3 lg o0 o1 o2 o3 (upd (upd (upd (upd (upd Bf 0 (F 0 k)) 1 (F 2 k)) 2 (F 3 k)) 3 (F 4 e)) 4 (up64 x)) D L hm hs hh sp L2 gm gs gh key mark X S Bk I K) hD rfl rfl rfl (by omega) (rfl) (by omega) (by decide) (rfl) ?_
  repeat (first | refine EV.s rfl rfl rfl ?_ | refine EW.get 0 hD rfl rfl rfl rfl ?_)
  refine EW.iastY 1 (5) (cos B P z c0 c1 c2 c3 lg o0 o1 o2 o3 (upd (upd (upd (upd (upd (upd Bf 0 (F 0 k)) 1 (F 2 k)) 2 (F 3 k)) 3 (F 4 e)) 4 (up64 x)) 5 x.toInt32) D L hm hs hh sp L2 gm gs gh key mark X S Bk I K) hD rfl rfl rfl (by omega) (rfl) (by omega) (by decide) (rfl) ?_
  repeat (first | refine EV.s rfl rfl rfl ?_ | refine EW.get 0 hD rfl rfl rfl rfl ?_)
  refine EW.iastY 1 (6) (cos B P z c0 c1 c2 c3 lg o0 o1 o2 o3 (upd (upd (upd (upd (upd (upd (upd Bf 0 (F 0 k)) 1 (F 2 k)) 2 (F 3 k)) 3 (F 4 e)) 4 (up64 x)) 5 x.toInt32) 6 0) D L hm hs hh sp L2 gm gs gh key mark X S Bk I K) hD rfl rfl rfl (by omega) (rfl) (by omega) (by decide) (rfl) ?_
  repeat (first | refine EV.s rfl rfl rfl ?_ | refine EW.get 0 hD rfl rfl rfl rfl ?_)
  refine EW.iastY 1 (7) (cos B P z c0 c1 c2 c3 lg o0 o1 o2 o3 (upd (upd (upd (upd (upd (upd (upd (upd Bf 0 (F 0 k)) 1 (F 2 k)) 2 (F 3 k)) 3 (F 4 e)) 4 (up64 x)) 5 x.toInt32) 6 0) 7 0) D L hm hs hh sp L2 gm gs gh key mark X S Bk I K) hD rfl rfl rfl (by omega) (rfl) (by omega) (by decide) (rfl) ?_
  have hB : upd (upd (upd (upd (upd (upd (upd (upd Bf 0 (F 0 k)) 1 (F 2 k)) 2 (F 3 k)) 3 (F 4 e)) 4 (up64 x)) 5 x.toInt32) 6 0) 7 0 = evB F w Bf x k := by
    unfold evB
    rw [hw, cnI (by omega)]
  rw [hB]
  repeat (first | refine EV.s rfl rfl rfl ?_ | refine EW.get 0 hD rfl rfl rfl rfl ?_)
  refine EP.get (k := k) (hO.2.1 _ (by omega) (by omega)) (by omega) rfl rfl ?_
  repeat (first | refine EV.s rfl rfl rfl ?_ | refine EW.get 0 hD rfl rfl rfl rfl ?_)
  refine EP.cpyO hO k 8 hk rfl rfl rfl rfl (by decide) (Nat.le_of_ble_eq_true rfl) ?_
  repeat (first | refine EV.s rfl rfl rfl ?_ | refine EW.get 0 hD rfl rfl rfl rfl ?_)
  refine EW.iald 1 (4) hD rfl rfl rfl (rfl) (by omega) (by decide) ?_
  repeat (first | refine EV.s rfl rfl rfl ?_ | refine EW.get 0 hD rfl rfl rfl rfl ?_)
  refine EW.iald 1 (5) hD rfl rfl rfl (rfl) (by omega) (by decide) ?_
  have e4 : va_cpy (w k) (evB F w Bf x k) 0 8 32 4 = up64 x := by rw [cpy_hi (by decide)]; rfl
  have e5 : va_cpy (w k) (evB F w Bf x k) 0 8 32 5 = x.toInt32 := by rw [cpy_hi (by decide)]; rfl
  rw [e4, e5]
  refine EW.cvF 10 [10, 15, 18, 19, 22, 1] hD (r_cover d z (z + 5) (z + 8) (z + 9) (B + 1) 64 8 (up64 x) x.toInt32 (.ref (z + 1)) (.ref (z + 6)) (.ref (z + 7)) key S Bk cc4 (va_cpy (w k) (evB F w Bf x k) 0 8 32) (nd_sub hD [10, 15, 18, 19, 22, 1] (by decide) rfl) (by omega) (by omega) (by omega) (by decide) (by decide)) rfl rfl rfl rfl rfl (Nat.le_of_ble_eq_true rfl) (Nat.le_of_ble_eq_true rfl) rfl rfl rfl ?_
  rintro rv os2 ⟨rfl, S', B', rfl⟩
  refine ⟨(cos B P z c0 c1 c2 c3 lg o0 o1 o2 o3 (evC F w Bf key x k) D L hm hs hh sp L2 gm gs gh key mark X S' B' I K), rfl, ?_⟩
  repeat (first | refine EV.s rfl rfl rfl ?_ | refine EW.get 0 hD rfl rfl rfl rfl ?_)
  refine EW.cvF 10 [10, 16, 17, 11, 12, 13, 14, 20, 21, 1] hD (r_signB d z (z + 6) (z + 7) (z + 1) (z + 2) (z + 3) (z + 4) (B + 1) 40 64 40 (.ref (z + 5)) (.ref (z + 8)) (.ref (z + 9)) L2 mark X gm gs gh I K (evC F w Bf key x k) (nd_sub hD [10, 16, 17, 11, 12, 13, 14, 20, 21, 1] (by decide) rfl) (by omega) (by omega) (by omega) (by omega) (by omega) (by omega) (by decide) (by decide) (by decide) (by decide)) rfl rfl rfl rfl rfl (Nat.le_of_ble_eq_true rfl) (Nat.le_of_ble_eq_true rfl) rfl rfl rfl ?_
  rintro rv os2 ⟨rfl, X', F', G', H', L', T', rfl, hT⟩
  subst hT
  refine ⟨(cos B P z c0 c1 c2 c3 lg o0 o1 o2 o3 (evD F w Bf K I key mark x k) D L hm hs hh sp L' F' G' H' key mark X' S' B' I K), rfl, ?_⟩
  refine EV.ret rfl ?_
  exact ⟨_, _, rfl, rfl, _, _, _, _, _, _, _, rfl⟩
set_option maxHeartbeats 1000000 in
set_option maxRecDepth 100000 in
theorem c_evict (d B P z : Nat) (hP : P ≤ 40) (key mark I K : Nat → Int32) (hO : cOK bs B P z sa) (s : zS) (hI : Iv P s) (h H : e_H) (hS : cS B P z sa key mark I K s h H) (p v sl : Int32) :
    ∃ rv H', (rv = some (.int (q_evict P K I key mark p v sl s).1) ∧ cS B P z sa key mark I K (q_evict P K I key mark p v sl s).2 h H') ∧ ev_run tbs bs sa (d + 6) 47 [.ref B, .int p, .int v, .int sl] H rv H' := by
  obtain ⟨F, w, ms, Bf, lg, ⟨c0, c1, c2, c3⟩, ⟨en, gv, ft, mk⟩⟩ := s; obtain ⟨o0, o1, o2, o3, D, L, hm, hs, hh, sp, L2, gm, gs, gh, X, S, Bk, rfl, ho⟩ := hS; have hD := hO.1; have hbB := hO.2.2.1; have hbz := hO.2.2.2
  refine RUN.mkE (T := t_X4_evict) rfl (Nat.le_of_ble_eq_true rfl) ?_
  repeat refine EV.s rfl rfl rfl ?_
  refine EV.cv rfl rfl ((wd_at (q := 0) hD rfl rfl)) (Nat.le_of_ble_eq_true rfl) (Nat.le_of_ble_eq_true rfl) (c_whyNotEvicted (d + 1) B P hP F w _ (cR_of hO) (cW_of hO) p v sl) ?_
  by_cases hp : (ty P F p 2 ∨ ty P F p 3) ∧ ty P F v 4
  rotate_left
  · rw [if_neg hp]
    have hq : q_evict P K I key mark p v sl (F, w, ms, Bf, lg, (c0, c1, c2, c3), (en, gv, ft, mk)) = _ := if_neg hp
    rw [hq]
    repeat refine EV.s rfl rfl rfl ?_
    refine EV.ifF rfl (by decide) ?_
    repeat refine EV.s rfl rfl rfl ?_
    refine EV.ri rfl rfl ?_
    exact ⟨_, _, rfl, rfl, o0, o1, o2, o3, _, _, _, _, _, _, _, _, _, _, _, _, _, rfl, ho⟩
  rw [if_pos hp]
  by_cases hf : fin1 P F (F 1 (cn p))
  rotate_left
  · rw [if_neg hf]
    have hq : q_evict P K I key mark p v sl (F, w, ms, Bf, lg, (c0, c1, c2, c3), (en, gv, ft, mk)) = _ := (if_pos hp).trans (if_neg hf)
    rw [hq]
    repeat refine EV.s rfl rfl rfl ?_
    refine EV.ifF rfl (by decide) ?_
    repeat refine EV.s rfl rfl rfl ?_
    refine EV.ri rfl rfl ?_
    exact ⟨_, _, rfl, rfl, o0, o1, o2, o3, _, _, _, _, _, _, _, _, _, _, _, _, _, rfl, ho⟩
  rw [if_pos hf]
  by_cases hx : inI sl 16 ∧ jn (w (cn v) (2 * cn sl)) (w (cn v) (2 * cn sl + 1)) = 0
  rotate_left
  · rw [if_neg hx]
    have hq : q_evict P K I key mark p v sl (F, w, ms, Bf, lg, (c0, c1, c2, c3), (en, gv, ft, mk)) = _ := (if_pos hp).trans ((if_pos hf).trans (if_neg hx))
    rw [hq]
    repeat refine EV.s rfl rfl rfl ?_
    refine EV.ifF rfl (by decide) ?_
    repeat refine EV.s rfl rfl rfl ?_
    refine EV.ri rfl rfl ?_
    exact ⟨_, _, rfl, rfl, o0, o1, o2, o3, _, _, _, _, _, _, _, _, _, _, _, _, _, rfl, ho⟩
  rw [if_pos hx]
  have hq : q_evict P K I key mark p v sl (F, w, ms, Bf, lg, (c0, c1, c2, c3), (en, gv, ft, mk)) = _ := (if_pos hp).trans ((if_pos hf).trans (if_pos hx))
  rw [hq]
  clear hq
  obtain ⟨i, hi, rfl⟩ := in_nI (n := P) (by omega) (hp.1.elim (fun t => ⟨t.1, t.2.1⟩) (fun t => ⟨t.1, t.2.1⟩))
  have hti : F 0 i = 2 ∨ F 0 i = 3 := by
    refine hp.1.imp (fun t => ?_) (fun t => ?_)
    · have := t.2.2; rwa [cnI (by omega)] at this
    · have := t.2.2; rwa [cnI (by omega)] at this
  obtain ⟨k, hk, rfl, ht4⟩ := ty_j hP hp.2
  obtain ⟨q, hq, rfl⟩ := in_nI (by decide) hx.1
  obtain ⟨e, he, hw, -, -⟩ := Iv.own hI hi hP hti
  have hik : i ≠ k := by
    rintro rfl
    rw [ht4] at hti
    exact hti.elim (by decide) (by decide)
  rw [cnI (by omega), cnI (by omega), cnI (by omega)]
  repeat refine EV.s rfl rfl rfl ?_
  refine EV.ifT rfl (by decide) ?_
  repeat (first | refine EV.s rfl rfl rfl ?_ | refine EW.get 0 hD rfl rfl rfl rfl ?_)
  refine EW.putY 0 (cos B P z c0 c1 c2 c3 (lg + 1) o0 o1 o2 o3 Bf D L hm hs hh sp L2 gm gs gh key mark X S Bk I K) hD rfl rfl rfl (by omega) (Nat.le_of_ble_eq_true rfl) rfl rfl ?_
  repeat (first | refine EV.s rfl rfl rfl ?_ | refine EW.get 0 hD rfl rfl rfl rfl ?_)
  refine EW.aald 9 (i) hD rfl rfl rfl rfl (by omega) (by omega) ?_
  repeat (first | refine EV.s rfl rfl rfl ?_ | refine EW.get 0 hD rfl rfl rfl rfl ?_)
  obtain ⟨rv, H', ⟨rfl, L2', gm', gs', gh', X', S', Bk', rfl⟩, hr⟩ := c_writeBlob (F := F) (w := w) (ms := ms) (h := h) (c0 := c0) (c1 := c1) (c2 := c2) (c3 := c3) (lg := lg + 1) (o0 := o0) (o1 := o1) (o2 := o2) (o3 := o3) (Bf := Bf) (D := D) (L := L) (hm := hm) (hs := hs) (hh := hh) (sp := sp) (L2 := L2) (gm := gm) (gs := gs) (gh := gh) (key := key) (mark := mark) (X := X) (S := S) (Bk := Bk) (I := I) (K := K) d hP hO i e hi he hw (lg + 1)
  refine EV.cv rfl rfl ((wd_at (q := 0) hD rfl rfl)) (Nat.le_of_ble_eq_true rfl) (Nat.le_of_ble_eq_true rfl) (hr) ?_
  repeat (first | refine EV.s rfl rfl rfl ?_ | refine EW.get 0 hD rfl rfl rfl rfl ?_)
  refine EW.aald 9 (k) hD rfl rfl rfl rfl (by omega) (by omega) ?_
  repeat (first | refine EV.s rfl rfl rfl ?_ | refine EW.get 0 hD rfl rfl rfl rfl ?_)
  refine EV.cv rfl rfl ((wd_out (hO.2.1 _ (by omega) (by omega))).trans (pg_0 hk)) (Nat.le_of_ble_eq_true rfl) (Nat.le_of_ble_eq_true rfl) (c_setNumber (d := d + 3) (k := k) (hO.2.1 _ (by omega) (by omega)) (hO.2.1 _ (by omega) (by omega)) hk hbB q hq (lg + 1)) ?_
  repeat (first | refine EV.s rfl rfl rfl ?_ | refine EW.get 0 hD rfl rfl rfl rfl ?_)
  refine EW.aald 9 (i) hD rfl rfl rfl rfl (by omega) (by omega) ?_
  refine EV.cv rfl rfl ((wd_out (hO.2.1 _ (by omega) (by omega))).trans (pg_0 hi)) (Nat.le_of_ble_eq_true rfl) (Nat.le_of_ble_eq_true rfl) (c_clear (d := d + 4) (k := i) (hO.2.1 _ (by omega) (by omega)) (hO.2.1 _ (by omega) (by omega)) (hO.2.1 _ (by omega) (by omega)) hi hbB) ?_
  repeat refine EV.s rfl rfl rfl ?_
  refine EV.ri rfl rfl ?_
  have e1 : svW w k q (lg + 1) i = w i := upp_ne _ _ hik
  rw [e1]
  exact ⟨_, _, rfl, rfl, o0, o1, o2, o3, _, _, _, _, _, _, _, _, _, _, _, _, _, rfl, ho⟩
end CSL
