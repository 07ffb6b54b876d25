/-- how many pages -/
def pgs (p : Int32) : Nat := if 8 ≤ p ∧ p ≤ 40 then cn p else 16
theorem pgs_nI (p : Int32) (h : 8 ≤ p ∧ p ≤ 40) : p = nI (pgs p) := by
  unfold pgs
  rw [if_pos h]
  have h0 : ¬ p < 0 := fun q => absurd (Int32.lt_of_le_of_lt h.1 q) (by decide)
  obtain ⟨j, hj, rfl⟩ := in_nI (n := 41) (by decide) ⟨Int32.not_lt.mp h0, Int32.lt_of_le_of_lt h.2 (by decide)⟩
  rw [cnI (by omega)]
theorem pgs_le (p : Int32) : 8 ≤ pgs p ∧ pgs p ≤ 40 := by
  by_cases h : 8 ≤ p ∧ p ≤ 40
  · have e := pgs_nI p h
    have h0 : ¬ p < 0 := fun q => absurd (Int32.lt_of_le_of_lt h.1 q) (by decide)
    obtain ⟨j, hj, rfl⟩ := in_nI (n := 41) (by decide) ⟨Int32.not_lt.mp h0, Int32.lt_of_le_of_lt h.2 (by decide)⟩
    have : pgs (nI j) = j := by unfold pgs; rw [if_pos h, cnI (by omega)]
    rw [this]
    refine ⟨?_, by omega⟩
    have h8 := h.1
    by_cases c : 8 ≤ j
    · exact c
    · exact absurd h8 (nI_ge (b := 8) (by omega) (by decide))
  · unfold pgs; rw [if_neg h]; decide
section CIO
variable {bs : Nat} {sa : Nat → Nat}
set_option maxHeartbeats 4000000 in
set_option maxRecDepth 100000 in
theorem i_monitor (d B u : Nat) (p : Int32) (seed : Int64) (I K : Nat → Int32) (f : Nat → Option e_O) (h01 : sa 0 ≠ sa 1) (h0 : sa 0 < B) (h1 : sa 1 < B) (hb : bs ≤ B) :
    ∃ rv H', (rv = none ∧ ∃ z P, P = pgs p ∧ z = B + 10 + 3 * P ∧ ∃ L gm gs gh, H' = wd (xas B sa ++ [z, z + 1, z + 2, z + 3, z + 4, z + 5, z + 6, z + 7, z + 8, z + 9]) (xos B P (.ref z) (pga B P) I K ++ [.inl (3, [.ref (z + 1), .ref (z + 5), .ref (z + 6), .ref (z + 7), .ref (z + 8), .ref (z + 9)]), .inl (0, [.ref (z + 2), .ref (z + 3), .ref (z + 4), .int L]), .inr (.inl (64, gm)), .inr (.inl (64, gs)), .inr (.inl (8, gh)), .inr (.inl (8, va_cpy (kdf K I seed 1) (fun _ => 0) 0 0 8)), .inr (.inl (8, va_cpy (kdf K I seed 2) (fun _ => 0) 0 0 8)), .inr (.inl (8, fun _ => 0)), .inr (.inl (16, fun _ => 0)), .inr (.inl (16, fun _ => 0))]) (pgH B P F00 w00 w00 (f, some (z + 10, u + 451 + 49 * P)))) ∧ ev_run tbs bs sa (d + 6) 34 [.ref B, .int p, .long seed] (wd [B, sa 0, sa 1] [.inl (4, [.null, .null, .null, .null, .null, .null, .long 0, .int 0, .int 0, .int 0, .int 0]), .inr (.inl (8, I)), .inr (.inl (64, K))] (f, some (B + 1, u))) rv H' := by
  have hP := pgs_le p
  have hD3 : [B, sa 0, sa 1, B + 1].Nodup := by simp; omega
  have hD4 : [B, sa 0, sa 1, B + 1, B + 2].Nodup := by simp; omega
  have hD5 : [B, sa 0, sa 1, B + 1, B + 2, B + 3].Nodup := by simp; omega
  have hD8 : [B, sa 0, sa 1, B + 1, B + 2, B + 3, B + 4, B + 5, B + 6].Nodup := by simp; omega
  have hD9 : [B, sa 0, sa 1, B + 1, B + 2, B + 3, B + 4, B + 5, B + 6, B + 7].Nodup := by simp; omega
  have hD10 : [B, sa 0, sa 1, B + 1, B + 2, B + 3, B + 4, B + 5, B + 6, B + 7, B + 8].Nodup := by simp; omega
  have hD11 : [B, sa 0, sa 1, B + 1, B + 2, B + 3, B + 4, B + 5, B + 6, B + 7, B + 8, B + 9].Nodup := by simp; omega
  refine RUN.mkE (T := t_X4_init) rfl (Nat.le_of_ble_eq_true rfl) ?_
  repeat refine EV.s rfl rfl rfl ?_
  refine EV.st rfl ?_
  repeat refine EV.s rfl rfl rfl ?_
  refine EI.newA 64 (B + 2) (u + 64) [B, sa 0, sa 1, B + 1] _ (by simp; omega) rfl rfl rfl (by decide) rfl rfl rfl rfl ?_
  refine EW.put 0 hD3 rfl rfl rfl hb (Nat.le_of_ble_eq_true rfl) rfl ?_
  try simp only [setm, List.set_cons_succ, List.set_cons_zero, Option.toList, List.nil_append, List.cons_append]
  repeat refine EV.s rfl rfl rfl ?_
  refine EI.newA 8 (B + 3) (u + 72) [B, sa 0, sa 1, B + 1, B + 2] _ (by simp; omega) rfl rfl rfl (by decide) rfl rfl rfl rfl ?_
  refine EW.put 0 hD4 rfl rfl rfl hb (Nat.le_of_ble_eq_true rfl) rfl ?_
  try simp only [setm, List.set_cons_succ, List.set_cons_zero, Option.toList, List.nil_append, List.cons_append]
  repeat refine EV.s rfl rfl rfl ?_
  refine EI.newO (B + 4) (u + 76) [B, sa 0, sa 1, B + 1, B + 2, B + 3] _ (by simp; omega) rfl rfl rfl rfl rfl rfl ?_
  repeat refine EV.s rfl rfl rfl ?_
  refine EI.call (wd [B, sa 0, sa 1, B + 1, B + 2, B + 3, B + 4, B + 5, B + 6] [.inl (4, [.null, .ref (B + 1), .ref (B + 2), .null, .null, .null, .long 0, .int 0, .int 0, .int 0, .int 0]), .inr (.inl (8, I)), .inr (.inl (64, K)), .inr (.inl (64, fun _ => 0)), .inr (.inl (8, fun _ => 0)), .inl (0, [.ref (B + 4), .ref (B + 5), .ref (B + 6), .int 0]), .inr (.inl (64, fun _ => 0)), .inr (.inl (64, fun _ => 0)), .inr (.inl (8, fun _ => 0))] (f, some (B + 7, u + 212))) rfl (wd_call (as1 := [B + 3]) (nw := [B + 4, B + 5, B + 6]) (os1 := [.inl (0, [.null, .null, .null, .int 0])]) (os2 := [.inl (0, [.ref (B + 4), .ref (B + 5), .ref (B + 6), .int 0])]) (on := [.inr (.inl (64, fun _ => 0)), .inr (.inl (64, fun _ => 0)), .inr (.inl (8, fun _ => 0))]) [5] hD5 rfl (i_hash (d + 4) (B + 3) (B + 4) (u + 76) _ (by omega) (by omega)) rfl rfl rfl rfl (by simp; omega)) rfl ?_
  try simp only [setm, List.set_cons_succ, List.set_cons_zero, Option.toList, List.nil_append, List.cons_append]
  refine EW.put 0 hD8 rfl rfl rfl hb (Nat.le_of_ble_eq_true rfl) rfl ?_
  try simp only [setm, List.set_cons_succ, List.set_cons_zero, Option.toList, List.nil_append, List.cons_append]
  repeat refine EV.s rfl rfl rfl ?_
  refine EI.newO (B + 8) (u + 217) [B, sa 0, sa 1, B + 1, B + 2, B + 3, B + 4, B + 5, B + 6, B + 7] _ (by simp; omega) rfl rfl rfl rfl rfl rfl ?_
  repeat refine EV.s rfl rfl rfl ?_
  refine EI.call (wd [B, sa 0, sa 1, B + 1, B + 2, B + 3, B + 4, B + 5, B + 6, B + 7, B + 8] [.inl (4, [.null, .ref (B + 1), .ref (B + 2), .ref (B + 3), .null, .null, .long 0, .int 0, .int 0, .int 0, .int 0]), .inr (.inl (8, I)), .inr (.inl (64, K)), .inr (.inl (64, fun _ => 0)), .inr (.inl (8, fun _ => 0)), .inl (0, [.ref (B + 4), .ref (B + 5), .ref (B + 6), .int 0]), .inr (.inl (64, fun _ => 0)), .inr (.inl (64, fun _ => 0)), .inr (.inl (8, fun _ => 0)), .inl (2, [.ref (B + 8), .int (-1), .int (-1), .int (-1), .int (-1)]), .inr (.inr (.inr (32, fun _ => none)))] (f, some (B + 9, u + 249))) rfl (wd_call (as1 := [B + 7]) (nw := [B + 8]) (os1 := [.inl (2, [.null, .int 0, .int 0, .int 0, .int 0])]) (os2 := [.inl (2, [.ref (B + 8), .int (-1), .int (-1), .int (-1), .int (-1)])]) (on := [.inr (.inr (.inr (32, fun _ => none)))]) [9] hD9 rfl (i_runner (d + 4) (B + 7) (B + 8) (u + 217) _ (by omega) (by omega)) rfl rfl rfl rfl (by simp; omega)) rfl ?_
  try simp only [setm, List.set_cons_succ, List.set_cons_zero, Option.toList, List.nil_append, List.cons_append]
  refine EW.put 0 hD10 rfl rfl rfl hb (Nat.le_of_ble_eq_true rfl) rfl ?_
  try simp only [setm, List.set_cons_succ, List.set_cons_zero, Option.toList, List.nil_append, List.cons_append]
  repeat refine EV.s rfl rfl rfl ?_
  have go : ∀ l4 (x : Int32), x = nI (pgs p) → ev_E tbs bs sa (d + 5) t_X4_init (fun y => ∃ v h', y = .inr (v, h') ∧ v = none ∧ ∃ z P, P = pgs p ∧ z = B + 10 + 3 * P ∧ ∃ L gm gs gh, h' = wd (xas B sa ++ [z, z + 1, z + 2, z + 3, z + 4, z + 5, z + 6, z + 7, z + 8, z + 9]) (xos B P (.ref z) (pga B P) I K ++ [.inl (3, [.ref (z + 1), .ref (z + 5), .ref (z + 6), .ref (z + 7), .ref (z + 8), .ref (z + 9)]), .inl (0, [.ref (z + 2), .ref (z + 3), .ref (z + 4), .int L]), .inr (.inl (64, gm)), .inr (.inl (64, gs)), .inr (.inl (8, gh)), .inr (.inl (8, va_cpy (kdf K I seed 1) (fun _ => 0) 0 0 8)), .inr (.inl (8, va_cpy (kdf K I seed 2) (fun _ => 0) 0 0 8)), .inr (.inl (8, fun _ => 0)), .inr (.inl (16, fun _ => 0)), .inr (.inl (16, fun _ => 0))]) (pgH B P F00 w00 w00 (f, some (z + 10, u + 451 + 49 * P)))) (60, [some (.ref B), some (.int p), some (.long seed), none, l4, none], [.int x], wd [B, sa 0, sa 1, B + 1, B + 2, B + 3, B + 4, B + 5, B + 6, B + 7, B + 8] [.inl (4, [.null, .ref (B + 1), .ref (B + 2), .ref (B + 3), .null, .ref (B + 7), .long 0, .int 0, .int 0, .int 0, .int 0]), .inr (.inl (8, I)), .inr (.inl (64, K)), .inr (.inl (64, fun _ => 0)), .inr (.inl (8, fun _ => 0)), .inl (0, [.ref (B + 4), .ref (B + 5), .ref (B + 6), .int 0]), .inr (.inl (64, fun _ => 0)), .inr (.inl (64, fun _ => 0)), .inr (.inl (8, fun _ => 0)), .inl (2, [.ref (B + 8), .int (-1), .int (-1), .int (-1), .int (-1)]), .inr (.inr (.inr (32, fun _ => none)))] (f, some (B + 9, u + 249))) := by
    intro l4 x hx
    subst hx
    generalize hPP : pgs p = P at hP
    repeat refine EV.s rfl rfl rfl ?_
    refine EI.newR P (B + 10) (u + 249 + P) (xas B sa) _ (by simp; omega) rfl rfl rfl (by omega) rfl rfl rfl rfl ?_
    refine EW.put 0 hD11 rfl rfl rfl hb (Nat.le_of_ble_eq_true rfl) rfl ?_
    try simp only [setm, List.set_cons_succ, List.set_cons_zero, Option.toList, List.nil_append, List.cons_append]
    repeat refine EV.s rfl rfl rfl ?_
    refine EV.cls (H' := wd (xas B sa) (xos B P .null (pga B 0) I K) (pgH B 0 F00 w00 w00 (f, some (B + 10 + 3 * 0, u + 249 + P + 48 * 0)))) ?_ ?_
    · rw [pg_0']; rfl
    refine i_pages (d + 4) B P (u + 249 + P) hP.2 I K f hD11 h0 h1 hb (some (.int p)) (some (.long seed)) none _ (fun ki => ?_) P 0 (by omega) _ rfl
    have hzz : ∃ z, z = B + 10 + 3 * P := ⟨_, rfl⟩
    obtain ⟨z, hz⟩ := hzz
    rw [← hz]
    have hDz : (xas B sa ++ [z]).Nodup := by simp [xas]; omega
    have hDa : (xas B sa ++ [z, z + 1, z + 2, z + 3, z + 4, z + 5, z + 6, z + 7, z + 8, z + 9]).Nodup := by simp [xas]; omega
    repeat refine EV.s rfl rfl rfl ?_
    refine EI.newO (f := (pgH B P F00 w00 w00 (f, some (z, u + 249 + P + 48 * P))).1) (z + 1) (u + 249 + P + 48 * P + 6) (xas B sa ++ [z]) (xos B P .null (pga B P) I K ++ [.inl (3, [.null, .null, .null, .null, .null, .null])]) (by simp [xas]; omega) rfl rfl rfl rfl rfl rfl ?_
    repeat refine EV.s rfl rfl rfl ?_
    obtain ⟨rv, H1, ⟨rfl, L, gm, gs, gh, rfl⟩, hr⟩ := i_sealer (bs := bs) (sa := sa) d z (z + 1) (u + 249 + P + 48 * P + 6) seed I K (wd (xas B sa ++ [z]) (xos B P .null (pga B P) I K ++ [.inl (3, [.null, .null, .null, .null, .null, .null])]) ((pgH B P F00 w00 w00 (f, some (z, u + 249 + P + 48 * P))).1, some (z + 1, u + 249 + P + 48 * P + 6))).1 (by simp; omega) (by omega) (by omega) (by omega) (by omega)
    have eu : u + 249 + P + 48 * P + 6 + 196 = u + 451 + 49 * P := by omega
    refine EI.call (wd (xas B sa ++ [z, z + 1, z + 2, z + 3, z + 4, z + 5, z + 6, z + 7, z + 8, z + 9]) (xos B P .null (pga B P) I K ++ [.inl (3, [.ref (z + 1), .ref (z + 5), .ref (z + 6), .ref (z + 7), .ref (z + 8), .ref (z + 9)]), .inl (0, [.ref (z + 2), .ref (z + 3), .ref (z + 4), .int L]), .inr (.inl (64, gm)), .inr (.inl (64, gs)), .inr (.inl (8, gh)), .inr (.inl (8, va_cpy (kdf K I seed 1) (fun _ => 0) 0 0 8)), .inr (.inl (8, va_cpy (kdf K I seed 2) (fun _ => 0) 0 0 8)), .inr (.inl (8, fun _ => 0)), .inr (.inl (16, fun _ => 0)), .inr (.inl (16, fun _ => 0))]) (pgH B P F00 w00 w00 (f, some (z + 10, u + 451 + 49 * P)))) rfl (wd_call (as1 := [z, sa 0, sa 1]) (nw := [z + 1, z + 2, z + 3, z + 4, z + 5, z + 6, z + 7, z + 8, z + 9]) (os1 := [.inl (3, [.null, .null, .null, .null, .null, .null]), .inr (.inl (8, I)), .inr (.inl (64, K))]) (os2 := [.inl (3, [.ref (z + 1), .ref (z + 5), .ref (z + 6), .ref (z + 7), .ref (z + 8), .ref (z + 9)]), .inr (.inl (8, I)), .inr (.inl (64, K))]) [12, 1, 2] hDz rfl hr rfl rfl rfl rfl (by simp [xas]; omega)) (by rw [eu]; rfl) ?_
    refine EW.put 0 hDa rfl rfl rfl hb (Nat.le_of_ble_eq_true rfl) rfl ?_
    refine EV.ret rfl ?_
    exact ⟨_, _, rfl, rfl, z, P, rfl, hz, L, gm, gs, gh, rfl⟩
  by_cases hp : 8 ≤ p ∧ p ≤ 40
  · refine EV.icF rfl (decide_eq_false (Int32.not_lt.mpr hp.1)) ?_
    repeat refine EV.s rfl rfl rfl ?_
    refine EV.icF rfl (decide_eq_false (Int32.not_lt.mpr hp.2)) ?_
    refine EV.s rfl rfl rfl ?_
    refine EV.s rfl rfl rfl ?_
    exact go _ _ (pgs_nI p hp)
  · have e16 : (16 : Int32) = nI (pgs p) := by unfold pgs; rw [if_neg hp]; rfl
    refine EV.icm rfl (fun hc => ?_) (fun hc => ?_)
    · refine EV.s rfl rfl rfl ?_
      exact go _ _ e16
    · repeat refine EV.s rfl rfl rfl ?_
      refine EV.icm rfl (fun hb => ?_) (fun hb => ?_)
      · refine EV.s rfl rfl rfl ?_
        exact go _ _ e16
      · exact absurd ⟨Int32.not_lt.mp (of_decide_eq_false hc), Int32.not_lt.mp (of_decide_eq_false hb)⟩ hp
end CIO
