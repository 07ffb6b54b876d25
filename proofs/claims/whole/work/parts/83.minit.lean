section MIN
variable {bs : Nat} {sa : Nat → Nat}
/-- the first state -/
def s00 : zS := (F00, w00, w00, (fun _ => 0), 0, (0, 0, 0, 0), (-1, 0, -1, 0))
def ow (k : Nat) : Nat → Int32 := fun j => if j < k then -1 else 0
theorem ow_s (k : Nat) : upd (ow k) k (-1) = ow (k + 1) := by
  funext j
  simp only [upd, ow]
  by_cases e : j = k
  · rw [if_pos e, if_pos (by omega)]
  · rw [if_neg e]
    by_cases c : j < k
    · rw [if_pos c, if_pos (by omega)]
    · rw [if_neg c, if_neg (by omega)]
/-- the model's world while it is made -/
def m0o (M P : Nat) (en : Int32) (O key mark A H G T I K : Nat → Int32) : List e_O := [.inl (5, [.int 0, .int (nI P), .ref (M + 1), .ref (M + 2), .ref (M + 3), .ref (M + 4), .ref (M + 5), .ref (M + 6), .ref (M + 7), .ref (M + 8), .ref (M + 9), .ref (M + 10), .ref (M + 11), .int 0, .int 0, .int 0, .int 0, .long 0, .ref (M + 12), .ref (M + 13), .ref (M + 14), .ref (M + 15), .ref (M + 16), .ref (M + 17), .ref (M + 18), .int 0, .int 0, .int (-1), .int 0, .int (-1)]), .inr (.inl (40, fun _ => 0)), .inr (.inl (40, O)), .inr (.inl (40, fun _ => 0)), .inr (.inl (40, fun _ => 0)), .inr (.inl (40, fun _ => 0)), .inr (.inl (40, fun _ => 0)), .inr (.inl (1280, fun _ => 0)), .inr (.inl (320, fun _ => 0)), .inr (.inl (64, fun _ => 0)), .inr (.inl (8, key)), .inr (.inl (8, mark)), .inr (.inl (80, A)), .inr (.inl (8, H)), .inr (.inl (64, G)), .inr (.inl (8, T)), .inr (.inl (16, fun _ => 0)), .inr (.inl (16, fun _ => 0)), .inr (.inl (8, fun _ => 0)), .inr (.inl (8, I)), .inr (.inl (64, K))]
set_option maxHeartbeats 1000000 in
set_option maxRecDepth 100000 in
theorem i_mow (d M P : Nat) (en : Int32) (key mark A H G T I K : Nat → Int32) (h : e_H) (hD : (mas M sa).Nodup) (hb : bs ≤ M) (p : Int32) (seed : Int64) (E : e_C ⊕ (Option Value × e_H) → Prop)
    (hK : ∀ ki, ev_E tbs bs sa d t_X5_init E (206, [some (.ref M), some (.int p), some (.long seed), none, some (.int ki)], [], wd (mas M sa) (m0o M P en (ow 40) key mark A H G T I K) h)) :
    ∀ (c k : Nat), k + c = 40 → ∀ Z, Z = ow k → ∀ ki, ki = nI k → ev_E tbs bs sa d t_X5_init E (189, [some (.ref M), some (.int p), some (.long seed), none, some (.int ki)], [.int 40, .int ki], wd (mas M sa) (m0o M P en Z key mark A H G T I K) h) := by
  intro c
  induction c with
  | zero =>
    intro k hk Z hZ ki hki
    have e : k = 40 := by omega
    subst e; subst hZ; subst hki
    refine EV.icT rfl (by decide) ?_
    exact hK _
  | succ c ih =>
    intro k hk Z hZ ki hki
    subst hki; subst hZ
    refine EV.icF rfl (decide_eq_false (nI_ge (b := 40) (by omega) (by decide))) ?_
    repeat (first | refine EV.s rfl rfl rfl ?_ | refine EW.get 0 hD rfl rfl rfl rfl ?_)
    refine EW.iastY 2 k (m0o M P en (upd (ow k) k (-1)) key mark A H G T I K) hD rfl rfl rfl (by omega) rfl (by omega) (by decide) rfl ?_
    repeat refine EV.s rfl rfl rfl ?_
    exact ih (k + 1) (by omega) _ (ow_s k) _ (nI_1 k)
set_option maxHeartbeats 1000000 in
set_option maxRecDepth 100000 in
theorem i_mkey (d M P : Nat) (en : Int32) (O mark A H G T I K : Nat → Int32) (h : e_H) (hD : (mas M sa).Nodup) (hb : bs ≤ M) (p : Int32) (seed : Int64) (E : e_C ⊕ (Option Value × e_H) → Prop)
    (hK : ∀ ki, ev_E tbs bs sa d t_X5_init E (267, [some (.ref M), some (.int p), some (.long seed), none, some (.int ki)], [], wd (mas M sa) (m0o M P en O (va_cpy H (fun _ => 0) 0 0 8) mark A H G T I K) h)) :
    ∀ (c k : Nat), k + c = 8 → ∀ Z, Z = va_cpy H (fun _ => 0) 0 0 k → ∀ ki, ki = nI k → ev_E tbs bs sa d t_X5_init E (244, [some (.ref M), some (.int p), some (.long seed), none, some (.int ki)], [.int 8, .int ki], wd (mas M sa) (m0o M P en O Z mark A H G T I K) h) := by
  intro c
  induction c with
  | zero =>
    intro k hk Z hZ ki hki
    have e : k = 8 := by omega
    subst e; subst hZ; subst hki
    refine EV.icT rfl (by decide) ?_
    exact hK _
  | succ c ih =>
    intro k hk Z hZ ki hki
    subst hki; subst hZ
    refine EV.icF rfl (decide_eq_false (nI_ge (b := 8) (by omega) (by decide))) ?_
    repeat (first | refine EV.s rfl rfl rfl ?_ | refine EW.get 0 hD rfl rfl rfl rfl ?_)
    refine EW.iald 13 (k) hD rfl rfl rfl (rfl) (by omega) (by decide) ?_
    refine EW.iastY 10 k (m0o M P en O (upd (va_cpy H (fun _ => 0) 0 0 k) k (H k)) mark A H G T I K) hD rfl rfl rfl (by omega) rfl (by omega) (by decide) rfl ?_
    repeat refine EV.s rfl rfl rfl ?_
    refine ih (k + 1) (by omega) _ ?_ _ (nI_1 k)
    rw [cpy_s, Nat.zero_add]
set_option maxHeartbeats 1000000 in
set_option maxRecDepth 100000 in
theorem i_mmark (d M P : Nat) (en : Int32) (O key A H G T I K : Nat → Int32) (h : e_H) (hD : (mas M sa).Nodup) (hb : bs ≤ M) (p : Int32) (seed : Int64) (E : e_C ⊕ (Option Value × e_H) → Prop)
    (hK : ∀ ki, ev_E tbs bs sa d t_X5_init E (309, [some (.ref M), some (.int p), some (.long seed), none, some (.int ki)], [], wd (mas M sa) (m0o M P en O key (va_cpy H (fun _ => 0) 0 0 8) A H G T I K) h)) :
    ∀ (c k : Nat), k + c = 8 → ∀ Z, Z = va_cpy H (fun _ => 0) 0 0 k → ∀ ki, ki = nI k → ev_E tbs bs sa d t_X5_init E (286, [some (.ref M), some (.int p), some (.long seed), none, some (.int ki)], [.int 8, .int ki], wd (mas M sa) (m0o M P en O key Z A H G T I K) h) := by
  intro c
  induction c with
  | zero =>
    intro k hk Z hZ ki hki
    have e : k = 8 := by omega
    subst e; subst hZ; subst hki
    refine EV.icT rfl (by decide) ?_
    exact hK _
  | succ c ih =>
    intro k hk Z hZ ki hki
    subst hki; subst hZ
    refine EV.icF rfl (decide_eq_false (nI_ge (b := 8) (by omega) (by decide))) ?_
    repeat (first | refine EV.s rfl rfl rfl ?_ | refine EW.get 0 hD rfl rfl rfl rfl ?_)
    refine EW.iald 13 (k) hD rfl rfl rfl (rfl) (by omega) (by decide) ?_
    refine EW.iastY 11 k (m0o M P en O key (upd (va_cpy H (fun _ => 0) 0 0 k) k (H k)) A H G T I K) hD rfl rfl rfl (by omega) rfl (by omega) (by decide) rfl ?_
    repeat refine EV.s rfl rfl rfl ?_
    refine ih (k + 1) (by omega) _ ?_ _ (nI_1 k)
    rw [cpy_s, Nat.zero_add]
set_option maxHeartbeats 4000000 in
set_option maxRecDepth 100000 in
theorem i_model (d M u : Nat) (p : Int32) (seed : Int64) (I K : Nat → Int32) (f : Nat → Option e_O) (hD : (mas M sa).Nodup) (hf3 : f (sa 3) = some (.inr (.inl (8, I)))) (hf4 : f (sa 4) = some (.inr (.inl (64, K)))) (hb : bs ≤ M) :
    ∃ rv H', (rv = none ∧ ∃ o, mS M (pgs p) (va_cpy (kdf K I seed 1) (fun _ => 0) 0 0 8) (va_cpy (kdf K I seed 2) (fun _ => 0) 0 0 8) I K s00 o ∧ H' = wd (mas M sa) o (f, some (M + 19, u + 2120))) ∧ ev_run tbs bs sa (d + 4) 69 [.ref M, .int p, .long seed] (wd [M] [.inl (5, [.int 0, .int 0, .null, .null, .null, .null, .null, .null, .null, .null, .null, .null, .null, .int 0, .int 0, .int 0, .int 0, .long 0, .null, .null, .null, .null, .null, .null, .null, .int 0, .int 0, .int 0, .int 0, .int 0])] (f, some (M + 1, u))) rv H' := by
  have hP := pgs_le p
  refine RUN.mkE (T := t_X5_init) rfl (Nat.le_of_ble_eq_true rfl) ?_
  repeat refine EV.s rfl rfl rfl ?_
  refine EV.st rfl ?_
  repeat refine EV.s rfl rfl rfl ?_
  have hD1 : [M, M + 1].Nodup := by simp
  refine EI.newA 40 (M + 2) (u + 40) [M, M + 1] _ (by simp) rfl rfl rfl (by decide) rfl rfl rfl rfl ?_
  refine EW.put 0 hD1 rfl rfl rfl hb (Nat.le_of_ble_eq_true rfl) rfl ?_
  try simp only [setm, List.set_cons_succ, List.set_cons_zero, Option.toList, List.nil_append, List.cons_append]
  repeat refine EV.s rfl rfl rfl ?_
  have hD2 : [M, M + 1, M + 2].Nodup := by simp
  refine EI.newA 40 (M + 3) (u + 80) [M, M + 1, M + 2] _ (by simp) rfl rfl rfl (by decide) rfl rfl rfl rfl ?_
  refine EW.put 0 hD2 rfl rfl rfl hb (Nat.le_of_ble_eq_true rfl) rfl ?_
  try simp only [setm, List.set_cons_succ, List.set_cons_zero, Option.toList, List.nil_append, List.cons_append]
  repeat refine EV.s rfl rfl rfl ?_
  have hD3 : [M, M + 1, M + 2, M + 3].Nodup := by simp
  refine EI.newA 40 (M + 4) (u + 120) [M, M + 1, M + 2, M + 3] _ (by simp) rfl rfl rfl (by decide) rfl rfl rfl rfl ?_
  refine EW.put 0 hD3 rfl rfl rfl hb (Nat.le_of_ble_eq_true rfl) rfl ?_
  try simp only [setm, List.set_cons_succ, List.set_cons_zero, Option.toList, List.nil_append, List.cons_append]
  repeat refine EV.s rfl rfl rfl ?_
  have hD4 : [M, M + 1, M + 2, M + 3, M + 4].Nodup := by simp
  refine EI.newA 40 (M + 5) (u + 160) [M, M + 1, M + 2, M + 3, M + 4] _ (by simp) rfl rfl rfl (by decide) rfl rfl rfl rfl ?_
  refine EW.put 0 hD4 rfl rfl rfl hb (Nat.le_of_ble_eq_true rfl) rfl ?_
  try simp only [setm, List.set_cons_succ, List.set_cons_zero, Option.toList, List.nil_append, List.cons_append]
  repeat refine EV.s rfl rfl rfl ?_
  have hD5 : [M, M + 1, M + 2, M + 3, M + 4, M + 5].Nodup := by simp
  refine EI.newA 40 (M + 6) (u + 200) [M, M + 1, M + 2, M + 3, M + 4, M + 5] _ (by simp) rfl rfl rfl (by decide) rfl rfl rfl rfl ?_
  refine EW.put 0 hD5 rfl rfl rfl hb (Nat.le_of_ble_eq_true rfl) rfl ?_
  try simp only [setm, List.set_cons_succ, List.set_cons_zero, Option.toList, List.nil_append, List.cons_append]
  repeat refine EV.s rfl rfl rfl ?_
  have hD6 : [M, M + 1, M + 2, M + 3, M + 4, M + 5, M + 6].Nodup := by simp
  refine EI.newA 40 (M + 7) (u + 240) [M, M + 1, M + 2, M + 3, M + 4, M + 5, M + 6] _ (by simp) rfl rfl rfl (by decide) rfl rfl rfl rfl ?_
  refine EW.put 0 hD6 rfl rfl rfl hb (Nat.le_of_ble_eq_true rfl) rfl ?_
  try simp only [setm, List.set_cons_succ, List.set_cons_zero, Option.toList, List.nil_append, List.cons_append]
  repeat refine EV.s rfl rfl rfl ?_
  have hD7 : [M, M + 1, M + 2, M + 3, M + 4, M + 5, M + 6, M + 7].Nodup := by simp
  refine EI.newA 1280 (M + 8) (u + 1520) [M, M + 1, M + 2, M + 3, M + 4, M + 5, M + 6, M + 7] _ (by simp) rfl rfl rfl (by decide) rfl rfl rfl rfl ?_
  refine EW.put 0 hD7 rfl rfl rfl hb (Nat.le_of_ble_eq_true rfl) rfl ?_
  try simp only [setm, List.set_cons_succ, List.set_cons_zero, Option.toList, List.nil_append, List.cons_append]
  repeat refine EV.s rfl rfl rfl ?_
  have hD8 : [M, M + 1, M + 2, M + 3, M + 4, M + 5, M + 6, M + 7, M + 8].Nodup := by simp
  refine EI.newA 320 (M + 9) (u + 1840) [M, M + 1, M + 2, M + 3, M + 4, M + 5, M + 6, M + 7, M + 8] _ (by simp) rfl rfl rfl (by decide) rfl rfl rfl rfl ?_
  refine EW.put 0 hD8 rfl rfl rfl hb (Nat.le_of_ble_eq_true rfl) rfl ?_
  try simp only [setm, List.set_cons_succ, List.set_cons_zero, Option.toList, List.nil_append, List.cons_append]
  repeat refine EV.s rfl rfl rfl ?_
  have hD9 : [M, M + 1, M + 2, M + 3, M + 4, M + 5, M + 6, M + 7, M + 8, M + 9].Nodup := by simp
  refine EI.newA 64 (M + 10) (u + 1904) [M, M + 1, M + 2, M + 3, M + 4, M + 5, M + 6, M + 7, M + 8, M + 9] _ (by simp) rfl rfl rfl (by decide) rfl rfl rfl rfl ?_
  refine EW.put 0 hD9 rfl rfl rfl hb (Nat.le_of_ble_eq_true rfl) rfl ?_
  try simp only [setm, List.set_cons_succ, List.set_cons_zero, Option.toList, List.nil_append, List.cons_append]
  repeat refine EV.s rfl rfl rfl ?_
  have hD10 : [M, M + 1, M + 2, M + 3, M + 4, M + 5, M + 6, M + 7, M + 8, M + 9, M + 10].Nodup := by simp
  refine EI.newA 8 (M + 11) (u + 1912) [M, M + 1, M + 2, M + 3, M + 4, M + 5, M + 6, M + 7, M + 8, M + 9, M + 10] _ (by simp) rfl rfl rfl (by decide) rfl rfl rfl rfl ?_
  refine EW.put 0 hD10 rfl rfl rfl hb (Nat.le_of_ble_eq_true rfl) rfl ?_
  try simp only [setm, List.set_cons_succ, List.set_cons_zero, Option.toList, List.nil_append, List.cons_append]
  repeat refine EV.s rfl rfl rfl ?_
  have hD11 : [M, M + 1, M + 2, M + 3, M + 4, M + 5, M + 6, M + 7, M + 8, M + 9, M + 10, M + 11].Nodup := by simp
  refine EI.newA 8 (M + 12) (u + 1920) [M, M + 1, M + 2, M + 3, M + 4, M + 5, M + 6, M + 7, M + 8, M + 9, M + 10, M + 11] _ (by simp) rfl rfl rfl (by decide) rfl rfl rfl rfl ?_
  refine EW.put 0 hD11 rfl rfl rfl hb (Nat.le_of_ble_eq_true rfl) rfl ?_
  try simp only [setm, List.set_cons_succ, List.set_cons_zero, Option.toList, List.nil_append, List.cons_append]
  repeat refine EV.s rfl rfl rfl ?_
  have hD12 : [M, M + 1, M + 2, M + 3, M + 4, M + 5, M + 6, M + 7, M + 8, M + 9, M + 10, M + 11, M + 12].Nodup := by simp
  refine EI.newA 80 (M + 13) (u + 2000) [M, M + 1, M + 2, M + 3, M + 4, M + 5, M + 6, M + 7, M + 8, M + 9, M + 10, M + 11, M + 12] _ (by simp) rfl rfl rfl (by decide) rfl rfl rfl rfl ?_
  refine EW.put 0 hD12 rfl rfl rfl hb (Nat.le_of_ble_eq_true rfl) rfl ?_
  try simp only [setm, List.set_cons_succ, List.set_cons_zero, Option.toList, List.nil_append, List.cons_append]
  repeat refine EV.s rfl rfl rfl ?_
  have hD13 : [M, M + 1, M + 2, M + 3, M + 4, M + 5, M + 6, M + 7, M + 8, M + 9, M + 10, M + 11, M + 12, M + 13].Nodup := by simp
  refine EI.newA 8 (M + 14) (u + 2008) [M, M + 1, M + 2, M + 3, M + 4, M + 5, M + 6, M + 7, M + 8, M + 9, M + 10, M + 11, M + 12, M + 13] _ (by simp) rfl rfl rfl (by decide) rfl rfl rfl rfl ?_
  refine EW.put 0 hD13 rfl rfl rfl hb (Nat.le_of_ble_eq_true rfl) rfl ?_
  try simp only [setm, List.set_cons_succ, List.set_cons_zero, Option.toList, List.nil_append, List.cons_append]
  repeat refine EV.s rfl rfl rfl ?_
  have hD14 : [M, M + 1, M + 2, M + 3, M + 4, M + 5, M + 6, M + 7, M + 8, M + 9, M + 10, M + 11, M + 12, M + 13, M + 14].Nodup := by simp
  refine EI.newA 64 (M + 15) (u + 2072) [M, M + 1, M + 2, M + 3, M + 4, M + 5, M + 6, M + 7, M + 8, M + 9, M + 10, M + 11, M + 12, M + 13, M + 14] _ (by simp) rfl rfl rfl (by decide) rfl rfl rfl rfl ?_
  refine EW.put 0 hD14 rfl rfl rfl hb (Nat.le_of_ble_eq_true rfl) rfl ?_
  try simp only [setm, List.set_cons_succ, List.set_cons_zero, Option.toList, List.nil_append, List.cons_append]
  repeat refine EV.s rfl rfl rfl ?_
  have hD15 : [M, M + 1, M + 2, M + 3, M + 4, M + 5, M + 6, M + 7, M + 8, M + 9, M + 10, M + 11, M + 12, M + 13, M + 14, M + 15].Nodup := by simp
  refine EI.newA 8 (M + 16) (u + 2080) [M, M + 1, M + 2, M + 3, M + 4, M + 5, M + 6, M + 7, M + 8, M + 9, M + 10, M + 11, M + 12, M + 13, M + 14, M + 15] _ (by simp) rfl rfl rfl (by decide) rfl rfl rfl rfl ?_
  refine EW.put 0 hD15 rfl rfl rfl hb (Nat.le_of_ble_eq_true rfl) rfl ?_
  try simp only [setm, List.set_cons_succ, List.set_cons_zero, Option.toList, List.nil_append, List.cons_append]
  repeat refine EV.s rfl rfl rfl ?_
  have hD16 : [M, M + 1, M + 2, M + 3, M + 4, M + 5, M + 6, M + 7, M + 8, M + 9, M + 10, M + 11, M + 12, M + 13, M + 14, M + 15, M + 16].Nodup := by simp
  refine EI.newA 16 (M + 17) (u + 2096) [M, M + 1, M + 2, M + 3, M + 4, M + 5, M + 6, M + 7, M + 8, M + 9, M + 10, M + 11, M + 12, M + 13, M + 14, M + 15, M + 16] _ (by simp) rfl rfl rfl (by decide) rfl rfl rfl rfl ?_
  refine EW.put 0 hD16 rfl rfl rfl hb (Nat.le_of_ble_eq_true rfl) rfl ?_
  try simp only [setm, List.set_cons_succ, List.set_cons_zero, Option.toList, List.nil_append, List.cons_append]
  repeat refine EV.s rfl rfl rfl ?_
  have hD17 : [M, M + 1, M + 2, M + 3, M + 4, M + 5, M + 6, M + 7, M + 8, M + 9, M + 10, M + 11, M + 12, M + 13, M + 14, M + 15, M + 16, M + 17].Nodup := by simp
  refine EI.newA 16 (M + 18) (u + 2112) [M, M + 1, M + 2, M + 3, M + 4, M + 5, M + 6, M + 7, M + 8, M + 9, M + 10, M + 11, M + 12, M + 13, M + 14, M + 15, M + 16, M + 17] _ (by simp) rfl rfl rfl (by decide) rfl rfl rfl rfl ?_
  refine EW.put 0 hD17 rfl rfl rfl hb (Nat.le_of_ble_eq_true rfl) rfl ?_
  try simp only [setm, List.set_cons_succ, List.set_cons_zero, Option.toList, List.nil_append, List.cons_append]
  repeat refine EV.s rfl rfl rfl ?_
  have hD18 : [M, M + 1, M + 2, M + 3, M + 4, M + 5, M + 6, M + 7, M + 8, M + 9, M + 10, M + 11, M + 12, M + 13, M + 14, M + 15, M + 16, M + 17, M + 18].Nodup := by simp
  refine EI.newA 8 (M + 19) (u + 2120) [M, M + 1, M + 2, M + 3, M + 4, M + 5, M + 6, M + 7, M + 8, M + 9, M + 10, M + 11, M + 12, M + 13, M + 14, M + 15, M + 16, M + 17, M + 18] _ (by simp) rfl rfl rfl (by decide) rfl rfl rfl rfl ?_
  refine EW.put 0 hD18 rfl rfl rfl hb (Nat.le_of_ble_eq_true rfl) rfl ?_
  try simp only [setm, List.set_cons_succ, List.set_cons_zero, Option.toList, List.nil_append, List.cons_append]
  repeat refine EV.s rfl rfl rfl ?_
  refine EW.put 0 hD18 rfl rfl rfl hb (Nat.le_of_ble_eq_true rfl) rfl ?_
  try simp only [setm, List.set_cons_succ, List.set_cons_zero, Option.toList, List.nil_append, List.cons_append]
  repeat refine EV.s rfl rfl rfl ?_
  refine EW.put 0 hD18 rfl rfl rfl hb (Nat.le_of_ble_eq_true rfl) rfl ?_
  try simp only [setm, List.set_cons_succ, List.set_cons_zero, Option.toList, List.nil_append, List.cons_append]
  repeat refine EV.s rfl rfl rfl ?_
  have opn : ∀ os : List e_O, os.length = 19 → wd [M, M + 1, M + 2, M + 3, M + 4, M + 5, M + 6, M + 7, M + 8, M + 9, M + 10, M + 11, M + 12, M + 13, M + 14, M + 15, M + 16, M + 17, M + 18] os (f, some (M + 19, u + 2120)) = wd (mas M sa) (os ++ [.inr (.inl (8, I)), .inr (.inl (64, K))]) (f, some (M + 19, u + 2120)) := by
    intro os hl
    have e : mas M sa = [M, M + 1, M + 2, M + 3, M + 4, M + 5, M + 6, M + 7, M + 8, M + 9, M + 10, M + 11, M + 12, M + 13, M + 14, M + 15, M + 16, M + 17, M + 18] ++ [sa 3, sa 4] := rfl
    rw [e, wd_app (by rw [hl]; rfl), wd_cons, wd_cons, wd_nil, up_same (h := (f, some (M + 19, u + 2120))) hf4, up_same (h := (f, some (M + 19, u + 2120))) hf3]
  have go : ∀ (x : Int32), x = nI (pgs p) → ev_E tbs bs sa (d + 3) t_X5_init (fun y => ∃ v h', y = .inr (v, h') ∧ v = none ∧ ∃ o, mS M (pgs p) (va_cpy (kdf K I seed 1) (fun _ => 0) 0 0 8) (va_cpy (kdf K I seed 2) (fun _ => 0) 0 0 8) I K s00 o ∧ h' = wd (mas M sa) o (f, some (M + 19, u + 2120))) (179, [some (.ref M), some (.int p), some (.long seed), none, none], [.int x, .ref M], wd [M, M + 1, M + 2, M + 3, M + 4, M + 5, M + 6, M + 7, M + 8, M + 9, M + 10, M + 11, M + 12, M + 13, M + 14, M + 15, M + 16, M + 17, M + 18] ((m0o M 0 (-1) (fun _ => 0) (fun _ => 0) (fun _ => 0) (fun _ => 0) (fun _ => 0) (fun _ => 0) (fun _ => 0) I K).take 19) (f, some (M + 19, u + 2120))) := by
    intro x hx
    subst hx
    generalize pgs p = P at hP
    refine EW.put 0 hD18 rfl rfl rfl hb (Nat.le_of_ble_eq_true rfl) rfl ?_
    refine EV.cls (H' := wd (mas M sa) (m0o M P (-1) (ow 0) (fun _ => 0) (fun _ => 0) (fun _ => 0) (fun _ => 0) (fun _ => 0) (fun _ => 0) I K) (f, some (M + 19, u + 2120))) ?_ ?_
    · have ow0 : ow 0 = fun _ => 0 := rfl
      rw [ow0, opn _ rfl]; rfl
    repeat refine EV.s rfl rfl rfl ?_
    refine i_mow (d + 3) M P (-1) (fun _ => 0) (fun _ => 0) (fun _ => 0) (fun _ => 0) (fun _ => 0) (fun _ => 0) I K _ hD hb p seed _ (fun ki => ?_) 40 0 (by omega) _ rfl _ rfl
    repeat (first | refine EV.s rfl rfl rfl ?_ | refine EW.get 0 hD rfl rfl rfl rfl ?_)
    refine EW.iastY 12 0 (m0o M P (-1) (ow 40) (fun _ => 0) (fun _ => 0) (upd (fun _ => 0) 0 (ua64 seed)) (fun _ => 0) (fun _ => 0) (fun _ => 0) I K) hD rfl rfl rfl (by omega) rfl (by decide) (by decide) rfl ?_
    repeat (first | refine EV.s rfl rfl rfl ?_ | refine EW.get 0 hD rfl rfl rfl rfl ?_)
    refine EW.iastY 12 1 (m0o M P (-1) (ow 40) (fun _ => 0) (fun _ => 0) (upd (upd (fun _ => 0) 0 (ua64 seed)) 1 seed.toInt32) (fun _ => 0) (fun _ => 0) (fun _ => 0) I K) hD rfl rfl rfl (by omega) rfl (by decide) (by decide) rfl ?_
    repeat (first | refine EV.s rfl rfl rfl ?_ | refine EW.get 0 hD rfl rfl rfl rfl ?_)
    refine EW.iastY 12 2 (m0o M P (-1) (ow 40) (fun _ => 0) (fun _ => 0) (upd (upd (upd (fun _ => 0) 0 (ua64 seed)) 1 seed.toInt32) 2 1) (fun _ => 0) (fun _ => 0) (fun _ => 0) I K) hD rfl rfl rfl (by omega) rfl (by decide) (by decide) rfl ?_
    repeat refine EV.s rfl rfl rfl ?_
    refine EW.cvE 0 [0, 12, 13, 14, 15, 19, 20] hD (r_digest d M 3 (by decide) _ rfl rfl rfl rfl (upd (upd (upd (fun _ => 0) 0 (ua64 seed)) 1 seed.toInt32) 2 1) (fun _ => 0) (fun _ => 0) (fun _ => 0) I K (nd_sub hD [0, 12, 13, 14, 15, 19, 20] (by decide) rfl) hb) rfl rfl rfl rfl rfl (Nat.le_of_ble_eq_true rfl) (Nat.le_of_ble_eq_true rfl) rfl rfl rfl ?_
    rintro rv os2 ⟨rfl, H1, G1, T1, rfl, hH1⟩
    refine EV.cls (H' := wd (mas M sa) (m0o M P (-1) (ow 40) (fun _ => 0) (fun _ => 0) (pmd (upd (upd (upd (fun _ => 0) 0 (ua64 seed)) 1 seed.toInt32) 2 1) 3) H1 G1 T1 I K) (f, some (M + 19, u + 2120))) rfl ?_
    repeat refine EV.s rfl rfl rfl ?_
    refine i_mkey (d + 3) M P (-1) (ow 40) (fun _ => 0) _ H1 G1 T1 I K _ hD hb p seed _ (fun ki => ?_) 8 0 (by omega) _ (cpy_0 _ _ _).symm _ rfl
    have hkey : va_cpy H1 (fun _ => 0) 0 0 8 = va_cpy (kdf K I seed 1) (fun _ => 0) 0 0 8 := by
      refine cpy_ext (fun j hj => ?_)
      rw [hH1 j hj]
      refine sha_congr (fun _ _ => rfl) (fun _ _ => rfl) (fun i hi => ?_) hj
      have : i = 0 ∨ i = 1 ∨ i = 2 := by omega
      rcases this with rfl | rfl | rfl
      · exact ua_up seed
      · rfl
      · rfl
    rw [hkey]
    repeat (first | refine EV.s rfl rfl rfl ?_ | refine EW.get 0 hD rfl rfl rfl rfl ?_)
    refine EW.iastY 12 2 (m0o M P (-1) (ow 40) (va_cpy (kdf K I seed 1) (fun _ => 0) 0 0 8) (fun _ => 0) (upd (pmd (upd (upd (upd (fun _ => 0) 0 (ua64 seed)) 1 seed.toInt32) 2 1) 3) 2 2) H1 G1 T1 I K) hD rfl rfl rfl (by omega) rfl (by decide) (by decide) rfl ?_
    repeat refine EV.s rfl rfl rfl ?_
    refine EW.cvE 0 [0, 12, 13, 14, 15, 19, 20] hD (r_digest d M 3 (by decide) _ rfl rfl rfl rfl (upd (pmd (upd (upd (upd (fun _ => 0) 0 (ua64 seed)) 1 seed.toInt32) 2 1) 3) 2 2) H1 G1 T1 I K (nd_sub hD [0, 12, 13, 14, 15, 19, 20] (by decide) rfl) hb) rfl rfl rfl rfl rfl (Nat.le_of_ble_eq_true rfl) (Nat.le_of_ble_eq_true rfl) rfl rfl rfl ?_
    rintro rv os2 ⟨rfl, H2, G2, T2, rfl, hH2⟩
    refine EV.cls (H' := wd (mas M sa) (m0o M P (-1) (ow 40) (va_cpy (kdf K I seed 1) (fun _ => 0) 0 0 8) (fun _ => 0) (pmd (upd (pmd (upd (upd (upd (fun _ => 0) 0 (ua64 seed)) 1 seed.toInt32) 2 1) 3) 2 2) 3) H2 G2 T2 I K) (f, some (M + 19, u + 2120))) rfl ?_
    repeat refine EV.s rfl rfl rfl ?_
    refine i_mmark (d + 3) M P (-1) (ow 40) _ _ H2 G2 T2 I K _ hD hb p seed _ (fun ki => ?_) 8 0 (by omega) _ (cpy_0 _ _ _).symm _ rfl
    have hmark : va_cpy H2 (fun _ => 0) 0 0 8 = va_cpy (kdf K I seed 2) (fun _ => 0) 0 0 8 := by
      refine cpy_ext (fun j hj => ?_)
      rw [hH2 j hj]
      refine sha_congr (fun _ _ => rfl) (fun _ _ => rfl) (fun i hi => ?_) hj
      have : i = 0 ∨ i = 1 ∨ i = 2 := by omega
      rcases this with rfl | rfl | rfl
      · show pmd _ 3 0 = _
        rw [pmd_lo (by decide)]; exact ua_up seed
      · show pmd _ 3 1 = _
        rw [pmd_lo (by decide)]; rfl
      · rfl
    rw [hmark]
    refine EV.ret rfl ?_
    exact ⟨_, _, rfl, rfl, m0o M P (-1) (ow 40) (va_cpy (kdf K I seed 1) (fun _ => 0) 0 0 8) (va_cpy (kdf K I seed 2) (fun _ => 0) 0 0 8) (pmd (upd (pmd (upd (upd (upd (fun _ => 0) 0 (ua64 seed)) 1 seed.toInt32) 2 1) 3) 2 2) 3) H2 G2 T2 I K, ⟨0, 0, (pmd (upd (pmd (upd (upd (upd (fun _ => 0) 0 (ua64 seed)) 1 seed.toInt32) 2 1) 3) 2 2) 3), H2, G2, T2, fun _ => 0, fun _ => 0, fun _ => 0, rfl⟩, rfl⟩
  by_cases hp : 8 ≤ p ∧ p ≤ 40
  · refine EV.icF rfl (decide_eq_false (Int32.not_lt.mpr hp.1)) ?_
    repeat refine EV.s rfl rfl rfl ?_
    refine EV.icT rfl (decide_eq_true hp.2) ?_
    refine EV.s rfl rfl rfl ?_
    exact go _ (pgs_nI p hp)
  · have e16 : (16 : Int32) = nI (pgs p) := by unfold pgs; rw [if_neg hp]; rfl
    refine EV.icm rfl (fun hc => ?_) (fun hc => ?_)
    · refine EV.s rfl rfl rfl ?_
      refine EV.s rfl rfl rfl ?_
      exact go _ e16
    · repeat refine EV.s rfl rfl rfl ?_
      refine EV.icm rfl (fun hb => ?_) (fun hb => ?_)
      · exact absurd ⟨Int32.not_lt.mp (of_decide_eq_false hc), of_decide_eq_true hb⟩ hp
      · refine EV.s rfl rfl rfl ?_
        refine EV.s rfl rfl rfl ?_
        exact go _ e16
end MIN
