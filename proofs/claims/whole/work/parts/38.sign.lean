def hmi (K I mark f : Nat → Int32) (n : Nat) : Nat → Int32 := sha K I (fun j => if j < 16 then hk mark 909522486 j else f (j - 16)) (16 + n)
def hmo (K I mark f : Nat → Int32) (n : Nat) : Nat → Int32 := sha K I (fun j => if j < 16 then hk mark 1549556828 j else hmi K I mark f n (j - 16)) 24
theorem mbk_cpy (mark W F : Nat → Int32) (pad : Int32) {n j : Nat} (h : j < 16 + n) : va_cpy W (mbk mark pad F 16) 0 16 n j = if j < 16 then hk mark pad j else W (j - 16) := by
  simp only [va_cpy, mbk]
  by_cases q : j < 16
  · rw [if_neg (by omega), if_pos q, if_pos q]
  · rw [if_pos (by omega), if_neg q, Nat.zero_add]
theorem hmo_eq {K I mark W F X Y : Nat → Int32} {n j : Nat} (hj : j < 8) : sha K I (va_cpy (va_cpy (sha K I (va_cpy W (mbk mark 909522486 F 16) 0 16 n) (16 + n)) X 0 0 8) (mbk mark 1549556828 Y 16) 0 16 8) (16 + 8) j = hmo K I mark W n j := by
  refine sha_congr (fun _ _ => rfl) (fun _ _ => rfl) (fun i hi => ?_) hj
  rw [mbk_cpy mark _ Y _ (n := 8) hi]
  by_cases q : i < 16
  · rw [if_pos q, if_pos q]
  · rw [if_neg q, if_neg q, cpy_lo (by omega), Nat.zero_add]
    exact sha_congr (fun _ _ => rfl) (fun _ _ => rfl) (fun i hi => mbk_cpy mark W F _ hi) (by omega)
theorem cpy_ext {f f' g : Nat → Int32} {at_ n : Nat} (h : ∀ j, j < n → f j = f' j) : va_cpy f g 0 at_ n = va_cpy f' g 0 at_ n := by
  funext j
  simp only [va_cpy]
  by_cases q : at_ ≤ j ∧ j < at_ + n
  · rw [if_pos q, if_pos q]; exact h _ (by omega)
  · rw [if_neg q, if_neg q]
section SGN
variable {bs : Nat} {sa : Nat → Nat}
set_option maxHeartbeats 2000000 in
theorem r_signA (d : Nat) (z mk inn hh ms sc st src tg n M N at_ : Nat) (v1 v4 v5 : Value) (L : Int32) (mark X F G H I K W D : Nat → Int32) (hD : [z, mk, inn, hh, ms, sc, st, sa 0, sa 1, src, tg].Nodup) (hbi : bs ≤ inn) (hbh : bs ≤ hh) (hbm : bs ≤ ms) (hbsc : bs ≤ sc) (hbst : bs ≤ st) (hbt : bs ≤ tg) (hn : n ≤ 45) (hM : n ≤ M) (hM2 : M < 2 ^ 31) (hN : at_ + 8 ≤ N) (hN2 : N < 2 ^ 31) :
    CT bs sa (d + 4) 28 [.ref z, .ref src, .int (nI n), .ref tg, .int (nI at_)] [z, mk, inn, hh, ms, sc, st, sa 0, sa 1, src, tg] [.inl (3, [.ref hh, v1, .ref mk, .ref inn, v4, v5]), .inr (.inl (8, mark)), .inr (.inl (8, X)), .inl (0, [.ref ms, .ref sc, .ref st, .int L]), .inr (.inl (64, F)), .inr (.inl (64, G)), .inr (.inl (8, H)), .inr (.inl (8, I)), .inr (.inl (64, K)), .inr (.inl (M, W)), .inr (.inl (N, D))]
      (fun rv o => rv = none ∧ ∃ X' F' G' H' L' T', o = [.inl (3, [.ref hh, v1, .ref mk, .ref inn, v4, v5]), .inr (.inl (8, mark)), .inr (.inl (8, X')), .inl (0, [.ref ms, .ref sc, .ref st, .int L']), .inr (.inl (64, F')), .inr (.inl (64, G')), .inr (.inl (8, H')), .inr (.inl (8, I)), .inr (.inl (64, K)), .inr (.inl (M, W)), .inr (.inl (N, T'))] ∧ T' = va_cpy (hmo K I mark W n) D 0 at_ 8) := by
  refine CT.mk (T := t_X3_sign) rfl (Nat.le_of_ble_eq_true rfl) (fun h => ?_)
  repeat refine EV.s rfl rfl rfl ?_
  refine EW.cv 0 [0, 1, 3, 4] hD rfl (fun h0 => r_beginWithMark (d + 1) z mk hh ms sc st 909522486 v1 (.ref inn) v4 v5 L mark F h0 (nd_sub hD [0, 1, 3, 4] (by decide) rfl) hbh hbm) rfl rfl rfl rfl (Nat.le_of_ble_eq_true rfl) (Nat.le_of_ble_eq_true rfl) rfl rfl rfl rfl ?_
  try simp only [setm, List.set_cons_succ, List.set_cons_zero, Option.toList, List.nil_append, List.cons_append]
  repeat (first | refine EV.s rfl rfl rfl ?_ | refine EW.get 0 hD rfl rfl rfl rfl ?_)
  refine EW.cv 3 [3, 4, 9] hD rfl (fun h0 => r_addAll (d + 1) hh ms sc st src 16 n M (mbk mark 909522486 F 16) W h0 (nd_sub hD [3, 4, 9] (by decide) rfl) hbh hbm (by omega) hM hM2) rfl rfl rfl rfl (Nat.le_of_ble_eq_true rfl) (Nat.le_of_ble_eq_true rfl) rfl rfl rfl rfl ?_
  try simp only [setm, List.set_cons_succ, List.set_cons_zero, Option.toList, List.nil_append, List.cons_append]
  repeat (first | refine EV.s rfl rfl rfl ?_ | refine EW.get 0 hD rfl rfl rfl rfl ?_)
  refine EW.cvE 3 [3, 4, 5, 6, 7, 8, 2] hD (r_finish d hh ms sc st inn (16 + n) 8 0 (va_cpy W (mbk mark 909522486 F 16) 0 16 n) G H I K X (nd_sub hD [3, 4, 5, 6, 7, 8, 2] (by decide) rfl) hbh hbm hbsc hbst hbi (by omega) (by decide) (by decide)) rfl rfl rfl rfl rfl (Nat.le_of_ble_eq_true rfl) (Nat.le_of_ble_eq_true rfl) rfl rfl rfl ?_
  rintro rv os2 ⟨rfl, G1, H1, rfl⟩
  try simp only [setm, List.set_cons_succ, List.set_cons_zero, Option.toList, List.nil_append, List.cons_append]
  repeat refine EV.s rfl rfl rfl ?_
  refine EW.cv 0 [0, 1, 3, 4] hD rfl (fun h0 => r_beginWithMark (d + 1) z mk hh ms sc st 1549556828 v1 (.ref inn) v4 v5 (nI (16 + n)) mark _ h0 (nd_sub hD [0, 1, 3, 4] (by decide) rfl) hbh hbm) rfl rfl rfl rfl (Nat.le_of_ble_eq_true rfl) (Nat.le_of_ble_eq_true rfl) rfl rfl rfl rfl ?_
  try simp only [setm, List.set_cons_succ, List.set_cons_zero, Option.toList, List.nil_append, List.cons_append]
  repeat (first | refine EV.s rfl rfl rfl ?_ | refine EW.get 0 hD rfl rfl rfl rfl ?_)
  refine EW.cv 3 [3, 4, 2] hD rfl (fun h0 => r_addAll (d + 1) hh ms sc st inn 16 8 8 _ _ h0 (nd_sub hD [3, 4, 2] (by decide) rfl) hbh hbm (by decide) (by decide) (by decide)) rfl rfl rfl rfl (Nat.le_of_ble_eq_true rfl) (Nat.le_of_ble_eq_true rfl) rfl rfl rfl rfl ?_
  try simp only [setm, List.set_cons_succ, List.set_cons_zero, Option.toList, List.nil_append, List.cons_append]
  repeat (first | refine EV.s rfl rfl rfl ?_ | refine EW.get 0 hD rfl rfl rfl rfl ?_)
  refine EW.cvE 3 [3, 4, 5, 6, 7, 8, 10] hD (r_finish d hh ms sc st tg (16 + 8) N at_ _ G1 H1 I K D (nd_sub hD [3, 4, 5, 6, 7, 8, 10] (by decide) rfl) hbh hbm hbsc hbst hbt (by decide) hN hN2) rfl rfl rfl rfl rfl (Nat.le_of_ble_eq_true rfl) (Nat.le_of_ble_eq_true rfl) rfl rfl rfl ?_
  rintro rv os2 ⟨rfl, G2, H2, rfl⟩
  try simp only [setm, List.set_cons_succ, List.set_cons_zero, Option.toList, List.nil_append, List.cons_append]
  exact EV.ret rfl ⟨_, _, rfl, _, ⟨⟨rfl, _, _, _, _, _, _, rfl, cpy_ext (fun j hj => hmo_eq hj)⟩, rfl⟩, rfl⟩
set_option maxHeartbeats 2000000 in
theorem r_signB (d : Nat) (z mk inn hh ms sc st src n N at_ : Nat) (v1 v4 v5 : Value) (L : Int32) (mark X F G H I K W : Nat → Int32) (hD : [z, mk, inn, hh, ms, sc, st, sa 0, sa 1, src].Nodup) (hbi : bs ≤ inn) (hbh : bs ≤ hh) (hbm : bs ≤ ms) (hbsc : bs ≤ sc) (hbst : bs ≤ st) (hbt : bs ≤ src) (hn : n ≤ 45) (hM : n ≤ N) (hN : at_ + 8 ≤ N) (hN2 : N < 2 ^ 31) :
    CT bs sa (d + 4) 28 [.ref z, .ref src, .int (nI n), .ref src, .int (nI at_)] [z, mk, inn, hh, ms, sc, st, sa 0, sa 1, src] [.inl (3, [.ref hh, v1, .ref mk, .ref inn, v4, v5]), .inr (.inl (8, mark)), .inr (.inl (8, X)), .inl (0, [.ref ms, .ref sc, .ref st, .int L]), .inr (.inl (64, F)), .inr (.inl (64, G)), .inr (.inl (8, H)), .inr (.inl (8, I)), .inr (.inl (64, K)), .inr (.inl (N, W))]
      (fun rv o => rv = none ∧ ∃ X' F' G' H' L' T', o = [.inl (3, [.ref hh, v1, .ref mk, .ref inn, v4, v5]), .inr (.inl (8, mark)), .inr (.inl (8, X')), .inl (0, [.ref ms, .ref sc, .ref st, .int L']), .inr (.inl (64, F')), .inr (.inl (64, G')), .inr (.inl (8, H')), .inr (.inl (8, I)), .inr (.inl (64, K)), .inr (.inl (N, T'))] ∧ T' = va_cpy (hmo K I mark W n) W 0 at_ 8) := by
  refine CT.mk (T := t_X3_sign) rfl (Nat.le_of_ble_eq_true rfl) (fun h => ?_)
  repeat refine EV.s rfl rfl rfl ?_
  refine EW.cv 0 [0, 1, 3, 4] hD rfl (fun h0 => r_beginWithMark (d + 1) z mk hh ms sc st 909522486 v1 (.ref inn) v4 v5 L mark F h0 (nd_sub hD [0, 1, 3, 4] (by decide) rfl) hbh hbm) rfl rfl rfl rfl (Nat.le_of_ble_eq_true rfl) (Nat.le_of_ble_eq_true rfl) rfl rfl rfl rfl ?_
  try simp only [setm, List.set_cons_succ, List.set_cons_zero, Option.toList, List.nil_append, List.cons_append]
  repeat (first | refine EV.s rfl rfl rfl ?_ | refine EW.get 0 hD rfl rfl rfl rfl ?_)
  refine EW.cv 3 [3, 4, 9] hD rfl (fun h0 => r_addAll (d + 1) hh ms sc st src 16 n N (mbk mark 909522486 F 16) W h0 (nd_sub hD [3, 4, 9] (by decide) rfl) hbh hbm (by omega) hM hN2) rfl rfl rfl rfl (Nat.le_of_ble_eq_true rfl) (Nat.le_of_ble_eq_true rfl) rfl rfl rfl rfl ?_
  try simp only [setm, List.set_cons_succ, List.set_cons_zero, Option.toList, List.nil_append, List.cons_append]
  repeat (first | refine EV.s rfl rfl rfl ?_ | refine EW.get 0 hD rfl rfl rfl rfl ?_)
  refine EW.cvE 3 [3, 4, 5, 6, 7, 8, 2] hD (r_finish d hh ms sc st inn (16 + n) 8 0 (va_cpy W (mbk mark 909522486 F 16) 0 16 n) G H I K X (nd_sub hD [3, 4, 5, 6, 7, 8, 2] (by decide) rfl) hbh hbm hbsc hbst hbi (by omega) (by decide) (by decide)) rfl rfl rfl rfl rfl (Nat.le_of_ble_eq_true rfl) (Nat.le_of_ble_eq_true rfl) rfl rfl rfl ?_
  rintro rv os2 ⟨rfl, G1, H1, rfl⟩
  try simp only [setm, List.set_cons_succ, List.set_cons_zero, Option.toList, List.nil_append, List.cons_append]
  repeat refine EV.s rfl rfl rfl ?_
  refine EW.cv 0 [0, 1, 3, 4] hD rfl (fun h0 => r_beginWithMark (d + 1) z mk hh ms sc st 1549556828 v1 (.ref inn) v4 v5 (nI (16 + n)) mark _ h0 (nd_sub hD [0, 1, 3, 4] (by decide) rfl) hbh hbm) rfl rfl rfl rfl (Nat.le_of_ble_eq_true rfl) (Nat.le_of_ble_eq_true rfl) rfl rfl rfl rfl ?_
  try simp only [setm, List.set_cons_succ, List.set_cons_zero, Option.toList, List.nil_append, List.cons_append]
  repeat (first | refine EV.s rfl rfl rfl ?_ | refine EW.get 0 hD rfl rfl rfl rfl ?_)
  refine EW.cv 3 [3, 4, 2] hD rfl (fun h0 => r_addAll (d + 1) hh ms sc st inn 16 8 8 _ _ h0 (nd_sub hD [3, 4, 2] (by decide) rfl) hbh hbm (by decide) (by decide) (by decide)) rfl rfl rfl rfl (Nat.le_of_ble_eq_true rfl) (Nat.le_of_ble_eq_true rfl) rfl rfl rfl rfl ?_
  try simp only [setm, List.set_cons_succ, List.set_cons_zero, Option.toList, List.nil_append, List.cons_append]
  repeat (first | refine EV.s rfl rfl rfl ?_ | refine EW.get 0 hD rfl rfl rfl rfl ?_)
  refine EW.cvE 3 [3, 4, 5, 6, 7, 8, 9] hD (r_finish d hh ms sc st src (16 + 8) N at_ _ G1 H1 I K W (nd_sub hD [3, 4, 5, 6, 7, 8, 9] (by decide) rfl) hbh hbm hbsc hbst hbt (by decide) hN hN2) rfl rfl rfl rfl rfl (Nat.le_of_ble_eq_true rfl) (Nat.le_of_ble_eq_true rfl) rfl rfl rfl ?_
  rintro rv os2 ⟨rfl, G2, H2, rfl⟩
  try simp only [setm, List.set_cons_succ, List.set_cons_zero, Option.toList, List.nil_append, List.cons_append]
  exact EV.ret rfl ⟨_, _, rfl, _, ⟨⟨rfl, _, _, _, _, _, _, rfl, cpy_ext (fun j hj => hmo_eq hj)⟩, rfl⟩, rfl⟩
def up64 (x : Int64) : Int32 := (x.toUInt64 >>> ((32 : Int32).toInt64.toUInt64 &&& Int64.toUInt64 63)).toInt64.toInt32
def kdf (K I : Nat → Int32) (seed : Int64) (p : Int32) : Nat → Int32 := sha K I (fun j => if j = 0 then up64 seed else if j = 1 then seed.toInt32 else p) 3
set_option maxHeartbeats 2000000 in
theorem r_derive (d : Nat) (z hh ms sc st tg : Nat) (v1 v2 v3 v4 v5 : Value) (L p : Int32) (seed : Int64) (F G H I K D : Nat → Int32) (hD : [z, hh, ms, sc, st, sa 0, sa 1, tg].Nodup) (hbh : bs ≤ hh) (hbm : bs ≤ ms) (hbsc : bs ≤ sc) (hbst : bs ≤ st) (hbt : bs ≤ tg) :
    CT bs sa (d + 4) 27 [.ref z, .long seed, .int p, .ref tg] [z, hh, ms, sc, st, sa 0, sa 1, tg] [.inl (3, [.ref hh, v1, v2, v3, v4, v5]), .inl (0, [.ref ms, .ref sc, .ref st, .int L]), .inr (.inl (64, F)), .inr (.inl (64, G)), .inr (.inl (8, H)), .inr (.inl (8, I)), .inr (.inl (64, K)), .inr (.inl (8, D))]
      (fun rv o => rv = none ∧ ∃ F' G' H' T', o = [.inl (3, [.ref hh, v1, v2, v3, v4, v5]), .inl (0, [.ref ms, .ref sc, .ref st, .int (nI 3)]), .inr (.inl (64, F')), .inr (.inl (64, G')), .inr (.inl (8, H')), .inr (.inl (8, I)), .inr (.inl (64, K)), .inr (.inl (8, T'))] ∧ T' = va_cpy (kdf K I seed p) D 0 0 8) := by
  refine CT.mk (T := t_X3_derive) rfl (Nat.le_of_ble_eq_true rfl) (fun h => ?_)
  have hd2 : [hh, ms].Nodup := nd_sub hD [1, 2] (by decide) rfl
  repeat (first | refine EV.s rfl rfl rfl ?_ | refine EW.get 0 hD rfl rfl rfl rfl ?_)
  refine EW.cv 1 [1] hD rfl (fun h0 => r_begin (d + 2) hh (.ref ms) (.ref sc) (.ref st) (.int L) rfl h0 (nd_sub hD [1] (by decide) rfl) hbh) rfl rfl rfl rfl (Nat.le_of_ble_eq_true rfl) (Nat.le_of_ble_eq_true rfl) rfl rfl rfl rfl ?_
  try simp only [setm, List.set_cons_succ, List.set_cons_zero, Option.toList, List.nil_append, List.cons_append]
  repeat (first | refine EV.s rfl rfl rfl ?_ | refine EW.get 0 hD rfl rfl rfl rfl ?_)
  refine EW.cv 1 [1, 2] hD rfl (fun h0 => r_add (d + 2) hh ms 0 sc st (up64 seed) F h0 hd2 hbh hbm (by decide)) rfl rfl rfl rfl (Nat.le_of_ble_eq_true rfl) (Nat.le_of_ble_eq_true rfl) rfl rfl rfl rfl ?_
  try simp only [setm, List.set_cons_succ, List.set_cons_zero, Option.toList, List.nil_append, List.cons_append]
  repeat (first | refine EV.s rfl rfl rfl ?_ | refine EW.get 0 hD rfl rfl rfl rfl ?_)
  refine EW.cv 1 [1, 2] hD rfl (fun h0 => r_add (d + 2) hh ms 1 sc st seed.toInt32 _ h0 hd2 hbh hbm (by decide)) rfl rfl rfl rfl (Nat.le_of_ble_eq_true rfl) (Nat.le_of_ble_eq_true rfl) rfl rfl rfl rfl ?_
  try simp only [setm, List.set_cons_succ, List.set_cons_zero, Option.toList, List.nil_append, List.cons_append]
  repeat (first | refine EV.s rfl rfl rfl ?_ | refine EW.get 0 hD rfl rfl rfl rfl ?_)
  refine EW.cv 1 [1, 2] hD rfl (fun h0 => r_add (d + 2) hh ms 2 sc st p _ h0 hd2 hbh hbm (by decide)) rfl rfl rfl rfl (Nat.le_of_ble_eq_true rfl) (Nat.le_of_ble_eq_true rfl) rfl rfl rfl rfl ?_
  try simp only [setm, List.set_cons_succ, List.set_cons_zero, Option.toList, List.nil_append, List.cons_append]
  repeat (first | refine EV.s rfl rfl rfl ?_ | refine EW.get 0 hD rfl rfl rfl rfl ?_)
  refine EW.cvE 1 [1, 2, 3, 4, 5, 6, 7] hD (r_finish d hh ms sc st tg 3 8 0 _ G H I K D (nd_sub hD [1, 2, 3, 4, 5, 6, 7] (by decide) rfl) hbh hbm hbsc hbst hbt (by decide) (by decide) (by decide)) rfl rfl rfl rfl rfl (Nat.le_of_ble_eq_true rfl) (Nat.le_of_ble_eq_true rfl) rfl rfl rfl ?_
  rintro rv os2 ⟨rfl, G2, H2, rfl⟩
  try simp only [setm, List.set_cons_succ, List.set_cons_zero, Option.toList, List.nil_append, List.cons_append]
  refine EV.ret rfl ⟨_, _, rfl, _, ⟨⟨rfl, _, _, _, _, rfl, cpy_ext (fun j hj => sha_congr (fun _ _ => rfl) (fun _ _ => rfl) (fun i hi => ?_) hj)⟩, rfl⟩, rfl⟩
  have : i = 0 ∨ i = 1 ∨ i = 2 := by omega
  rcases this with rfl | rfl | rfl <;> rfl
end SGN
