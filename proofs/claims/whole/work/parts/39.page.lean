/-! Page's methods. -/
def jn (u l : Int32) : Int64 := (u.toInt64 <<< ((32 : Int32).toInt64 &&& 63)) ||| (l.toInt64 &&& 4294967295)
section PAG
variable {bs : Nat} {sa : Nat → Nat}
theorem r_join (d : Nat) (u l : Int32) (h : e_H) : ev_run tbs bs sa (d + 1) 16 [.int u, .int l] h (some (.long (jn u l))) h := by
  refine RUN.mk (T := t_X1_join) rfl (Nat.le_of_ble_eq_true rfl) ?_
  repeat refine EV.s rfl rfl rfl ?_
  refine EV.rl rfl rfl ?_
  rfl
theorem r_own (d : Nat) (p : Nat) (v0 v1 : Value) (tp ow ad rt id se t e : Int32) (h : e_H) (hD : [p].Nodup) (hb : bs ≤ p) :
    ev_run tbs bs sa (d + 1) 10 [.ref p, .int t, .int e] (wd [p] [.inl (1, [v0, v1, .int tp, .int ow, .int ad, .int rt, .int id, .int se])] h) none (wd [p] [.inl (1, [v0, v1, .int t, .int e, .int ad, .int rt, .int id, .int se])] h) := by
  refine RUN.mk (T := t_X1_own) rfl (Nat.le_of_ble_eq_true rfl) ?_
  repeat refine EV.s rfl rfl rfl ?_
  refine EW.put 0 hD rfl rfl rfl hb (Nat.le_of_ble_eq_true rfl) rfl ?_
  repeat refine EV.s rfl rfl rfl ?_
  refine EW.put 0 hD rfl rfl rfl hb (Nat.le_of_ble_eq_true rfl) rfl ?_
  refine EV.ret rfl ?_
  rfl
theorem r_isSaved (d : Nat) (p w : Nat) (v1 : Value) (tp ow ad rt id se : Int32) (W : Nat → Int32) (h : e_H) (hD : [p, w].Nodup) :
    ev_run tbs bs sa (d + 1) 12 [.ref p] (wd [p, w] [.inl (1, [.ref w, v1, .int tp, .int ow, .int ad, .int rt, .int id, .int se]), .inr (.inl (32, W))] h) (some (.int (if tp = 2 ∧ W 1 ≠ 0 then 1 else 0))) (wd [p, w] [.inl (1, [.ref w, v1, .int tp, .int ow, .int ad, .int rt, .int id, .int se]), .inr (.inl (32, W))] h) := by
  refine RUN.mk (T := t_X1_isSaved) rfl (Nat.le_of_ble_eq_true rfl) ?_
  repeat (first | refine EV.s rfl rfl rfl ?_ | refine EW.get 0 hD rfl rfl rfl rfl ?_)
  refine EV.icm rfl (fun hc => ?_) (fun hc => ?_)
  · have hc : tp ≠ 2 := of_decide_eq_true hc
    repeat refine EV.s rfl rfl rfl ?_
    refine EV.ret rfl ?_
    rw [if_neg (fun q => hc q.1)]
  · have hc : tp = 2 := Decidable.of_not_not (of_decide_eq_false hc)
    repeat (first | refine EV.s rfl rfl rfl ?_ | refine EW.get 0 hD rfl rfl rfl rfl ?_)
    refine EW.iald 1 1 hD rfl rfl rfl rfl (by decide) (by decide) ?_
    refine EV.ifc rfl (fun h0 => ?_) (fun h0 => ?_)
    · have h0 : W 1 = 0 := of_decide_eq_true h0
      repeat refine EV.s rfl rfl rfl ?_
      refine EV.ret rfl ?_
      rw [if_neg (fun q => q.2 h0)]
    · have h0 : W 1 ≠ 0 := of_decide_eq_false h0
      repeat refine EV.s rfl rfl rfl ?_
      refine EV.ret rfl ?_
      rw [if_pos ⟨hc, h0⟩]
theorem r_isDataOf (d : Nat) (p : Nat) (v0 v1 : Value) (tp ow ad rt id se e : Int32) (h : e_H) (hD : [p].Nodup) :
    ev_run tbs bs sa (d + 1) 13 [.ref p, .int e] (wd [p] [.inl (1, [v0, v1, .int tp, .int ow, .int ad, .int rt, .int id, .int se])] h) (some (.int (if tp = 3 ∧ ow = e then 1 else 0))) (wd [p] [.inl (1, [v0, v1, .int tp, .int ow, .int ad, .int rt, .int id, .int se])] h) := by
  refine RUN.mk (T := t_X1_isDataOf) rfl (Nat.le_of_ble_eq_true rfl) ?_
  repeat (first | refine EV.s rfl rfl rfl ?_ | refine EW.get 0 hD rfl rfl rfl rfl ?_)
  refine EV.icm rfl (fun hc => ?_) (fun hc => ?_)
  · have hc : tp ≠ 3 := of_decide_eq_true hc
    repeat refine EV.s rfl rfl rfl ?_
    refine EV.ret rfl ?_
    rw [if_neg (fun q => hc q.1)]
  · have hc : tp = 3 := Decidable.of_not_not (of_decide_eq_false hc)
    repeat (first | refine EV.s rfl rfl rfl ?_ | refine EW.get 0 hD rfl rfl rfl rfl ?_)
    refine EV.icm rfl (fun h0 => ?_) (fun h0 => ?_)
    · have h0 : ow ≠ e := of_decide_eq_true h0
      repeat refine EV.s rfl rfl rfl ?_
      refine EV.ret rfl ?_
      rw [if_neg (fun q => h0 q.2)]
    · have h0 : ow = e := Decidable.of_not_not (of_decide_eq_false h0)
      repeat refine EV.s rfl rfl rfl ?_
      refine EV.ret rfl ?_
      rw [if_pos ⟨hc, h0⟩]
/-- a number that is within -/
theorem in_nI {x : Int32} {n : Nat} (hn : n < 2 ^ 31) (h : 0 ≤ x ∧ x < nI n) : ∃ j, j < n ∧ x = nI j := by
  rcases pk_ix x hn with q | q | q
  · exact absurd h.1 (Int32.not_le.mpr q)
  · exact absurd h.2 (Int32.not_lt.mpr q)
  · exact q
set_option maxHeartbeats 1000000 in
theorem r_numberIn (d : Nat) (p w j : Nat) (v1 : Value) (fs : List Value) (W : Nat → Int32) (h : e_H) (hD : [p, w].Nodup) (hj : j < 16) :
    ev_run tbs bs sa (d + 2) 14 [.ref p, .int (nI j)] (wd [p, w] [.inl (1, .ref w :: v1 :: fs), .inr (.inl (32, W))] h) (some (.long (jn (W (2 * j)) (W (2 * j + 1))))) (wd [p, w] [.inl (1, .ref w :: v1 :: fs), .inr (.inl (32, W))] h) := by
  have e1 : (2 : Int32) * nI j = nI (2 * j) := pk_mul 2 j
  refine RUN.mk (T := t_X1_numberIn) rfl (Nat.le_of_ble_eq_true rfl) ?_
  repeat refine EV.s rfl rfl rfl ?_
  refine EV.call rfl (r_isWithin _ _ _ _) ?_
  refine EV.ifc rfl (fun hc => ?_) (fun hc => ?_)
  · exfalso
    have hc := of_decide_eq_true hc
    rw [if_pos ⟨nI_pos' (by omega), nI_lt (b := 16) hj (by decide)⟩] at hc
    exact absurd hc (by decide)
  · repeat (first | refine EV.s rfl rfl rfl ?_ | refine EW.get 0 hD rfl rfl rfl rfl ?_)
    refine EW.iald 1 (2 * j) hD rfl rfl rfl e1 (by omega) (by decide) ?_
    repeat (first | refine EV.s rfl rfl rfl ?_ | refine EW.get 0 hD rfl rfl rfl rfl ?_)
    refine EW.iald 1 (2 * j + 1) hD rfl rfl rfl (by rw [← nI_1, ← e1]) (by omega) (by decide) ?_
    refine EV.call rfl (r_join _ _ _ _) ?_
    repeat refine EV.s rfl rfl rfl ?_
    refine EV.rl rfl rfl ?_
    rfl
theorem r_setNumber (d : Nat) (p w j : Nat) (x : Int64) (v1 : Value) (fs : List Value) (W : Nat → Int32) (h : e_H) (hD : [p, w].Nodup) (hb : bs ≤ w) (hj : j < 16) :
    ev_run tbs bs sa (d + 2) 15 [.ref p, .int (nI j), .long x] (wd [p, w] [.inl (1, .ref w :: v1 :: fs), .inr (.inl (32, W))] h) none (wd [p, w] [.inl (1, .ref w :: v1 :: fs), .inr (.inl (32, upd (upd W (2 * j) (up64 x)) (2 * j + 1) x.toInt32))] h) := by
  have e1 : (2 : Int32) * nI j = nI (2 * j) := pk_mul 2 j
  refine RUN.mk (T := t_X1_setNumber) rfl (Nat.le_of_ble_eq_true rfl) ?_
  repeat refine EV.s rfl rfl rfl ?_
  refine EV.call rfl (r_isWithin _ _ _ _) ?_
  refine EV.ifc rfl (fun hc => ?_) (fun hc => ?_)
  · exfalso
    have hc := of_decide_eq_true hc
    rw [if_pos ⟨nI_pos' (by omega), nI_lt (b := 16) hj (by decide)⟩] at hc
    exact absurd hc (by decide)
  · repeat (first | refine EV.s rfl rfl rfl ?_ | refine EW.get 0 hD rfl rfl rfl rfl ?_)
    refine EW.iast 1 (2 * j) hD rfl rfl rfl hb e1 (by omega) (by decide) ?_
    repeat (first | refine EV.s rfl rfl rfl ?_ | refine EW.get 0 hD rfl rfl rfl rfl ?_)
    refine EW.iast 1 (2 * j + 1) hD rfl rfl rfl hb (by rw [← nI_1, ← e1]) (by omega) (by decide) ?_
    refine EV.ret rfl ?_
    rfl
set_option maxHeartbeats 1000000 in
theorem r_clr_loop2 (d : Nat) (p w m : Nat) (fs : List Value) (W M : Nat → Int32) (h : e_H) (hD : [p, w, m].Nodup) (hbm : bs ≤ m) (E : e_C ⊕ (Option Value × e_H) → Prop)
    (hK : E (.inr (none, wd [p, w, m] [.inl (1, .ref w :: .ref m :: fs), .inr (.inl (32, W)), .inr (.inl (8, zf M 0 8))] h))) :
    ∀ (n k : Nat), k + n = 8 → ∀ Z, Z = zf M 0 k → ∀ ki, ki = nI k → ev_E tbs bs sa d t_X1_clear E (56, [some (.ref p), some (.int ki)], [.int 8, .int ki], wd [p, w, m] [.inl (1, .ref w :: .ref m :: fs), .inr (.inl (32, W)), .inr (.inl (8, Z))] h) := by
  intro n
  induction n with
  | zero =>
    intro k hk Z hZ ki hki
    have e : k = 8 := by omega
    subst e; subst hZ; subst hki
    refine EV.icm rfl (fun hc => ?_) (fun hc => ?_)
    · refine EV.ret rfl ?_
      exact hK
    · exact absurd (by decide : (8 : Int32) ≤ nI 8) (of_decide_eq_false hc)
  | succ n ih =>
    intro k hk Z hZ ki hki
    subst hki; subst hZ
    refine EV.icm rfl (fun hc => ?_) (fun hc => ?_)
    · exact absurd (of_decide_eq_true hc) (nI_ge (b := 8) (by omega) (by decide))
    · repeat (first | refine EV.s rfl rfl rfl ?_ | refine EW.get 0 hD rfl rfl rfl rfl ?_)
      refine EW.iast 2 k hD rfl rfl rfl hbm rfl (by omega) (by decide) ?_
      repeat refine EV.s rfl rfl rfl ?_
      exact ih (k + 1) (by omega) _ (zf_s M (Nat.zero_le k)).symm _ (nI_1 k)
set_option maxHeartbeats 1000000 in
theorem r_clr_loop1 (d : Nat) (p w m : Nat) (fs : List Value) (W M : Nat → Int32) (h : e_H) (hD : [p, w, m].Nodup) (hbw : bs ≤ w) (E : e_C ⊕ (Option Value × e_H) → Prop)
    (hK : ∀ ki, ev_E tbs bs sa d t_X1_clear E (51, [some (.ref p), some (.int ki)], [], wd [p, w, m] [.inl (1, .ref w :: .ref m :: fs), .inr (.inl (32, zf W 0 32)), .inr (.inl (8, M))] h)) :
    ∀ (n k : Nat), k + n = 32 → ∀ Z, Z = zf W 0 k → ∀ ki, ki = nI k → ev_E tbs bs sa d t_X1_clear E (35, [some (.ref p), some (.int ki)], [.int 32, .int ki], wd [p, w, m] [.inl (1, .ref w :: .ref m :: fs), .inr (.inl (32, Z)), .inr (.inl (8, M))] h) := by
  intro n
  induction n with
  | zero =>
    intro k hk Z hZ ki hki
    have e : k = 32 := by omega
    subst e; subst hZ; subst hki
    refine EV.icm rfl (fun hc => ?_) (fun hc => ?_)
    · exact hK _
    · exact absurd (by decide : (32 : Int32) ≤ nI 32) (of_decide_eq_false hc)
  | succ n ih =>
    intro k hk Z hZ ki hki
    subst hki; subst hZ
    refine EV.icm rfl (fun hc => ?_) (fun hc => ?_)
    · exact absurd (of_decide_eq_true hc) (nI_ge (b := 32) (by omega) (by decide))
    · repeat (first | refine EV.s rfl rfl rfl ?_ | refine EW.get 0 hD rfl rfl rfl rfl ?_)
      refine EW.iast 1 k hD rfl rfl rfl hbw rfl (by omega) (by decide) ?_
      repeat refine EV.s rfl rfl rfl ?_
      exact ih (k + 1) (by omega) _ (zf_s W (Nat.zero_le k)).symm _ (nI_1 k)
set_option maxHeartbeats 1000000 in
theorem r_clear (d : Nat) (p w m : Nat) (tp ow ad rt id se : Int32) (W M : Nat → Int32) (h : e_H) (hD : [p, w, m].Nodup) (hbp : bs ≤ p) (hbw : bs ≤ w) (hbm : bs ≤ m) :
    ev_run tbs bs sa (d + 1) 11 [.ref p] (wd [p, w, m] [.inl (1, [.ref w, .ref m, .int tp, .int ow, .int ad, .int rt, .int id, .int se]), .inr (.inl (32, W)), .inr (.inl (8, M))] h) none (wd [p, w, m] [.inl (1, [.ref w, .ref m, .int 0, .int (-1), .int 0, .int 0, .int 0, .int 0]), .inr (.inl (32, zf W 0 32)), .inr (.inl (8, zf M 0 8))] h) := by
  refine RUN.mk (T := t_X1_clear) rfl (Nat.le_of_ble_eq_true rfl) ?_
  repeat refine EV.s rfl rfl rfl ?_
  refine EW.put 0 hD rfl rfl rfl hbp (Nat.le_of_ble_eq_true rfl) rfl ?_
  repeat refine EV.s rfl rfl rfl ?_
  refine EW.put 0 hD rfl rfl rfl hbp (Nat.le_of_ble_eq_true rfl) rfl ?_
  repeat refine EV.s rfl rfl rfl ?_
  refine EW.put 0 hD rfl rfl rfl hbp (Nat.le_of_ble_eq_true rfl) rfl ?_
  repeat refine EV.s rfl rfl rfl ?_
  refine EW.put 0 hD rfl rfl rfl hbp (Nat.le_of_ble_eq_true rfl) rfl ?_
  repeat refine EV.s rfl rfl rfl ?_
  refine EW.put 0 hD rfl rfl rfl hbp (Nat.le_of_ble_eq_true rfl) rfl ?_
  repeat refine EV.s rfl rfl rfl ?_
  refine EW.put 0 hD rfl rfl rfl hbp (Nat.le_of_ble_eq_true rfl) rfl ?_
  repeat refine EV.s rfl rfl rfl ?_
  refine r_clr_loop1 d p w m [.int 0, .int (-1), .int 0, .int 0, .int 0, .int 0] W M h hD hbw _ (fun ki => ?_) 32 0 rfl W (zf_0 W 0).symm _ rfl
  repeat refine EV.s rfl rfl rfl ?_
  refine r_clr_loop2 d p w m [.int 0, .int (-1), .int 0, .int 0, .int 0, .int 0] (zf W 0 32) M h hD hbm _ ?_ 8 0 rfl M (zf_0 M 0).symm _ rfl
  rfl
end PAG
