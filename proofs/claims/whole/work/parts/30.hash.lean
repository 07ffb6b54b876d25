theorem r_isWithin {bs : Nat} {sa : Nat → Nat} (d : Nat) (k b : Int32) (h : e_H) : ev_run tbs bs sa (d + 1) 53 [.int k, .int b] h (some (.int (if 0 ≤ k ∧ k < b then 1 else 0))) h := by
  refine RUN.mk (T := t_X4_isWithin) rfl (Nat.le_of_ble_eq_true rfl) ?_
  refine EV.st rfl ?_
  refine EV.ifc rfl (fun hc => ?_) (fun hc => ?_)
  · have hc : k < 0 := of_decide_eq_true hc
    refine EV.st rfl ?_
    refine EV.ret rfl ?_
    rw [if_neg (fun q => Int32.not_le.mpr hc q.1)]
  · have hc : ¬ k < 0 := of_decide_eq_false hc
    refine EV.st rfl ?_
    refine EV.st rfl ?_
    refine EV.icm rfl (fun hb => ?_) (fun hb => ?_)
    · have hb : b ≤ k := of_decide_eq_true hb
      refine EV.st rfl ?_
      refine EV.ret rfl ?_
      rw [if_neg (fun q => Int32.not_lt.mpr hb q.2)]
    · have hb : ¬ b ≤ k := of_decide_eq_false hb
      refine EV.st rfl ?_
      refine EV.st rfl ?_
      refine EV.ret rfl ?_
      rw [if_pos ⟨Int32.not_lt.mp hc, Int32.not_le.mp hb⟩]
theorem r_add {bs : Nat} {sa : Nat → Nat} (d : Nat) (a m len : Nat) (s t : Nat) (w : Int32) (f : Nat → Int32) (h : e_H) (hD : [a, m].Nodup) (hba : bs ≤ a) (hbm : bs ≤ m) (hl : len < 61) :
    ev_run tbs bs sa (d + 1) 2 [.ref a, .int w] (wd [a, m] [.inl (0, [.ref m, .ref s, .ref t, .int (nI len)]), .inr (.inl (64, f))] h) none (wd [a, m] [.inl (0, [.ref m, .ref s, .ref t, .int (nI (len + 1))]), .inr (.inl (64, upd f len w))] h) := by
  refine RUN.mk (T := t_X0_add) rfl (Nat.le_of_ble_eq_true rfl) ?_
  refine EV.st rfl ?_
  refine EW.get 0 hD rfl rfl rfl rfl ?_
  refine EV.st rfl ?_
  refine EV.icm rfl (fun hb => ?_) (fun hb => ?_)
  · exact absurd (of_decide_eq_true hb) (nI_ge (b := 61) hl (by decide))
  · refine EV.st rfl ?_
    refine EW.get 0 hD rfl rfl rfl rfl ?_
    refine EV.st rfl ?_
    refine EW.get 0 hD rfl rfl rfl rfl ?_
    refine EV.st rfl ?_
    refine EW.iast 1 len hD rfl rfl rfl hbm rfl (by omega) (Nat.le_of_ble_eq_true rfl) ?_
    refine EV.st rfl ?_
    refine EV.st rfl ?_
    refine EW.get 0 hD rfl rfl rfl rfl ?_
    refine EV.st rfl ?_
    refine EV.st rfl ?_
    refine EW.put 0 hD rfl rfl rfl hba (Nat.le_of_ble_eq_true rfl) rfl ?_
    refine EV.ret rfl ?_
    rw [← nI_1]
    rfl
