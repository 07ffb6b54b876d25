theorem nd_sub {as as1 : List Nat} (hD : as.Nodup) (ps : List Nat) (hp : ps.Nodup) (h : ps.map (fun p => as[p]?) = as1.map some) : as1.Nodup := by
  have hl : ps.length = as1.length := by have := congrArg List.length h; simpa using this
  have key : ∀ (i : Nat) (hi : i < as1.length), as[ps[i]'(by omega)]? = some as1[i] := by
    intro i hi
    have := congrArg (fun l => l[i]?) h
    simp only [List.getElem?_map] at this
    rw [List.getElem?_eq_getElem (by omega), List.getElem?_eq_getElem hi] at this
    simpa using this
  unfold List.Nodup at *
  rw [List.pairwise_iff_getElem] at *
  intro i j hi hj hij e
  have k1 := key i hi
  have k2 := key j hj
  obtain ⟨l1, e1⟩ := List.getElem?_eq_some_iff.mp k1
  obtain ⟨l2, e2⟩ := List.getElem?_eq_some_iff.mp k2
  have hne := hp i j (by omega) (by omega) hij
  rcases Nat.lt_trichotomy (ps[i]'(by omega)) (ps[j]'(by omega)) with q | q | q
  · exact hD _ _ l1 l2 q (by rw [e1, e2, e])
  · exact hne q
  · exact hD _ _ l2 l1 q (by rw [e1, e2, e])
def zf (F : Nat → Int32) (L k : Nat) : Nat → Int32 := fun j => if L ≤ j ∧ j < k then 0 else F j
theorem zf_0 (F : Nat → Int32) (L : Nat) : zf F L L = F := by
  funext j; simp only [zf]; rw [if_neg (by omega)]
theorem zf_s (F : Nat → Int32) {L k : Nat} (h : L ≤ k) : zf F L (k + 1) = upd (zf F L k) k 0 := by
  funext j
  simp only [zf, upd]
  by_cases e : j = k
  · rw [if_pos e, if_pos (by omega)]
  · rw [if_neg e]
    by_cases q : L ≤ j ∧ j < k
    · rw [if_pos q, if_pos (by omega)]
    · rw [if_neg q, if_neg (by omega)]
def pmc (F : Nat → Int32) (L : Nat) : Nat → Int32 := upd (upd (zf F L (16 * snb L)) L (-2147483648)) (16 * snb L - 1) (nI L * 32)
theorem snb_b {L : Nat} : L + 3 ≤ 16 * snb L ∧ 16 * snb L ≤ L + 18 := by unfold snb; omega
theorem snb_64 {L : Nat} (h : L ≤ 61) : 16 * snb L ≤ 64 := by unfold snb; omega
theorem pmc_get {F : Nat → Int32} {L : Nat} {j : Nat} (hj : j < 16 * snb L) : pmc F L j = spd F L j := by
  have hb := snb_b (L := L)
  simp only [pmc, spd, upd, zf]
  by_cases h1 : j < L
  · rw [if_pos h1, if_neg (by omega), if_neg (by omega), if_neg (by omega)]
  · rw [if_neg h1]
    by_cases h2 : j = 16 * snb L - 1
    · rw [if_pos h2, if_pos h2]
      have : nI L * nI 32 = nI (L * 32) := pk_mul L 32
      rw [Nat.mul_comm 32 L, ← this]; rfl
    · rw [if_neg h2, if_neg h2]
      by_cases h3 : j = L
      · rw [if_pos h3, if_pos h3]
      · rw [if_neg h3, if_neg h3, if_pos (by omega)]
section HSH3
variable {bs : Nat} {sa : Nat → Nat}
set_option maxHeartbeats 1000000 in
theorem r_pad_loop (d : Nat) (a m L P : Nat) (u v : Value) (Pi : Int32) (hPi : Pi = nI P) (hP : P ≤ 64) (F : Nat → Int32) (h : e_H) (hD : [a, m].Nodup) (hbm : bs ≤ m) (E : e_C ⊕ (Option Value × e_H) → Prop)
    (hK : ∀ ki, ev_E tbs bs sa d t_X0_padMessage E (41, [some (.ref a), some (.int Pi), some (.int ki)], [], wd [a, m] [.inl (0, [.ref m, u, v, .int (nI L)]), .inr (.inl (64, zf F L P))] h)) :
    ∀ (n k : Nat), k + n = P → L ≤ k → ∀ Z, Z = zf F L k → ∀ ki, ki = nI k → ev_E tbs bs sa d t_X0_padMessage E (25, [some (.ref a), some (.int Pi), some (.int ki)], [.int Pi, .int ki], wd [a, m] [.inl (0, [.ref m, u, v, .int (nI L)]), .inr (.inl (64, Z))] h) := by
  intro n
  induction n with
  | zero =>
    intro k hk hLk Z hZ ki hki
    have e : k = P := by omega
    subst e; subst hZ; subst hki
    refine EV.icm rfl (fun hc => ?_) (fun hc => ?_)
    · exact hK _
    · exact absurd (by rw [hPi]; exact nI_le (Nat.le_refl _) (by omega)) (of_decide_eq_false hc)
  | succ n ih =>
    intro k hk hLk Z hZ ki hki
    subst hZ; subst hki
    refine EV.icm rfl (fun hc => ?_) (fun hc => ?_)
    · exact absurd (of_decide_eq_true hc) (by rw [hPi]; exact nI_ge (by omega) (by omega))
    · repeat (first | refine EV.s rfl rfl rfl ?_ | refine EW.get 0 hD rfl rfl rfl rfl ?_)
      refine EW.iast 1 k hD rfl rfl rfl hbm rfl (by omega) (by decide) ?_
      repeat refine EV.s rfl rfl rfl ?_
      exact ih (k + 1) (by omega) (by omega) _ (zf_s F hLk).symm _ (nI_1 k)
set_option maxHeartbeats 1000000 in
theorem r_padMessage (d : Nat) (a m L : Nat) (u v : Value) (F : Nat → Int32) (h : e_H) (hD : [a, m].Nodup) (hbm : bs ≤ m) (hL : L ≤ 61) :
    ev_run tbs bs sa (d + 1) 5 [.ref a] (wd [a, m] [.inl (0, [.ref m, u, v, .int (nI L)]), .inr (.inl (64, F))] h) (some (.int (nI (16 * snb L)))) (wd [a, m] [.inl (0, [.ref m, u, v, .int (nI L)]), .inr (.inl (64, pmc F L))] h) := by
  have hb := snb_b (L := L)
  have h64 := snb_64 hL
  have hPi : ((nI L + 3) + 16 - 1) / 16 * 16 = nI (16 * snb L) := by
    have e1 : nI L + 3 = nI (L + 3) := nI_add L 3
    have e2 : nI (L + 3) + 16 = nI (L + 3 + 16) := nI_add _ 16
    have e3 : nI (L + 3 + 16) - 1 = nI (L + 3 + 16 - 1) := pk_sub (b := 1) (by omega)
    have e4 : nI (L + 3 + 16 - 1) / 16 = nI ((L + 3 + 16 - 1) / 16) := pk_div (d := 16) (by omega) (by omega) (by omega)
    have e5 : nI ((L + 3 + 16 - 1) / 16) * 16 = nI ((L + 3 + 16 - 1) / 16 * 16) := pk_mul _ 16
    rw [e1, e2, e3, e4, e5, Nat.mul_comm]; rfl
  refine RUN.mk (T := t_X0_padMessage) rfl (Nat.le_of_ble_eq_true rfl) ?_
  repeat (first | refine EV.s rfl rfl rfl ?_ | refine EW.get 0 hD rfl rfl rfl rfl ?_)
  refine r_pad_loop d a m L (16 * snb L) u v _ hPi h64 F h hD hbm _ (fun ki => ?_) (16 * snb L - L) L (by omega) (Nat.le_refl _) F (zf_0 F L).symm _ rfl
  repeat (first | refine EV.s rfl rfl rfl ?_ | refine EW.get 0 hD rfl rfl rfl rfl ?_)
  refine EW.iast 1 L hD rfl rfl rfl hbm rfl (by omega) (by decide) ?_
  repeat (first | refine EV.s rfl rfl rfl ?_ | refine EW.get 0 hD rfl rfl rfl rfl ?_)
  refine EW.iast 1 (16 * snb L - 1) hD rfl rfl rfl hbm (by rw [← pk_sub (b := 1) (by omega), ← hPi]; rfl) (by omega) (by decide) ?_
  repeat refine EV.s rfl rfl rfl ?_
  refine EV.ri rfl rfl ?_
  rw [← hPi]
  rfl
theorem cpy_s (W F : Nat → Int32) (L k : Nat) : va_cpy W F 0 L (k + 1) = upd (va_cpy W F 0 L k) (L + k) (W k) := by
  funext j
  simp only [va_cpy, upd]
  by_cases e : j = L + k
  · rw [if_pos e, if_pos (by omega)]; congr 1; omega
  · rw [if_neg e]
    by_cases q : L ≤ j ∧ j < L + k
    · rw [if_pos q, if_pos (by omega)]
    · rw [if_neg q, if_neg (by omega)]
theorem cpy_0 (W F : Nat → Int32) (L : Nat) : va_cpy W F 0 L 0 = F := by
  funext j; simp only [va_cpy]; rw [if_neg (by omega)]
set_option maxHeartbeats 1000000 in
theorem r_addAll_loop (d : Nat) (a m s t w L N M : Nat) (F W : Nat → Int32) (h : e_H) (hD : [a, m, w].Nodup) (hba : bs ≤ a) (hbm : bs ≤ m) (hL : L + N ≤ 61) (hN : N ≤ M) (hM : M < 2 ^ 31) (E : e_C ⊕ (Option Value × e_H) → Prop)
    (hK : E (.inr (none, wd [a, m, w] [.inl (0, [.ref m, .ref s, .ref t, .int (nI (L + N))]), .inr (.inl (64, va_cpy W F 0 L N)), .inr (.inl (M, W))] h))) :
    ∀ (n k : Nat), k + n = N → ∀ Z, Z = va_cpy W F 0 L k → ∀ ki, ki = nI k → ev_E tbs bs sa (d + 1) t_X0_addAll E (4, [some (.ref a), some (.ref w), some (.int (nI N)), some (.int ki)], [.int (nI N), .int ki], wd [a, m, w] [.inl (0, [.ref m, .ref s, .ref t, .int (nI (L + k))]), .inr (.inl (64, Z)), .inr (.inl (M, W))] h) := by
  intro n
  induction n with
  | zero =>
    intro k hk Z hZ ki hki
    have e : k = N := by omega
    subst e; subst hZ; subst hki
    refine EV.icm rfl (fun hc => ?_) (fun hc => ?_)
    · refine EV.ret rfl ?_
      exact hK
    · exact absurd (nI_le (Nat.le_refl _) (by omega)) (of_decide_eq_false hc)
  | succ n ih =>
    intro k hk Z hZ ki hki
    subst hZ; subst hki
    refine EV.icm rfl (fun hc => ?_) (fun hc => ?_)
    · exact absurd (of_decide_eq_true hc) (nI_ge (by omega) (by omega))
    · repeat refine EV.s rfl rfl rfl ?_
      refine EW.iald 2 k hD rfl rfl rfl rfl (by omega) hM ?_
      refine EW.cv 0 [0, 1] hD rfl (fun h0 => r_add d a m (L + k) s t (W k) (va_cpy W F 0 L k) h0 (nd_sub hD [0, 1] (by decide) rfl) hba hbm (by omega)) rfl rfl rfl rfl (Nat.le_of_ble_eq_true rfl) (Nat.le_of_ble_eq_true rfl) rfl rfl rfl rfl ?_
      repeat refine EV.s rfl rfl rfl ?_
      exact ih (k + 1) (by omega) _ (cpy_s W F L k).symm _ (nI_1 k)
set_option maxHeartbeats 1000000 in
theorem r_addAll (d : Nat) (a m s t w L N M : Nat) (F W : Nat → Int32) (h : e_H) (hD : [a, m, w].Nodup) (hba : bs ≤ a) (hbm : bs ≤ m) (hL : L + N ≤ 61) (hN : N ≤ M) (hM : M < 2 ^ 31) :
    ev_run tbs bs sa (d + 2) 3 [.ref a, .ref w, .int (nI N)] (wd [a, m, w] [.inl (0, [.ref m, .ref s, .ref t, .int (nI L)]), .inr (.inl (64, F)), .inr (.inl (M, W))] h) none (wd [a, m, w] [.inl (0, [.ref m, .ref s, .ref t, .int (nI (L + N))]), .inr (.inl (64, va_cpy W F 0 L N)), .inr (.inl (M, W))] h) := by
  refine RUN.mk (T := t_X0_addAll) rfl (Nat.le_of_ble_eq_true rfl) ?_
  repeat refine EV.s rfl rfl rfl ?_
  refine r_addAll_loop d a m s t w L N M F W h hD hba hbm hL hN hM _ ?_ N 0 (by omega) F (cpy_0 W F L).symm _ rfl
  rfl
end HSH3
