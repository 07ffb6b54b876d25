theorem cpyS (W F : Nat → Int32) (sp L k : Nat) : va_cpy W F sp L (k + 1) = upd (va_cpy W F sp L k) (L + k) (W (sp + k)) := by
  funext j
  simp only [va_cpy, upd]
  by_cases e : j = L + k
  · rw [if_pos e, if_pos (by omega)]; congr 1; omega
  · rw [if_neg e]
    by_cases q : L ≤ j ∧ j < L + k
    · rw [if_pos q, if_pos (by omega)]
    · rw [if_neg q, if_neg (by omega)]
theorem cpy0 (W F : Nat → Int32) (sp L : Nat) : va_cpy W F sp L 0 = F := by
  funext j; simp only [va_cpy]; rw [if_neg (by omega)]
/-- a page's measuring -/
def mea (K I m : Nat → Int32) (t a r : Int32) (w : Nat → Int32) : Nat → Int32 := sha K I (fun j => if j < 8 then m j else if j = 8 then t else if j = 9 then a else if j = 10 then r else if j = 11 then 0 else w (j - 12)) 44
section MME
variable {bs : Nat} {sa : Nat → Nat}
set_option maxHeartbeats 1000000 in
set_option maxRecDepth 100000 in
theorem r_bec1 (d M p : Nat) (t : Int32) (fs : List Value) (h8 : fs[8]? = some (.ref (M + 7))) (hp : p < 40) (tp ow ad rt id se W Me : Nat → Int32) (hb : bs ≤ M) (h : e_H) (hD : [M, M + 1, M + 2, M + 3, M + 4, M + 5, M + 6, M + 7, M + 8].Nodup) (E : e_C ⊕ (Option Value × e_H) → Prop)
    (hK : ∀ (ki : Int32), ev_E tbs bs sa (d) t_X5_becomes E (68, [some (.ref M), some (.int (nI p)), some (.int t), some (.int ki)], [], wd [M, M + 1, M + 2, M + 3, M + 4, M + 5, M + 6, M + 7, M + 8] [.inl (5, fs), .inr (.inl (40, tp)), .inr (.inl (40, ow)), .inr (.inl (40, ad)), .inr (.inl (40, rt)), .inr (.inl (40, id)), .inr (.inl (40, se)), .inr (.inl (1280, zf W (32 * p) (32 * p + 32))), .inr (.inl (320, Me))] h)) :
    ∀ (c k : Nat), k + c = 32 → ∀ Z, Z = zf W (32 * p) (32 * p + k) → ∀ (ki : Int32), ki = nI k → ev_E tbs bs sa (d) t_X5_becomes E (47, [some (.ref M), some (.int (nI p)), some (.int t), some (.int ki)], [.int 32, .int ki], wd [M, M + 1, M + 2, M + 3, M + 4, M + 5, M + 6, M + 7, M + 8] [.inl (5, fs), .inr (.inl (40, tp)), .inr (.inl (40, ow)), .inr (.inl (40, ad)), .inr (.inl (40, rt)), .inr (.inl (40, id)), .inr (.inl (40, se)), .inr (.inl (1280, Z)), .inr (.inl (320, Me))] h) := by
  intro c
  induction c with
  | zero =>
    intro k hkc Z hZ ki hki
    have e : k = 32 := by omega
    subst e; subst hZ; subst hki
    refine EV.icm rfl (fun hc => ?_) (fun hc => ?_)
    · exact hK _
    · exact absurd (by decide : (32 : Int32) ≤ nI 32) (of_decide_eq_false hc)
  | succ c ih =>
    intro k hkc Z hZ ki hki
    subst hki; subst hZ
    refine EV.icm rfl (fun hc => ?_) (fun hc => ?_)
    · exact absurd (of_decide_eq_true hc) (nI_ge (b := 32) (by omega) (by decide))
    · have e1 : (32 : Int32) * nI p + nI k = nI (32 * p + k) := by
        have a1 : (32 : Int32) * nI p = nI (32 * p) := pk_mul 32 p
        rw [a1, nI_add]
      repeat (first | refine EV.s rfl rfl rfl ?_ | refine EW.get 0 hD rfl rfl rfl h8 ?_)
      refine EW.iast 7 (32 * p + k) hD rfl rfl rfl (by omega) e1 (by omega) (by decide) ?_
      repeat refine EV.s rfl rfl rfl ?_
      exact ih (k + 1) (by omega) _ ((zf_s W (Nat.le_add_right _ k)).symm) _ (nI_1 k)
set_option maxHeartbeats 1000000 in
set_option maxRecDepth 100000 in
theorem r_bec2 (d M p : Nat) (t : Int32) (fs : List Value) (h9 : fs[9]? = some (.ref (M + 8))) (hp : p < 40) (tp ow ad rt id se W Me : Nat → Int32) (hb : bs ≤ M) (h : e_H) (hD : [M, M + 1, M + 2, M + 3, M + 4, M + 5, M + 6, M + 7, M + 8].Nodup) (E : e_C ⊕ (Option Value × e_H) → Prop)
    (hK : E (.inr (none, wd [M, M + 1, M + 2, M + 3, M + 4, M + 5, M + 6, M + 7, M + 8] [.inl (5, fs), .inr (.inl (40, tp)), .inr (.inl (40, ow)), .inr (.inl (40, ad)), .inr (.inl (40, rt)), .inr (.inl (40, id)), .inr (.inl (40, se)), .inr (.inl (1280, W)), .inr (.inl (320, zf Me (8 * p) (8 * p + 8)))] h))) :
    ∀ (c k : Nat), k + c = 8 → ∀ Z, Z = zf Me (8 * p) (8 * p + k) → ∀ (ki : Int32), ki = nI k → ev_E tbs bs sa (d) t_X5_becomes E (73, [some (.ref M), some (.int (nI p)), some (.int t), some (.int ki)], [.int 8, .int ki], wd [M, M + 1, M + 2, M + 3, M + 4, M + 5, M + 6, M + 7, M + 8] [.inl (5, fs), .inr (.inl (40, tp)), .inr (.inl (40, ow)), .inr (.inl (40, ad)), .inr (.inl (40, rt)), .inr (.inl (40, id)), .inr (.inl (40, se)), .inr (.inl (1280, W)), .inr (.inl (320, Z))] h) := by
  intro c
  induction c with
  | zero =>
    intro k hkc Z hZ ki hki
    have e : k = 8 := by omega
    subst e; subst hZ; subst hki
    refine EV.icm rfl (fun hc => ?_) (fun hc => ?_)
    · refine EV.ret rfl ?_
      exact hK
    · exact absurd (by decide : (8 : Int32) ≤ nI 8) (of_decide_eq_false hc)
  | succ c ih =>
    intro k hkc Z hZ ki hki
    subst hki; subst hZ
    refine EV.icm rfl (fun hc => ?_) (fun hc => ?_)
    · exact absurd (of_decide_eq_true hc) (nI_ge (b := 8) (by omega) (by decide))
    · have e1 : (8 : Int32) * nI p + nI k = nI (8 * p + k) := by
        have a1 : (8 : Int32) * nI p = nI (8 * p) := pk_mul 8 p
        rw [a1, nI_add]
      repeat (first | refine EV.s rfl rfl rfl ?_ | refine EW.get 0 hD rfl rfl rfl h9 ?_)
      refine EW.iast 8 (8 * p + k) hD rfl rfl rfl (by omega) e1 (by omega) (by decide) ?_
      repeat refine EV.s rfl rfl rfl ?_
      exact ih (k + 1) (by omega) _ ((zf_s Me (Nat.le_add_right _ k)).symm) _ (nI_1 k)
set_option maxHeartbeats 1000000 in
set_option maxRecDepth 100000 in
theorem r_becomes (d M p : Nat) (t : Int32) (fs : List Value) (h2 : fs[2]? = some (.ref (M + 1))) (h3 : fs[3]? = some (.ref (M + 2))) (h4 : fs[4]? = some (.ref (M + 3))) (h5 : fs[5]? = some (.ref (M + 4))) (h6 : fs[6]? = some (.ref (M + 5))) (h7 : fs[7]? = some (.ref (M + 6))) (h8 : fs[8]? = some (.ref (M + 7))) (h9 : fs[9]? = some (.ref (M + 8))) (hp : p < 40) (tp ow ad rt id se W Me : Nat → Int32) (h : e_H) (hD : [M, M + 1, M + 2, M + 3, M + 4, M + 5, M + 6, M + 7, M + 8].Nodup) (hb : bs ≤ M) :
    ev_run tbs bs sa (d + 1) 80 [.ref M, .int (nI p), .int t] (wd [M, M + 1, M + 2, M + 3, M + 4, M + 5, M + 6, M + 7, M + 8] [.inl (5, fs), .inr (.inl (40, tp)), .inr (.inl (40, ow)), .inr (.inl (40, ad)), .inr (.inl (40, rt)), .inr (.inl (40, id)), .inr (.inl (40, se)), .inr (.inl (1280, W)), .inr (.inl (320, Me))] h) none
      (wd [M, M + 1, M + 2, M + 3, M + 4, M + 5, M + 6, M + 7, M + 8] [.inl (5, fs), .inr (.inl (40, upd tp p t)), .inr (.inl (40, upd ow p (-1))), .inr (.inl (40, upd ad p 0)), .inr (.inl (40, upd rt p 0)), .inr (.inl (40, upd id p 0)), .inr (.inl (40, upd se p 0)), .inr (.inl (1280, zf W (32 * p) (32 * p + 32))), .inr (.inl (320, zf Me (8 * p) (8 * p + 8)))] h) := by
  refine RUN.mk (T := t_X5_becomes) rfl (Nat.le_of_ble_eq_true rfl) ?_
  repeat (first | refine EV.s rfl rfl rfl ?_ | refine EW.get 0 hD rfl rfl rfl h2 ?_)
  refine EW.iast 1 p hD rfl rfl rfl (by omega) rfl hp (by decide) ?_
  repeat (first | refine EV.s rfl rfl rfl ?_ | refine EW.get 0 hD rfl rfl rfl h3 ?_)
  refine EW.iast 2 p hD rfl rfl rfl (by omega) rfl hp (by decide) ?_
  repeat (first | refine EV.s rfl rfl rfl ?_ | refine EW.get 0 hD rfl rfl rfl h4 ?_)
  refine EW.iast 3 p hD rfl rfl rfl (by omega) rfl hp (by decide) ?_
  repeat (first | refine EV.s rfl rfl rfl ?_ | refine EW.get 0 hD rfl rfl rfl h5 ?_)
  refine EW.iast 4 p hD rfl rfl rfl (by omega) rfl hp (by decide) ?_
  repeat (first | refine EV.s rfl rfl rfl ?_ | refine EW.get 0 hD rfl rfl rfl h6 ?_)
  refine EW.iast 5 p hD rfl rfl rfl (by omega) rfl hp (by decide) ?_
  repeat (first | refine EV.s rfl rfl rfl ?_ | refine EW.get 0 hD rfl rfl rfl h7 ?_)
  refine EW.iast 6 p hD rfl rfl rfl (by omega) rfl hp (by decide) ?_
  try simp only [setm, List.set_cons_succ, List.set_cons_zero, Option.toList, List.nil_append, List.cons_append]
  repeat refine EV.s rfl rfl rfl ?_
  refine r_bec1 d M p t fs h8 hp _ _ _ _ _ _ W Me hb h hD _ (fun ki => ?_) 32 0 rfl W (zf_0 W _).symm _ rfl
  repeat refine EV.s rfl rfl rfl ?_
  refine r_bec2 d M p t fs h9 hp _ _ _ _ _ _ _ Me hb h hD _ ?_ 8 0 rfl Me (zf_0 Me _).symm _ rfl
  rfl
set_option maxHeartbeats 1000000 in
set_option maxRecDepth 100000 in
theorem r_mea1 (d M e p : Nat) (a : Int32) (fs : List Value) (h9 : fs[9]? = some (.ref (M + 8))) (h18 : fs[18]? = some (.ref (M + 12))) (he : e < 40) (tp rt W Me A H G T I K : Nat → Int32) (hb : bs ≤ M) (h : e_H) (hD : [M, M + 1, M + 4, M + 7, M + 8, M + 12, M + 13, M + 14, M + 15, sa 3, sa 4].Nodup) (E : e_C ⊕ (Option Value × e_H) → Prop)
    (hK : ∀ (ki : Int32), ev_E tbs bs sa (d + 3) t_X5_measured E (35, [some (.ref M), some (.int (nI e)), some (.int (nI p)), some (.int a), some (.int ki)], [], wd [M, M + 1, M + 4, M + 7, M + 8, M + 12, M + 13, M + 14, M + 15, sa 3, sa 4] [.inl (5, fs), .inr (.inl (40, tp)), .inr (.inl (40, rt)), .inr (.inl (1280, W)), .inr (.inl (320, Me)), .inr (.inl (80, va_cpy Me A (8 * e) 0 8)), .inr (.inl (8, H)), .inr (.inl (64, G)), .inr (.inl (8, T)), .inr (.inl (8, I)), .inr (.inl (64, K))] h)) :
    ∀ (c k : Nat), k + c = 8 → ∀ Z, Z = va_cpy Me A (8 * e) 0 k → ∀ (ki : Int32), ki = nI k → ev_E tbs bs sa (d + 3) t_X5_measured E (7, [some (.ref M), some (.int (nI e)), some (.int (nI p)), some (.int a), some (.int ki)], [.int 8, .int ki], wd [M, M + 1, M + 4, M + 7, M + 8, M + 12, M + 13, M + 14, M + 15, sa 3, sa 4] [.inl (5, fs), .inr (.inl (40, tp)), .inr (.inl (40, rt)), .inr (.inl (1280, W)), .inr (.inl (320, Me)), .inr (.inl (80, Z)), .inr (.inl (8, H)), .inr (.inl (64, G)), .inr (.inl (8, T)), .inr (.inl (8, I)), .inr (.inl (64, K))] h) := by
  intro c
  induction c with
  | zero =>
    intro k hkc Z hZ ki hki
    have e : k = 8 := by omega
    subst e; subst hZ; subst hki
    refine EV.icm rfl (fun hc => ?_) (fun hc => ?_)
    · exact hK _
    · exact absurd (by decide : (8 : Int32) ≤ nI 8) (of_decide_eq_false hc)
  | succ c ih =>
    intro k hkc Z hZ ki hki
    subst hki; subst hZ
    refine EV.icm rfl (fun hc => ?_) (fun hc => ?_)
    · exact absurd (of_decide_eq_true hc) (nI_ge (b := 8) (by omega) (by decide))
    · have e1 : (8 : Int32) * nI e + nI k = nI (8 * e + k) := by
        have a1 : (8 : Int32) * nI e = nI (8 * e) := pk_mul 8 e
        rw [a1, nI_add]
      repeat (first | refine EV.s rfl rfl rfl ?_ | refine EW.get 0 hD rfl rfl rfl h9 ?_ | refine EW.get 0 hD rfl rfl rfl h18 ?_)
      refine EW.iald 4 (8 * e + k) hD rfl rfl rfl e1 (by omega) (by decide) ?_
      refine EW.iast 5 k hD rfl rfl rfl (by omega) rfl (by omega) (by decide) ?_
      repeat refine EV.s rfl rfl rfl ?_
      exact ih (k + 1) (by omega) _ (by rw [cpyS, Nat.zero_add]) _ (nI_1 k)
set_option maxHeartbeats 1000000 in
set_option maxRecDepth 100000 in
theorem r_mea2 (d M e p : Nat) (a : Int32) (fs : List Value) (h8 : fs[8]? = some (.ref (M + 7))) (h18 : fs[18]? = some (.ref (M + 12))) (hp : p < 40) (tp rt W Me A H G T I K : Nat → Int32) (hb : bs ≤ M) (h : e_H) (hD : [M, M + 1, M + 4, M + 7, M + 8, M + 12, M + 13, M + 14, M + 15, sa 3, sa 4].Nodup) (E : e_C ⊕ (Option Value × e_H) → Prop)
    (hK : ∀ (ki : Int32), ev_E tbs bs sa (d + 3) t_X5_measured E (115, [some (.ref M), some (.int (nI e)), some (.int (nI p)), some (.int a), some (.int ki)], [], wd [M, M + 1, M + 4, M + 7, M + 8, M + 12, M + 13, M + 14, M + 15, sa 3, sa 4] [.inl (5, fs), .inr (.inl (40, tp)), .inr (.inl (40, rt)), .inr (.inl (1280, W)), .inr (.inl (320, Me)), .inr (.inl (80, va_cpy W A (32 * p) 12 32)), .inr (.inl (8, H)), .inr (.inl (64, G)), .inr (.inl (8, T)), .inr (.inl (8, I)), .inr (.inl (64, K))] h)) :
    ∀ (c k : Nat), k + c = 32 → ∀ Z, Z = va_cpy W A (32 * p) 12 k → ∀ (ki : Int32), ki = nI k → ev_E tbs bs sa (d + 3) t_X5_measured E (84, [some (.ref M), some (.int (nI e)), some (.int (nI p)), some (.int a), some (.int ki)], [.int 32, .int ki], wd [M, M + 1, M + 4, M + 7, M + 8, M + 12, M + 13, M + 14, M + 15, sa 3, sa 4] [.inl (5, fs), .inr (.inl (40, tp)), .inr (.inl (40, rt)), .inr (.inl (1280, W)), .inr (.inl (320, Me)), .inr (.inl (80, Z)), .inr (.inl (8, H)), .inr (.inl (64, G)), .inr (.inl (8, T)), .inr (.inl (8, I)), .inr (.inl (64, K))] h) := by
  intro c
  induction c with
  | zero =>
    intro k hkc Z hZ ki hki
    have e : k = 32 := by omega
    subst e; subst hZ; subst hki
    refine EV.icm rfl (fun hc => ?_) (fun hc => ?_)
    · exact hK _
    · exact absurd (by decide : (32 : Int32) ≤ nI 32) (of_decide_eq_false hc)
  | succ c ih =>
    intro k hkc Z hZ ki hki
    subst hki; subst hZ
    refine EV.icm rfl (fun hc => ?_) (fun hc => ?_)
    · exact absurd (of_decide_eq_true hc) (nI_ge (b := 32) (by omega) (by decide))
    · have e1 : (32 : Int32) * nI p + nI k = nI (32 * p + k) := by
        have a1 : (32 : Int32) * nI p = nI (32 * p) := pk_mul 32 p
        rw [a1, nI_add]
      repeat (first | refine EV.s rfl rfl rfl ?_ | refine EW.get 0 hD rfl rfl rfl h8 ?_ | refine EW.get 0 hD rfl rfl rfl h18 ?_)
      refine EW.iald 3 (32 * p + k) hD rfl rfl rfl e1 (by omega) (by decide) ?_
      refine EW.iast 5 (12 + k) hD rfl rfl rfl (by omega) (nI_add 12 k) (by omega) (by decide) ?_
      repeat refine EV.s rfl rfl rfl ?_
      exact ih (k + 1) (by omega) _ ((cpyS W A (32 * p) 12 k).symm) _ (nI_1 k)
set_option maxHeartbeats 1000000 in
set_option maxRecDepth 100000 in
theorem r_mea3 (d M e p : Nat) (a : Int32) (fs : List Value) (h9 : fs[9]? = some (.ref (M + 8))) (h19 : fs[19]? = some (.ref (M + 13))) (he : e < 40) (tp rt W Me A H G T I K : Nat → Int32) (hb : bs ≤ M) (h : e_H) (hD : [M, M + 1, M + 4, M + 7, M + 8, M + 12, M + 13, M + 14, M + 15, sa 3, sa 4].Nodup) (E : e_C ⊕ (Option Value × e_H) → Prop)
    (hK : E (.inr (none, wd [M, M + 1, M + 4, M + 7, M + 8, M + 12, M + 13, M + 14, M + 15, sa 3, sa 4] [.inl (5, fs), .inr (.inl (40, tp)), .inr (.inl (40, rt)), .inr (.inl (1280, W)), .inr (.inl (320, va_cpy H Me 0 (8 * e) 8)), .inr (.inl (80, A)), .inr (.inl (8, H)), .inr (.inl (64, G)), .inr (.inl (8, T)), .inr (.inl (8, I)), .inr (.inl (64, K))] h))) :
    ∀ (c k : Nat), k + c = 8 → ∀ Z, Z = va_cpy H Me 0 (8 * e) k → ∀ (ki : Int32), ki = nI k → ev_E tbs bs sa (d + 3) t_X5_measured E (128, [some (.ref M), some (.int (nI e)), some (.int (nI p)), some (.int a), some (.int ki)], [.int 8, .int ki], wd [M, M + 1, M + 4, M + 7, M + 8, M + 12, M + 13, M + 14, M + 15, sa 3, sa 4] [.inl (5, fs), .inr (.inl (40, tp)), .inr (.inl (40, rt)), .inr (.inl (1280, W)), .inr (.inl (320, Z)), .inr (.inl (80, A)), .inr (.inl (8, H)), .inr (.inl (64, G)), .inr (.inl (8, T)), .inr (.inl (8, I)), .inr (.inl (64, K))] h) := by
  intro c
  induction c with
  | zero =>
    intro k hkc Z hZ ki hki
    have e : k = 8 := by omega
    subst e; subst hZ; subst hki
    refine EV.icm rfl (fun hc => ?_) (fun hc => ?_)
    · refine EV.ret rfl ?_
      exact hK
    · exact absurd (by decide : (8 : Int32) ≤ nI 8) (of_decide_eq_false hc)
  | succ c ih =>
    intro k hkc Z hZ ki hki
    subst hki; subst hZ
    refine EV.icm rfl (fun hc => ?_) (fun hc => ?_)
    · exact absurd (of_decide_eq_true hc) (nI_ge (b := 8) (by omega) (by decide))
    · have e1 : (8 : Int32) * nI e + nI k = nI (8 * e + k) := by
        have a1 : (8 : Int32) * nI e = nI (8 * e) := pk_mul 8 e
        rw [a1, nI_add]
      repeat (first | refine EV.s rfl rfl rfl ?_ | refine EW.get 0 hD rfl rfl rfl h9 ?_ | refine EW.get 0 hD rfl rfl rfl h19 ?_)
      refine EW.iald 6 k hD rfl rfl rfl rfl (by omega) (by decide) ?_
      refine EW.iast 4 (8 * e + k) hD rfl rfl rfl (by omega) e1 (by omega) (by decide) ?_
      repeat refine EV.s rfl rfl rfl ?_
      exact ih (k + 1) (by omega) _ ((cpy_s H Me (8 * e) k).symm) _ (nI_1 k)
set_option maxHeartbeats 1000000 in
set_option maxRecDepth 100000 in
theorem r_measured (d M e p : Nat) (a : Int32) (fs : List Value) (h2 : fs[2]? = some (.ref (M + 1))) (h5 : fs[5]? = some (.ref (M + 4))) (h8 : fs[8]? = some (.ref (M + 7))) (h9 : fs[9]? = some (.ref (M + 8))) (h18 : fs[18]? = some (.ref (M + 12))) (h19 : fs[19]? = some (.ref (M + 13))) (h20 : fs[20]? = some (.ref (M + 14))) (h21 : fs[21]? = some (.ref (M + 15))) (he : e < 40) (hp : p < 40) (tp rt W Me A H G T I K : Nat → Int32) (hD : [M, M + 1, M + 4, M + 7, M + 8, M + 12, M + 13, M + 14, M + 15, sa 3, sa 4].Nodup) (hb : bs ≤ M) :
    CT bs sa (d + 4) 84 [.ref M, .int (nI e), .int (nI p), .int a] [M, M + 1, M + 4, M + 7, M + 8, M + 12, M + 13, M + 14, M + 15, sa 3, sa 4] [.inl (5, fs), .inr (.inl (40, tp)), .inr (.inl (40, rt)), .inr (.inl (1280, W)), .inr (.inl (320, Me)), .inr (.inl (80, A)), .inr (.inl (8, H)), .inr (.inl (64, G)), .inr (.inl (8, T)), .inr (.inl (8, I)), .inr (.inl (64, K))]
      (fun rv o => rv = none ∧ ∃ Me' A' H' G' T', o = [.inl (5, fs), .inr (.inl (40, tp)), .inr (.inl (40, rt)), .inr (.inl (1280, W)), .inr (.inl (320, Me')), .inr (.inl (80, A')), .inr (.inl (8, H')), .inr (.inl (64, G')), .inr (.inl (8, T')), .inr (.inl (8, I)), .inr (.inl (64, K))] ∧ Me' = va_cpy (mea K I (fun j => Me (8 * e + j)) (tp p) a (rt p) (fun j => W (32 * p + j))) Me 0 (8 * e) 8) := by
  refine CT.mk (T := t_X5_measured) rfl (Nat.le_of_ble_eq_true rfl) (fun h => ?_)
  repeat refine EV.s rfl rfl rfl ?_
  refine r_mea1 d M e p a fs h9 h18 he tp rt W Me A H G T I K hb h hD _ (fun ki => ?_) 8 0 rfl A (cpy0 _ _ _ _).symm _ rfl
  repeat (first | refine EV.s rfl rfl rfl ?_ | refine EW.get 0 hD rfl rfl rfl h2 ?_ | refine EW.get 0 hD rfl rfl rfl h18 ?_)
  refine EW.iald 1 p hD rfl rfl rfl rfl hp (by decide) ?_
  refine EW.iast 5 8 hD rfl rfl rfl (by omega) rfl (by decide) (by decide) ?_
  repeat (first | refine EV.s rfl rfl rfl ?_ | refine EW.get 0 hD rfl rfl rfl h18 ?_)
  refine EW.iast 5 9 hD rfl rfl rfl (by omega) rfl (by decide) (by decide) ?_
  repeat (first | refine EV.s rfl rfl rfl ?_ | refine EW.get 0 hD rfl rfl rfl h5 ?_ | refine EW.get 0 hD rfl rfl rfl h18 ?_)
  refine EW.iald 2 p hD rfl rfl rfl rfl hp (by decide) ?_
  refine EW.iast 5 10 hD rfl rfl rfl (by omega) rfl (by decide) (by decide) ?_
  repeat (first | refine EV.s rfl rfl rfl ?_ | refine EW.get 0 hD rfl rfl rfl h18 ?_)
  refine EW.iast 5 11 hD rfl rfl rfl (by omega) rfl (by decide) (by decide) ?_
  try simp only [setm, List.set_cons_succ, List.set_cons_zero, Option.toList, List.nil_append, List.cons_append]
  repeat refine EV.s rfl rfl rfl ?_
  refine r_mea2 d M e p a fs h8 h18 hp tp rt W Me (upd (upd (upd (upd (va_cpy Me A (8 * e) 0 8) 8 (tp p)) 9 a) 10 (rt p)) 11 0) H G T I K hb h hD _ (fun ki => ?_) 32 0 rfl _ (cpy0 _ _ _ _).symm _ rfl
  repeat refine EV.s rfl rfl rfl ?_
  refine EW.cvE 0 [0, 5, 6, 7, 8, 9, 10] hD (r_digest d M 44 (by decide) fs h18 h19 h20 h21 _ H G T I K (nd_sub hD [0, 5, 6, 7, 8, 9, 10] (by decide) rfl) hb) rfl rfl rfl rfl rfl (Nat.le_of_ble_eq_true rfl) (Nat.le_of_ble_eq_true rfl) rfl rfl rfl ?_
  rintro rv os2 ⟨rfl, H1, G1, T1, rfl, hH1⟩
  try simp only [setm, List.set_cons_succ, List.set_cons_zero, Option.toList, List.nil_append, List.cons_append]
  repeat refine EV.s rfl rfl rfl ?_
  refine r_mea3 d M e p a fs h9 h19 he tp rt W Me _ H1 G1 T1 I K hb h hD _ ?_ 8 0 rfl _ (cpy_0 _ _ _).symm _ rfl
  refine ⟨_, _, rfl, _, ⟨⟨rfl, _, _, _, _, _, rfl, cpy_ext (fun j hj => ?_)⟩, rfl⟩, rfl⟩
  rw [hH1 j hj]
  refine sha_congr (fun _ _ => rfl) (fun _ _ => rfl) (fun i hi => ?_) hj
  simp only [va_cpy, upd]
  by_cases q8 : i < 8
  · rw [if_neg (by omega), if_neg (by omega), if_neg (by omega), if_neg (by omega), if_neg (by omega), if_pos (by omega), if_pos q8]; congr 1
  · rw [if_neg q8]
    by_cases q12 : i < 12
    · rw [if_neg (by omega)]
      have : i = 8 ∨ i = 9 ∨ i = 10 ∨ i = 11 := by omega
      rcases this with rfl | rfl | rfl | rfl <;> simp
    · rw [if_pos (by omega), if_neg (by omega), if_neg (by omega), if_neg (by omega), if_neg (by omega)]
end MME
