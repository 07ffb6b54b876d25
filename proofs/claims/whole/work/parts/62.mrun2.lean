/-- n steps at most: how it ended (0, 1, 2, 3), words, registers, pc, steps made, what it gave, where it faulted -/
def rnn (P : Nat) (F ms : Nat → Nat → Int32) (e : Nat) : Nat → (Nat → Nat → Int32) → (Nat → Int32) → Int32 → Int32 → Int32 → Int32 → Int32 × (Nat → Nat → Int32) × (Nat → Int32) × Int32 × Int32 × Int32 × Int32
  | 0, w, r, pc, m, gv, ft => (2, w, r, pc, m, gv, ft)
  | n + 1, w, r, pc, m, gv, ft => match stp P F ms e w r pc gv ft with
    | (hw, w', r', pc', gv', ft') => if hw = -1 then rnn P F ms e n w' r' pc' (m + 1) gv' ft' else (hw, w', r', pc', if hw = 0 then m + 1 else m, gv', ft')
/-- a THREAD's words behind its run -/
def rnk (w : Nat → Nat → Int32) (t : Nat) (hw : Int32) (r : Nat → Int32) (K : Nat) : Nat → Nat → Int32 := upp w t (fun i => if 3 ≤ i ∧ i < 3 + K then (if hw = 0 then 0 else r (i - 3)) else w t i)
theorem rnk_0 (w : Nat → Nat → Int32) (t : Nat) (hw : Int32) (r : Nat → Int32) : rnk w t hw r 0 = w := by
  funext q i
  simp only [rnk, upp]
  by_cases e : q = t
  · rw [if_pos e, if_neg (by omega), e]
  · rw [if_neg e]
theorem rnk_s (w : Nat → Nat → Int32) (t : Nat) (hw : Int32) (r : Nat → Int32) (K : Nat) : upp (rnk w t hw r K) t (upd (rnk w t hw r K t) (3 + K) (if hw = 0 then 0 else r K)) = rnk w t hw r (K + 1) := by
  funext q i
  simp only [rnk, upp, if_true]
  by_cases e : q = t
  · rw [if_pos e, if_pos e]
    show (if i = 3 + K then (if hw = 0 then 0 else r K) else (if 3 ≤ i ∧ i < 3 + K then (if hw = 0 then 0 else r (i - 3)) else w t i)) = _
    by_cases e2 : i = 3 + K
    · rw [if_pos e2, if_pos (c := 3 ≤ i ∧ i < 3 + (K + 1)) (by omega), e2, Nat.add_sub_cancel_left]
    · rw [if_neg e2]
      by_cases e3 : 3 ≤ i ∧ i < 3 + K
      · rw [if_pos e3, if_pos (c := 3 ≤ i ∧ i < 3 + (K + 1)) (by omega)]
      · rw [if_neg e3, if_neg (c := 3 ≤ i ∧ i < 3 + (K + 1)) (by omega)]
  · rw [if_neg e, if_neg e, if_neg e]
def rnf (w : Nat → Nat → Int32) (t : Nat) (hw pc : Int32) (r : Nat → Int32) : Nat → Nat → Int32 := rnk (upp w t (upd (upd (w t) 1 (if hw = 0 then 0 else 1)) 2 (if hw = 0 then 0 else pc))) t hw r 8
theorem upp2 (w : Nat → Nat → Int32) (t : Nat) (f g : Nat → Int32) : upp (upp w t f) t g = upp w t g := by
  funext q i
  simp only [upp]
  by_cases e : q = t
  · rw [if_pos e, if_pos e]
  · rw [if_neg e, if_neg e, if_neg e]
theorem upp_at (w : Nat → Nat → Int32) (t : Nat) (f : Nat → Int32) : upp w t f t = f := if_pos rfl
theorem upp_ne (w : Nat → Nat → Int32) {t q : Nat} (f : Nat → Int32) (h : q ≠ t) : upp w t f q = w q := if_neg h
section MRN
variable {bs : Nat} {sa : Nat → Nat}
set_option maxHeartbeats 2000000 in
set_option maxRecDepth 100000 in
theorem r_mrun_loop (d M P : Nat) (th c0 c1 c2 c3 : Int32) (lg : Int64) (hP : P ≤ 40) (F ms : Nat → Nat → Int32) (e t N : Nat) (he : e < 40) (ht : t < 40) (hN : N < 2 ^ 31) (hF : F 1 t = nI e) (h : e_H) (hD : (mra M).Nodup) (hbs : bs ≤ M) (hw : Int32) (w' : Nat → Nat → Int32) (r' : Nat → Int32) (pc' mk' gv' ft' : Int32) (E : e_C ⊕ (Option Value × e_H) → Prop)
    (hK : hw ≠ -1 → ev_E tbs bs sa (d + 3) t_X5_run E (57, [some (.ref M), some (.int (nI t)), some (.int (nI N)), none, none], [], wd (mra M) (mro M P th c0 c1 c2 c3 lg pc' mk' hw gv' ft' F w' ms r') h)) :
    ∀ (n k : Nat), k + n = N → ∀ w r pc gv ft, rnn P F ms e n w r pc (nI k) gv ft = (hw, w', r', pc', mk', gv', ft') → ev_E tbs bs sa (d + 3) t_X5_run E (21, [some (.ref M), some (.int (nI t)), some (.int (nI N)), none, none], [.ref M], wd (mra M) (mro M P th c0 c1 c2 c3 lg pc (nI k) (-1) gv ft F w ms r) h) := by
  intro n
  induction n with
  | zero =>
    intro k hk w r pc gv ft hr
    have e : k = N := by omega
    subst e
    rw [rnn] at hr
    cases hr
    repeat (first | refine EV.s rfl rfl rfl ?_ | refine EW.get 0 hD rfl rfl rfl rfl ?_)
    refine EV.icm rfl (fun hb => ?_) (fun hb => ?_)
    · exact absurd hb (by decide)
    repeat (first | refine EV.s rfl rfl rfl ?_ | refine EW.get 0 hD rfl rfl rfl rfl ?_)
    refine EV.icm rfl (fun hb => ?_) (fun hb => ?_)
    · exact absurd rfl (of_decide_eq_true hb)
    repeat refine EV.s rfl rfl rfl ?_
    refine EW.putY 0 (mro M P th c0 c1 c2 c3 lg pc' (nI k) 2 gv' ft' F w' ms r') hD rfl rfl rfl hbs (Nat.le_of_ble_eq_true rfl) rfl rfl ?_
    repeat (first | refine EV.s rfl rfl rfl ?_ | refine EW.get 0 hD rfl rfl rfl rfl ?_)
    refine EV.icm rfl (fun hb => ?_) (fun hb => ?_)
    · exact hK (by decide)
    · exact absurd hb (by decide)
  | succ n ih =>
    intro k hk w r pc gv ft hr
    rw [rnn] at hr
    rcases hs : stp P F ms e w r pc gv ft with ⟨hw1, w1, r1, pc1, gv1, ft1⟩
    rw [hs] at hr
    simp only [] at hr
    repeat (first | refine EV.s rfl rfl rfl ?_ | refine EW.get 0 hD rfl rfl rfl rfl ?_)
    refine EV.icm rfl (fun hb => ?_) (fun hb => ?_)
    · exact absurd hb (by decide)
    repeat (first | refine EV.s rfl rfl rfl ?_ | refine EW.get 0 hD rfl rfl rfl rfl ?_)
    refine EV.icm rfl (fun hb => ?_) (fun hb => ?_)
    rotate_left
    · exact absurd (of_decide_eq_false hb) (fun z => z (fun q => by have := (nI_eq (by omega) (by omega)).mp q; omega))
    repeat (first | refine EV.s rfl rfl rfl ?_ | refine EW.get 0 hD rfl rfl rfl rfl ?_)
    refine EW.iald 2 t hD rfl rfl rfl rfl ht (by decide) ?_
    rw [hF]
    refine EW.cvY 0 [0, 1, 2, 3, 4, 5, 6, 7] (mro M P th c0 c1 c2 c3 lg pc1 (if hw1 = -1 ∨ hw1 = 0 then nI k + 1 else nI k) hw1 gv1 ft1 F w1 ms r1) hD (fun h0 => r_mstep d M P th c0 c1 c2 c3 lg pc (nI k) gv ft hP F w ms r e he h0 hD hbs hw1 w1 r1 pc1 gv1 ft1 hs) rfl rfl rfl rfl rfl (Nat.le_of_ble_eq_true rfl) (Nat.le_of_ble_eq_true rfl) rfl rfl rfl rfl rfl ?_
    by_cases c : hw1 = -1
    · subst c
      rw [if_pos rfl] at hr
      rw [nI_1] at hr
      rw [if_pos (Or.inl rfl), nI_1]
      repeat refine EV.s rfl rfl rfl ?_
      exact ih (k + 1) (by omega) w1 r1 pc1 gv1 ft1 hr
    · rw [if_neg c] at hr
      cases hr
      repeat (first | refine EV.s rfl rfl rfl ?_ | refine EW.get 0 hD rfl rfl rfl rfl ?_)
      refine EV.icm rfl (fun hb => ?_) (fun hb => ?_)
      · have hk2 := hK c
        have e2 : (if hw = -1 ∨ hw = 0 then nI k + 1 else nI k) = if hw = 0 then nI k + 1 else nI k := by
          by_cases z : hw = 0
          · rw [if_pos (Or.inr z), if_pos z]
          · rw [if_neg (by intro y; rcases y with y | y; exact c y; exact z y), if_neg z]
        rw [e2]
        exact hk2
      · exact absurd (of_decide_eq_false hb) (fun z => z c)
set_option maxHeartbeats 1000000 in
set_option maxRecDepth 100000 in
theorem r_mrun_w (d M P : Nat) (th c0 c1 c2 c3 : Int32) (lg : Int64) (pc mk en gv ft : Int32) (F w ms : Nat → Nat → Int32) (r : Nat → Int32) (t : Nat) (ht : t < 40) (hbs : bs ≤ M) (l2 : Int32) (h : e_H) (hD : (mra M).Nodup) (E : e_C ⊕ (Option Value × e_H) → Prop)
    (hK : ∀ (ki : Int32), ev_E tbs bs sa (d) t_X5_run E (150, [some (.ref M), some (.int (nI t)), some (.int l2), some (.int (nI (32 * t))), some (.int ki)], [], wd (mra M) (mro M P th c0 c1 c2 c3 lg pc mk en gv ft F (rnk w t en r 8) ms r) h)) :
    ∀ (c k : Nat), k + c = 8 → ∀ Z, Z = rnk w t en r k → ∀ (ki : Int32), ki = nI k → ev_E tbs bs sa (d) t_X5_run E (112, [some (.ref M), some (.int (nI t)), some (.int l2), some (.int (nI (32 * t))), some (.int ki)], [.int 8, .int ki], wd (mra M) (mro M P th c0 c1 c2 c3 lg pc mk en gv ft F Z ms r) h) := by
  intro c
  induction c with
  | zero =>
    intro k hkc Z hZ ki hki
    have e : k = 8 := by omega
    subst e; subst hZ; subst hki
    refine EV.icm rfl (fun hc => ?_) (fun hc => ?_)
    · exact hK _
    · exact absurd (by decide : (8 : Int32) ≤ nI 8) (of_decide_eq_false hc)
  | succ c ih =>
    intro k hkc Z hZ ki hki
    subst hki; subst hZ
    refine EV.icm rfl (fun hc => ?_) (fun hc => ?_)
    · exact absurd (of_decide_eq_true hc) (nI_ge (b := 8) (by omega) (by decide))
    · have e1 : nI (32 * t) + 3 + nI k = nI (32 * t + (3 + k)) := by
        have a1 : nI (32 * t) + 3 = nI (32 * t + 3) := nI_add _ 3
        rw [a1, nI_add]; congr 1; omega
      have fin : ∀ x, x = (if en = 0 then 0 else r k) → ev_E tbs bs sa d t_X5_run E (143, [some (.ref M), some (.int (nI t)), some (.int l2), some (.int (nI (32 * t))), some (.int (nI k))], [.int x, .int (nI (32 * t) + 3 + nI k), .ref (M + 7)], wd (mra M) (mro M P th c0 c1 c2 c3 lg pc mk en gv ft F (rnk w t en r k) ms r) h) := by
        intro x hx
        subst hx
        refine EW.iastY 5 (32 * t + (3 + k)) (mro M P th c0 c1 c2 c3 lg pc mk en gv ft F (rnk w t en r (k + 1)) ms r) hD rfl rfl rfl (by omega) e1 (by omega) (by decide) (by rw [fl32_up _ t _ (by omega), rnk_s]; rfl) ?_
        repeat refine EV.s rfl rfl rfl ?_
        exact ih (k + 1) (by omega) _ (rfl) _ (nI_1 k)
      repeat (first | refine EV.s rfl rfl rfl ?_ | refine EW.get 0 hD rfl rfl rfl rfl ?_)
      refine EV.ifc rfl (fun hb => ?_) (fun hb => ?_)
      · have hb : en ≠ 0 := of_decide_eq_true hb
        repeat (first | refine EV.s rfl rfl rfl ?_ | refine EW.get 0 hD rfl rfl rfl rfl ?_)
        refine EW.iald 7 k hD rfl rfl rfl rfl (by omega) (by decide) ?_
        exact fin _ (by rw [if_neg hb])
      · have hb : en = 0 := Decidable.of_not_not (of_decide_eq_false hb)
        repeat refine EV.s rfl rfl rfl ?_
        exact fin _ (by rw [if_pos hb])
set_option maxHeartbeats 2000000 in
set_option maxRecDepth 100000 in
theorem r_mrun (d M P : Nat) (th c0 c1 c2 c3 : Int32) (lg : Int64) (pc mk en gv ft : Int32) (hP : P ≤ 40) (F w ms : Nat → Nat → Int32) (r : Nat → Int32) (e t N : Nat) (he : e < 40) (ht : t < 40) (hN : N < 2 ^ 31) (hF : F 1 t = nI e) (h : e_H) (hD : (mra M).Nodup) (hbs : bs ≤ M) (hw : Int32) (w' : Nat → Nat → Int32) (r' : Nat → Int32) (pc' mk' gv' ft' : Int32) (hr : rnn P F ms e N w r pc 0 0 (-1) = (hw, w', r', pc', mk', gv', ft')) :
    ev_run tbs bs sa (d + 4) 94 [.ref M, .int (nI t), .int (nI N)] (wd (mra M) (mro M P th c0 c1 c2 c3 lg pc mk en gv ft F w ms r) h) (some (.int hw)) (wd (mra M) (mro M P th c0 c1 c2 c3 lg pc' mk' hw gv' ft' F (rnf w' t hw pc' r') ms r') h) := by
  have em : (32 : Int32) * nI t = nI (32 * t) := pk_mul 32 t
  have e1 : nI (32 * t) + 1 = nI (32 * t + 1) := nI_add _ 1
  have e2 : nI (32 * t) + 2 = nI (32 * t + 2) := nI_add _ 2
  refine RUN.mk (T := t_X5_run) rfl (Nat.le_of_ble_eq_true rfl) ?_
  repeat refine EV.s rfl rfl rfl ?_
  refine EW.putY 0 (mro M P th c0 c1 c2 c3 lg pc 0 en gv ft F w ms r) hD rfl rfl rfl hbs (Nat.le_of_ble_eq_true rfl) rfl rfl ?_
  repeat refine EV.s rfl rfl rfl ?_
  refine EW.putY 0 (mro M P th c0 c1 c2 c3 lg pc 0 en 0 ft F w ms r) hD rfl rfl rfl hbs (Nat.le_of_ble_eq_true rfl) rfl rfl ?_
  repeat refine EV.s rfl rfl rfl ?_
  refine EW.putY 0 (mro M P th c0 c1 c2 c3 lg pc 0 en 0 (-1) F w ms r) hD rfl rfl rfl hbs (Nat.le_of_ble_eq_true rfl) rfl rfl ?_
  repeat refine EV.s rfl rfl rfl ?_
  refine EW.putY 0 (mro M P th c0 c1 c2 c3 lg pc 0 (-1) 0 (-1) F w ms r) hD rfl rfl rfl hbs (Nat.le_of_ble_eq_true rfl) rfl rfl ?_
  repeat refine EV.s rfl rfl rfl ?_
  refine r_mrun_loop d M P th c0 c1 c2 c3 lg hP F ms e t N he ht hN hF h hD hbs hw w' r' pc' mk' gv' ft' _ (fun _ => ?_) N 0 (by omega) w r pc 0 (-1) hr
  repeat (first | refine EV.s rfl rfl rfl ?_ | refine EW.get 0 hD rfl rfl rfl rfl ?_)
  simp only [List.set_cons_succ, List.set_cons_zero, em]
  have go2 : ∀ l4, ∀ x, x = (if hw = 0 then 0 else pc') → ev_E tbs bs sa (d + 3) t_X5_run (fun y => y = .inr (some (.int hw), wd (mra M) (mro M P th c0 c1 c2 c3 lg pc' mk' hw gv' ft' F (rnf w' t hw pc' r') ms r') h)) (104, [some (.ref M), some (.int (nI t)), some (.int (nI N)), some (.int (nI (32 * t))), l4], [.int x, .int (nI (32 * t) + 2), .ref (M + 7)], wd (mra M) (mro M P th c0 c1 c2 c3 lg pc' mk' hw gv' ft' F (upp w' t (upd (w' t) 1 (if hw = 0 then 0 else 1))) ms r') h) := by
    intro l4 x hx
    subst hx
    refine EW.iastY 5 (32 * t + 2) (mro M P th c0 c1 c2 c3 lg pc' mk' hw gv' ft' F (upp w' t (upd (upd (w' t) 1 (if hw = 0 then 0 else 1)) 2 (if hw = 0 then 0 else pc'))) ms r') hD rfl rfl rfl (by omega) e2 (by omega) (by decide) (by rw [fl32_up _ t _ (by omega), upp2, upp_at]; rfl) ?_
    repeat refine EV.s rfl rfl rfl ?_
    refine r_mrun_w (d + 3) M P th c0 c1 c2 c3 lg pc' mk' hw gv' ft' F (upp w' t (upd (upd (w' t) 1 (if hw = 0 then 0 else 1)) 2 (if hw = 0 then 0 else pc'))) ms r' t ht hbs (nI N) h hD _ (fun ki => ?_) 8 0 rfl _ (rnk_0 _ _ _ _).symm _ rfl
    repeat (first | refine EV.s rfl rfl rfl ?_ | refine EW.get 0 hD rfl rfl rfl rfl ?_)
    refine EV.ri rfl rfl ?_
    rfl
  have go1 : ∀ l4, ∀ x, x = (if hw = 0 then 0 else 1) → ev_E tbs bs sa (d + 3) t_X5_run (fun y => y = .inr (some (.int hw), wd (mra M) (mro M P th c0 c1 c2 c3 lg pc' mk' hw gv' ft' F (rnf w' t hw pc' r') ms r') h)) (81, [some (.ref M), some (.int (nI t)), some (.int (nI N)), some (.int (nI (32 * t))), l4], [.int x, .int (nI (32 * t) + 1), .ref (M + 7)], wd (mra M) (mro M P th c0 c1 c2 c3 lg pc' mk' hw gv' ft' F w' ms r') h) := by
    intro l4 x hx
    subst hx
    refine EW.iastY 5 (32 * t + 1) (mro M P th c0 c1 c2 c3 lg pc' mk' hw gv' ft' F (upp w' t (upd (w' t) 1 (if hw = 0 then 0 else 1))) ms r') hD rfl rfl rfl (by omega) e1 (by omega) (by decide) (by rw [fl32_up _ t _ (by omega)]; rfl) ?_
    repeat (first | refine EV.s rfl rfl rfl ?_ | refine EW.get 0 hD rfl rfl rfl rfl ?_)
    refine EV.ifc rfl (fun hb => ?_) (fun hb => ?_)
    · have hb : hw ≠ 0 := of_decide_eq_true hb
      repeat (first | refine EV.s rfl rfl rfl ?_ | refine EW.get 0 hD rfl rfl rfl rfl ?_)
      exact go2 _ _ (by rw [if_neg hb])
    · have hb : hw = 0 := Decidable.of_not_not (of_decide_eq_false hb)
      repeat refine EV.s rfl rfl rfl ?_
      exact go2 _ _ (by rw [if_pos hb])
  refine EV.ifc rfl (fun hb => ?_) (fun hb => ?_)
  · have hb : hw ≠ 0 := of_decide_eq_true hb
    repeat refine EV.s rfl rfl rfl ?_
    exact go1 _ _ (by rw [if_neg hb])
  · have hb : hw = 0 := Decidable.of_not_not (of_decide_eq_false hb)
    repeat refine EV.s rfl rfl rfl ?_
    exact go1 _ _ (by rw [if_pos hb])
end MRN
