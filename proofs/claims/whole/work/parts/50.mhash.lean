/-! The Model's digest. -/
/-- wide, k places of it made -/
def mwi (M G : Nat → Int32) (fr : Nat) : Nat → Nat → Int32
  | 0 => G
  | k + 1 => upd (mwi M G fr k) k (if k < 16 then M (fr + k) else mwi M G fr k (k - 16) + sg0 (mwi M G fr k (k - 15)) + mwi M G fr k (k - 7) + sg1 (mwi M G fr k (k - 2)))
theorem mwi_eq (M G : Nat → Int32) (fr : Nat) : ∀ k j, j < k → mwi M G fr k j = swi (fun j => M (fr + j)) k j := by
  intro k
  induction k with
  | zero => intro j hj; omega
  | succ k ih =>
    intro j hj
    simp only [mwi, swi, upd]
    by_cases e : j = k
    · subst e
      rw [if_pos rfl]
      by_cases q : 16 ≤ j
      · rw [if_neg (by omega), if_pos q, ih _ (by omega), ih _ (by omega), ih _ (by omega), ih _ (by omega)]
        simp only [upd, if_pos]
      · rw [if_pos (by omega), if_neg q, swi_lo _ j (by omega)]
    · rw [if_neg e]
      by_cases q : 16 ≤ k
      · rw [if_pos q]; simp only [upd]; rw [if_neg e]; exact ih j (by omega)
      · rw [if_neg q]; exact ih j (by omega)
def shf (T : Nat → Int32) (i : Nat) : Nat → Int32 := fun j => if i < j ∧ j ≤ 7 then T (j - 1) else T j
theorem shf_7 (T : Nat → Int32) : shf T 7 = T := by
  funext j; simp only [shf]; rw [if_neg (by omega)]
theorem shf_s (T : Nat → Int32) {i : Nat} (hi : i < 7) : shf T i = upd (shf T (i + 1)) (i + 1) (shf T (i + 1) i) := by
  funext j
  simp only [shf, upd]
  by_cases e : j = i + 1
  · subst e; rw [if_pos (by omega), if_pos rfl, if_neg (by omega)]; rfl
  · rw [if_neg e]
    by_cases q : i < j ∧ j ≤ 7
    · rw [if_pos q, if_pos (by omega)]
    · rw [if_neg q, if_neg (by omega)]
section MHS
variable {bs : Nat} {sa : Nat → Nat}
theorem r_right (d : Nat) (x b : Int32) (h : e_H) : ev_run tbs bs sa (d + 1) 71 [.int x, .int b] h (some (.int (rr x b))) h := by
  refine RUN.mk (T := t_X5_right) rfl (Nat.le_of_ble_eq_true rfl) ?_
  repeat refine EV.s rfl rfl rfl ?_
  refine EV.ri rfl rfl ?_
  rfl
set_option maxHeartbeats 1000000 in
set_option maxRecDepth 100000 in
theorem r_mb1 (d : Nat) (M fr : Nat) (fs : List Value) (h18 : fs[18]? = some (.ref (M + 12))) (h20 : fs[20]? = some (.ref (M + 14))) (hfr : fr + 16 ≤ 80) (A H G T K : Nat → Int32) (h : e_H) (hD : [M, M + 12, M + 13, M + 14, M + 15, sa 4].Nodup) (hb : bs ≤ M) (E : e_C ⊕ (Option Value × e_H) → Prop)
    (hK : ∀ ki l3 l4, ev_E tbs bs sa (d + 1) t_X5_block E (122, [some (.ref M), some (.int (nI fr)), some (.int ki), l3, l4, none, none, none], [], wd [M, M + 12, M + 13, M + 14, M + 15, sa 4] [.inl (5, fs), .inr (.inl (80, A)), .inr (.inl (8, H)), .inr (.inl (64, mwi A G fr 64)), .inr (.inl (8, T)), .inr (.inl (64, K))] h)) :
    ∀ (n k : Nat), k + n = 64 → ∀ Z, Z = mwi A G fr k → ∀ ki, ki = nI k → ∀ l3 l4, ev_E tbs bs sa (d + 1) t_X5_block E (5, [some (.ref M), some (.int (nI fr)), some (.int ki), l3, l4, none, none, none], [.int 64, .int ki], wd [M, M + 12, M + 13, M + 14, M + 15, sa 4] [.inl (5, fs), .inr (.inl (80, A)), .inr (.inl (8, H)), .inr (.inl (64, Z)), .inr (.inl (8, T)), .inr (.inl (64, K))] h) := by
  intro n
  induction n with
  | zero =>
    intro k hk Z hZ ki hki l3 l4
    have e : k = 64 := by omega
    subst e; subst hZ; subst hki
    refine EV.icm rfl (fun hc => ?_) (fun hc => ?_)
    · exact hK _ _ _
    · exact absurd (by decide : (64 : Int32) ≤ nI 64) (of_decide_eq_false hc)
  | succ n ih =>
    intro k hk Z hZ ki hki l3 l4
    subst hki; subst hZ
    refine EV.icm rfl (fun hc => ?_) (fun hc => ?_)
    · exact absurd (of_decide_eq_true hc) (nI_ge (b := 64) (by omega) (by decide))
    · repeat refine EV.s rfl rfl rfl ?_
      refine EV.icm rfl (fun h16 => ?_) (fun h16 => ?_)
      · have h16 : ¬ k < 16 := fun q => absurd (of_decide_eq_true h16) (nI_ge (b := 16) q (by decide))
        repeat (first | refine EV.s rfl rfl rfl ?_ | refine EW.get 0 hD rfl rfl rfl h20 ?_)
        refine EW.iald 3 (k - 15) hD rfl rfl rfl (pk_sub (b := 15) (by omega)) (by omega) (by decide) ?_
        repeat (first | refine EV.s rfl rfl rfl ?_ | refine EW.get 0 hD rfl rfl rfl h20 ?_)
        refine EW.iald 3 (k - 2) hD rfl rfl rfl (pk_sub (b := 2) (by omega)) (by omega) (by decide) ?_
        repeat (first | refine EV.s rfl rfl rfl ?_ | refine EW.get 0 hD rfl rfl rfl h20 ?_)
        refine EW.iald 3 (k - 16) hD rfl rfl rfl (pk_sub (b := 16) (by omega)) (by omega) (by decide) ?_
        repeat refine EV.s rfl rfl rfl ?_
        refine EV.call rfl (r_right _ _ _ _) ?_
        repeat refine EV.s rfl rfl rfl ?_
        refine EV.call rfl (r_right _ _ _ _) ?_
        repeat (first | refine EV.s rfl rfl rfl ?_ | refine EW.get 0 hD rfl rfl rfl h20 ?_)
        refine EW.iald 3 (k - 7) hD rfl rfl rfl (pk_sub (b := 7) (by omega)) (by omega) (by decide) ?_
        repeat refine EV.s rfl rfl rfl ?_
        refine EV.call rfl (r_right _ _ _ _) ?_
        repeat refine EV.s rfl rfl rfl ?_
        refine EV.call rfl (r_right _ _ _ _) ?_
        repeat refine EV.s rfl rfl rfl ?_
        refine EW.iast 3 k hD rfl rfl rfl (by omega) rfl (by omega) (by decide) ?_
        repeat refine EV.s rfl rfl rfl ?_
        exact ih (k + 1) (by omega) _ (by simp only [mwi]; rw [if_neg h16]; rfl) _ (nI_1 k) _ _
      · have h16 : k < 16 := by
          rcases Nat.lt_or_ge k 16 with q | q
          · exact q
          · exact absurd (nI_le (a := 16) q (by omega)) (of_decide_eq_false h16)
        repeat (first | refine EV.s rfl rfl rfl ?_ | refine EW.get 0 hD rfl rfl rfl h18 ?_ | refine EW.get 0 hD rfl rfl rfl h20 ?_)
        refine EW.iald 1 (fr + k) hD rfl rfl rfl (nI_add fr k) (by omega) (by decide) ?_
        refine EW.iast 3 k hD rfl rfl rfl (by omega) rfl (by omega) (by decide) ?_
        repeat refine EV.s rfl rfl rfl ?_
        exact ih (k + 1) (by omega) _ (by simp only [mwi]; rw [if_pos h16]) _ (nI_1 k) _ _
set_option maxHeartbeats 1000000 in
set_option maxRecDepth 100000 in
theorem r_mb2 (d : Nat) (M : Nat) (fs : List Value) (h19 : fs[19]? = some (.ref (M + 13))) (h21 : fs[21]? = some (.ref (M + 15))) (fi : Int32) (l3 l4 l5 l6 l7 : Option Value) (A H G T K : Nat → Int32) (h : e_H) (hD : [M, M + 12, M + 13, M + 14, M + 15, sa 4].Nodup) (hb : bs ≤ M) (E : e_C ⊕ (Option Value × e_H) → Prop)
    (hK : ∀ ki, ev_E tbs bs sa (d + 1) t_X5_block E (148, [some (.ref M), some (.int fi), some (.int ki), l3, l4, l5, l6, l7], [], wd [M, M + 12, M + 13, M + 14, M + 15, sa 4] [.inl (5, fs), .inr (.inl (80, A)), .inr (.inl (8, H)), .inr (.inl (64, G)), .inr (.inl (8, va_cpy H T 0 0 8)), .inr (.inl (64, K))] h)) :
    ∀ (n k : Nat), k + n = 8 → ∀ Z, Z = va_cpy H T 0 0 k → ∀ ki, ki = nI k → ev_E tbs bs sa (d + 1) t_X5_block E (127, [some (.ref M), some (.int fi), some (.int ki), l3, l4, l5, l6, l7], [.int 8, .int ki], wd [M, M + 12, M + 13, M + 14, M + 15, sa 4] [.inl (5, fs), .inr (.inl (80, A)), .inr (.inl (8, H)), .inr (.inl (64, G)), .inr (.inl (8, Z)), .inr (.inl (64, K))] h) := by
  intro n
  induction n with
  | zero =>
    intro k hk Z hZ ki hki
    have e : k = 8 := by omega
    subst e; subst hZ; subst hki
    refine EV.icm rfl (fun hc => ?_) (fun hc => ?_)
    · exact hK _
    · exact absurd (by decide : (8 : Int32) ≤ nI 8) (of_decide_eq_false hc)
  | succ n ih =>
    intro k hk Z hZ ki hki
    subst hki; subst hZ
    refine EV.icm rfl (fun hc => ?_) (fun hc => ?_)
    · exact absurd (of_decide_eq_true hc) (nI_ge (b := 8) (by omega) (by decide))
    · repeat (first | refine EV.s rfl rfl rfl ?_ | refine EW.get 0 hD rfl rfl rfl h19 ?_ | refine EW.get 0 hD rfl rfl rfl h21 ?_)
      refine EW.iald 2 k hD rfl rfl rfl rfl (by omega) (by decide) ?_
      refine EW.iast 4 k hD rfl rfl rfl (by omega) rfl (by omega) (by decide) ?_
      repeat refine EV.s rfl rfl rfl ?_
      refine ih (k + 1) (by omega) _ ?_ _ (nI_1 k)
      rw [cpy_s, Nat.zero_add]
set_option maxHeartbeats 1000000 in
set_option maxRecDepth 100000 in
theorem r_mb4 (d : Nat) (M : Nat) (fs : List Value) (h19 : fs[19]? = some (.ref (M + 13))) (h21 : fs[21]? = some (.ref (M + 15))) (fi : Int32) (l3 l4 l5 l6 l7 : Option Value) (A H G T K : Nat → Int32) (h : e_H) (hD : [M, M + 12, M + 13, M + 14, M + 15, sa 4].Nodup) (hb : bs ≤ M) (E : e_C ⊕ (Option Value × e_H) → Prop)
    (hK : E (.inr (none, wd [M, M + 12, M + 13, M + 14, M + 15, sa 4] [.inl (5, fs), .inr (.inl (80, A)), .inr (.inl (8, adk H T 8)), .inr (.inl (64, G)), .inr (.inl (8, T)), .inr (.inl (64, K))] h))) :
    ∀ (n k : Nat), k + n = 8 → ∀ Z, Z = adk H T k → ∀ ki, ki = nI k → ev_E tbs bs sa (d + 1) t_X5_block E (357, [some (.ref M), some (.int fi), some (.int ki), l3, l4, l5, l6, l7], [.int 8, .int ki], wd [M, M + 12, M + 13, M + 14, M + 15, sa 4] [.inl (5, fs), .inr (.inl (80, A)), .inr (.inl (8, Z)), .inr (.inl (64, G)), .inr (.inl (8, T)), .inr (.inl (64, K))] h) := by
  intro n
  induction n with
  | zero =>
    intro k hk Z hZ ki hki
    have e : k = 8 := by omega
    subst e; subst hZ; subst hki
    refine EV.icm rfl (fun hc => ?_) (fun hc => ?_)
    · refine EV.ret rfl ?_
      exact hK
    · exact absurd (by decide : (8 : Int32) ≤ nI 8) (of_decide_eq_false hc)
  | succ n ih =>
    intro k hk Z hZ ki hki
    subst hki; subst hZ
    refine EV.icm rfl (fun hc => ?_) (fun hc => ?_)
    · exact absurd (of_decide_eq_true hc) (nI_ge (b := 8) (by omega) (by decide))
    · repeat (first | refine EV.s rfl rfl rfl ?_ | refine EW.get 0 hD rfl rfl rfl h19 ?_ | refine EW.get 0 hD rfl rfl rfl h21 ?_)
      refine EW.iald 2 k hD rfl rfl rfl rfl (by omega) (by decide) ?_
      repeat (first | refine EV.s rfl rfl rfl ?_ | refine EW.get 0 hD rfl rfl rfl h19 ?_ | refine EW.get 0 hD rfl rfl rfl h21 ?_)
      refine EW.iald 4 k hD rfl rfl rfl rfl (by omega) (by decide) ?_
      repeat refine EV.s rfl rfl rfl ?_
      refine EW.iast 2 k hD rfl rfl rfl (by omega) rfl (by omega) (by decide) ?_
      repeat refine EV.s rfl rfl rfl ?_
      exact ih (k + 1) (by omega) _ (adk_s H T k).symm _ (nI_1 k)
set_option maxHeartbeats 1000000 in
set_option maxRecDepth 100000 in
/-- the shift -/
theorem r_mb3s (d : Nat) (M : Nat) (fs : List Value) (h21 : fs[21]? = some (.ref (M + 15))) (fi ki : Int32) (l3 l4 l5 : Option Value) (v6 : Int32) (A H G T K : Nat → Int32) (h : e_H) (hD : [M, M + 12, M + 13, M + 14, M + 15, sa 4].Nodup) (hb : bs ≤ M) (E : e_C ⊕ (Option Value × e_H) → Prop)
    (hK : ∀ l7, ev_E tbs bs sa (d + 1) t_X5_block E (324, [some (.ref M), some (.int fi), some (.int ki), l3, l4, l5, some (.int v6), l7], [], wd [M, M + 12, M + 13, M + 14, M + 15, sa 4] [.inl (5, fs), .inr (.inl (80, A)), .inr (.inl (8, H)), .inr (.inl (64, G)), .inr (.inl (8, shf T 0)), .inr (.inl (64, K))] h)) :
    ∀ (i : Nat), i ≤ 7 → ∀ Z, Z = shf T i → ∀ ii, ii = nI i → ev_E tbs bs sa (d + 1) t_X5_block E (299, [some (.ref M), some (.int fi), some (.int ki), l3, l4, l5, some (.int v6), some (.int ii)], [.int ii], wd [M, M + 12, M + 13, M + 14, M + 15, sa 4] [.inl (5, fs), .inr (.inl (80, A)), .inr (.inl (8, H)), .inr (.inl (64, G)), .inr (.inl (8, Z)), .inr (.inl (64, K))] h) := by
  intro i
  induction i with
  | zero =>
    intro _ Z hZ ii hii
    subst hZ; subst hii
    refine EV.ifc rfl (fun hc => ?_) (fun hc => ?_)
    · exact hK _
    · exact absurd (by decide : nI 0 ≤ (0 : Int32)) (of_decide_eq_false hc)
  | succ i ih =>
    intro hi Z hZ ii hii
    subst hZ; subst hii
    refine EV.ifc rfl (fun hc => ?_) (fun hc => ?_)
    · exact absurd (of_decide_eq_true hc) (nI_nle (by omega) (by omega))
    · repeat (first | refine EV.s rfl rfl rfl ?_ | refine EW.get 0 hD rfl rfl rfl h21 ?_)
      refine EW.iald 4 i hD rfl rfl rfl (nI_pred i) (by omega) (by decide) ?_
      refine EW.iast 4 (i + 1) hD rfl rfl rfl (by omega) rfl (by omega) (by decide) ?_
      repeat refine EV.s rfl rfl rfl ?_
      refine ih (by omega) _ ?_ _ ?_
      · exact (shf_s T (by omega)).symm
      · exact pk_m1 i
end MHS
