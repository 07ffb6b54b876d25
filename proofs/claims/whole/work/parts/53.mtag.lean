section MTG
variable {bs : Nat} {sa : Nat → Nat}
set_option maxHeartbeats 1000000 in
set_option maxRecDepth 100000 in
theorem r_tg1 (d M : Nat) (fs : List Value) (h12 : fs[12]? = some (.ref (M + 11))) (h18 : fs[18]? = some (.ref (M + 12))) (B mark A H G T I K : Nat → Int32) (hb : bs ≤ M) (h : e_H) (hD : [M, M + 9, M + 11, M + 12, M + 13, M + 14, M + 15, sa 3, sa 4].Nodup) (E : e_C ⊕ (Option Value × e_H) → Prop)
    (hK : ∀ (ki : Int32), ev_E tbs bs sa (d + 3) t_X5_tag E (39, [some (.ref M), some (.int ki)], [], wd [M, M + 9, M + 11, M + 12, M + 13, M + 14, M + 15, sa 3, sa 4] [.inl (5, fs), .inr (.inl (64, B)), .inr (.inl (8, mark)), .inr (.inl (80, mbk mark 909522486 A 16)), .inr (.inl (8, H)), .inr (.inl (64, G)), .inr (.inl (8, T)), .inr (.inl (8, I)), .inr (.inl (64, K))] h)) :
    ∀ (c k : Nat), k + c = 16 → ∀ Z, Z = mbk mark 909522486 A k → ∀ (ki : Int32), ki = nI k → ev_E tbs bs sa (d + 3) t_X5_tag E (5, [some (.ref M), some (.int ki)], [.int 16, .int ki], wd [M, M + 9, M + 11, M + 12, M + 13, M + 14, M + 15, sa 3, sa 4] [.inl (5, fs), .inr (.inl (64, B)), .inr (.inl (8, mark)), .inr (.inl (80, Z)), .inr (.inl (8, H)), .inr (.inl (64, G)), .inr (.inl (8, T)), .inr (.inl (8, I)), .inr (.inl (64, K))] h) := by
  intro c
  induction c with
  | zero =>
    intro k hkc Z hZ ki hki
    have e : k = 16 := by omega
    subst e; subst hZ; subst hki
    refine EV.icm rfl (fun hc => ?_) (fun hc => ?_)
    · exact hK _
    · exact absurd (by decide : (16 : Int32) ≤ nI 16) (of_decide_eq_false hc)
  | succ c ih =>
    intro k hkc Z hZ ki hki
    subst hki; subst hZ
    refine EV.icm rfl (fun hc => ?_) (fun hc => ?_)
    · exact absurd (of_decide_eq_true hc) (nI_ge (b := 16) (by omega) (by decide))
    · repeat (first | refine EV.s rfl rfl rfl ?_ | refine EW.get 0 hD rfl rfl rfl h18 ?_)
      refine EV.icm rfl (fun hc8 => ?_) (fun hc8 => ?_)
      · have h8 : ¬ k < 8 := fun q => absurd (of_decide_eq_true hc8) (nI_ge (b := 8) q (by decide))
        repeat refine EV.s rfl rfl rfl ?_
        refine EW.iast 3 k hD rfl rfl rfl (by omega) rfl (by omega) (by decide) ?_
        repeat refine EV.s rfl rfl rfl ?_
        exact ih (k + 1) (by omega) _ (by rw [mbk_s, hk, if_neg h8]; congr 1) _ (nI_1 k)
      · have h8 : k < 8 := by
          rcases Nat.lt_or_ge k 8 with q | q
          · exact q
          · exact absurd (nI_le (a := 8) q (by omega)) (of_decide_eq_false hc8)
        repeat (first | refine EV.s rfl rfl rfl ?_ | refine EW.get 0 hD rfl rfl rfl h12 ?_)
        refine EW.iald 2 k hD rfl rfl rfl rfl h8 (by decide) ?_
        repeat refine EV.s rfl rfl rfl ?_
        refine EW.iast 3 k hD rfl rfl rfl (by omega) rfl (by omega) (by decide) ?_
        repeat refine EV.s rfl rfl rfl ?_
        exact ih (k + 1) (by omega) _ (by rw [mbk_s, hk, if_pos h8]) _ (nI_1 k)
set_option maxHeartbeats 1000000 in
set_option maxRecDepth 100000 in
theorem r_tg2 (d M : Nat) (fs : List Value) (h10 : fs[10]? = some (.ref (M + 9))) (h18 : fs[18]? = some (.ref (M + 12))) (B mark A H G T I K : Nat → Int32) (hb : bs ≤ M) (h : e_H) (hD : [M, M + 9, M + 11, M + 12, M + 13, M + 14, M + 15, sa 3, sa 4].Nodup) (E : e_C ⊕ (Option Value × e_H) → Prop)
    (hK : ∀ (ki : Int32), ev_E tbs bs sa (d + 3) t_X5_tag E (68, [some (.ref M), some (.int ki)], [], wd [M, M + 9, M + 11, M + 12, M + 13, M + 14, M + 15, sa 3, sa 4] [.inl (5, fs), .inr (.inl (64, B)), .inr (.inl (8, mark)), .inr (.inl (80, va_cpy B A 0 16 40)), .inr (.inl (8, H)), .inr (.inl (64, G)), .inr (.inl (8, T)), .inr (.inl (8, I)), .inr (.inl (64, K))] h)) :
    ∀ (c k : Nat), k + c = 40 → ∀ Z, Z = va_cpy B A 0 16 k → ∀ (ki : Int32), ki = nI k → ev_E tbs bs sa (d + 3) t_X5_tag E (44, [some (.ref M), some (.int ki)], [.int 40, .int ki], wd [M, M + 9, M + 11, M + 12, M + 13, M + 14, M + 15, sa 3, sa 4] [.inl (5, fs), .inr (.inl (64, B)), .inr (.inl (8, mark)), .inr (.inl (80, Z)), .inr (.inl (8, H)), .inr (.inl (64, G)), .inr (.inl (8, T)), .inr (.inl (8, I)), .inr (.inl (64, K))] h) := by
  intro c
  induction c with
  | zero =>
    intro k hkc Z hZ ki hki
    have e : k = 40 := by omega
    subst e; subst hZ; subst hki
    refine EV.icm rfl (fun hc => ?_) (fun hc => ?_)
    · exact hK _
    · exact absurd (by decide : (40 : Int32) ≤ nI 40) (of_decide_eq_false hc)
  | succ c ih =>
    intro k hkc Z hZ ki hki
    subst hki; subst hZ
    refine EV.icm rfl (fun hc => ?_) (fun hc => ?_)
    · exact absurd (of_decide_eq_true hc) (nI_ge (b := 40) (by omega) (by decide))
    · repeat (first | refine EV.s rfl rfl rfl ?_ | refine EW.get 0 hD rfl rfl rfl h10 ?_ | refine EW.get 0 hD rfl rfl rfl h18 ?_)
      refine EW.iald 1 k hD rfl rfl rfl rfl (by omega) (by decide) ?_
      refine EW.iast 3 (16 + k) hD rfl rfl rfl (by omega) (nI_add 16 k) (by omega) (by decide) ?_
      repeat refine EV.s rfl rfl rfl ?_
      exact ih (k + 1) (by omega) _ ((cpy_s B A 16 k).symm) _ (nI_1 k)
set_option maxHeartbeats 1000000 in
set_option maxRecDepth 100000 in
theorem r_tg3 (d M : Nat) (fs : List Value) (h18 : fs[18]? = some (.ref (M + 12))) (h19 : fs[19]? = some (.ref (M + 13))) (B mark A H G T I K : Nat → Int32) (hb : bs ≤ M) (h : e_H) (hD : [M, M + 9, M + 11, M + 12, M + 13, M + 14, M + 15, sa 3, sa 4].Nodup) (E : e_C ⊕ (Option Value × e_H) → Prop)
    (hK : ∀ (ki : Int32), ev_E tbs bs sa (d + 3) t_X5_tag E (103, [some (.ref M), some (.int ki)], [], wd [M, M + 9, M + 11, M + 12, M + 13, M + 14, M + 15, sa 3, sa 4] [.inl (5, fs), .inr (.inl (64, B)), .inr (.inl (8, mark)), .inr (.inl (80, va_cpy H A 0 16 8)), .inr (.inl (8, H)), .inr (.inl (64, G)), .inr (.inl (8, T)), .inr (.inl (8, I)), .inr (.inl (64, K))] h)) :
    ∀ (c k : Nat), k + c = 8 → ∀ Z, Z = va_cpy H A 0 16 k → ∀ (ki : Int32), ki = nI k → ev_E tbs bs sa (d + 3) t_X5_tag E (79, [some (.ref M), some (.int ki)], [.int 8, .int ki], wd [M, M + 9, M + 11, M + 12, M + 13, M + 14, M + 15, sa 3, sa 4] [.inl (5, fs), .inr (.inl (64, B)), .inr (.inl (8, mark)), .inr (.inl (80, Z)), .inr (.inl (8, H)), .inr (.inl (64, G)), .inr (.inl (8, T)), .inr (.inl (8, I)), .inr (.inl (64, K))] h) := by
  intro c
  induction c with
  | zero =>
    intro k hkc Z hZ ki hki
    have e : k = 8 := by omega
    subst e; subst hZ; subst hki
    refine EV.icm rfl (fun hc => ?_) (fun hc => ?_)
    · exact hK _
    · exact absurd (by decide : (8 : Int32) ≤ nI 8) (of_decide_eq_false hc)
  | succ c ih =>
    intro k hkc Z hZ ki hki
    subst hki; subst hZ
    refine EV.icm rfl (fun hc => ?_) (fun hc => ?_)
    · exact absurd (of_decide_eq_true hc) (nI_ge (b := 8) (by omega) (by decide))
    · repeat (first | refine EV.s rfl rfl rfl ?_ | refine EW.get 0 hD rfl rfl rfl h18 ?_ | refine EW.get 0 hD rfl rfl rfl h19 ?_)
      refine EW.iald 4 k hD rfl rfl rfl rfl (by omega) (by decide) ?_
      refine EW.iast 3 (16 + k) hD rfl rfl rfl (by omega) (nI_add 16 k) (by omega) (by decide) ?_
      repeat refine EV.s rfl rfl rfl ?_
      exact ih (k + 1) (by omega) _ ((cpy_s H A 16 k).symm) _ (nI_1 k)
set_option maxHeartbeats 1000000 in
set_option maxRecDepth 100000 in
theorem r_tg4 (d M : Nat) (fs : List Value) (h12 : fs[12]? = some (.ref (M + 11))) (h18 : fs[18]? = some (.ref (M + 12))) (B mark A H G T I K : Nat → Int32) (hb : bs ≤ M) (h : e_H) (hD : [M, M + 9, M + 11, M + 12, M + 13, M + 14, M + 15, sa 3, sa 4].Nodup) (E : e_C ⊕ (Option Value × e_H) → Prop)
    (hK : ∀ (ki : Int32), ev_E tbs bs sa (d + 3) t_X5_tag E (142, [some (.ref M), some (.int ki)], [], wd [M, M + 9, M + 11, M + 12, M + 13, M + 14, M + 15, sa 3, sa 4] [.inl (5, fs), .inr (.inl (64, B)), .inr (.inl (8, mark)), .inr (.inl (80, mbk mark 1549556828 A 16)), .inr (.inl (8, H)), .inr (.inl (64, G)), .inr (.inl (8, T)), .inr (.inl (8, I)), .inr (.inl (64, K))] h)) :
    ∀ (c k : Nat), k + c = 16 → ∀ Z, Z = mbk mark 1549556828 A k → ∀ (ki : Int32), ki = nI k → ev_E tbs bs sa (d + 3) t_X5_tag E (108, [some (.ref M), some (.int ki)], [.int 16, .int ki], wd [M, M + 9, M + 11, M + 12, M + 13, M + 14, M + 15, sa 3, sa 4] [.inl (5, fs), .inr (.inl (64, B)), .inr (.inl (8, mark)), .inr (.inl (80, Z)), .inr (.inl (8, H)), .inr (.inl (64, G)), .inr (.inl (8, T)), .inr (.inl (8, I)), .inr (.inl (64, K))] h) := by
  intro c
  induction c with
  | zero =>
    intro k hkc Z hZ ki hki
    have e : k = 16 := by omega
    subst e; subst hZ; subst hki
    refine EV.icm rfl (fun hc => ?_) (fun hc => ?_)
    · exact hK _
    · exact absurd (by decide : (16 : Int32) ≤ nI 16) (of_decide_eq_false hc)
  | succ c ih =>
    intro k hkc Z hZ ki hki
    subst hki; subst hZ
    refine EV.icm rfl (fun hc => ?_) (fun hc => ?_)
    · exact absurd (of_decide_eq_true hc) (nI_ge (b := 16) (by omega) (by decide))
    · repeat (first | refine EV.s rfl rfl rfl ?_ | refine EW.get 0 hD rfl rfl rfl h18 ?_)
      refine EV.icm rfl (fun hc8 => ?_) (fun hc8 => ?_)
      · have h8 : ¬ k < 8 := fun q => absurd (of_decide_eq_true hc8) (nI_ge (b := 8) q (by decide))
        repeat refine EV.s rfl rfl rfl ?_
        refine EW.iast 3 k hD rfl rfl rfl (by omega) rfl (by omega) (by decide) ?_
        repeat refine EV.s rfl rfl rfl ?_
        exact ih (k + 1) (by omega) _ (by rw [mbk_s, hk, if_neg h8]; congr 1) _ (nI_1 k)
      · have h8 : k < 8 := by
          rcases Nat.lt_or_ge k 8 with q | q
          · exact q
          · exact absurd (nI_le (a := 8) q (by omega)) (of_decide_eq_false hc8)
        repeat (first | refine EV.s rfl rfl rfl ?_ | refine EW.get 0 hD rfl rfl rfl h12 ?_)
        refine EW.iald 2 k hD rfl rfl rfl rfl h8 (by decide) ?_
        repeat refine EV.s rfl rfl rfl ?_
        refine EW.iast 3 k hD rfl rfl rfl (by omega) rfl (by omega) (by decide) ?_
        repeat refine EV.s rfl rfl rfl ?_
        exact ih (k + 1) (by omega) _ (by rw [mbk_s, hk, if_pos h8]) _ (nI_1 k)
set_option maxHeartbeats 1000000 in
set_option maxRecDepth 100000 in
theorem r_tag (d M : Nat) (fs : List Value) (h10 : fs[10]? = some (.ref (M + 9))) (h12 : fs[12]? = some (.ref (M + 11))) (h18 : fs[18]? = some (.ref (M + 12))) (h19 : fs[19]? = some (.ref (M + 13))) (h20 : fs[20]? = some (.ref (M + 14))) (h21 : fs[21]? = some (.ref (M + 15))) (B mark A H G T I K : Nat → Int32) (hD : [M, M + 9, M + 11, M + 12, M + 13, M + 14, M + 15, sa 3, sa 4].Nodup) (hb : bs ≤ M) :
    CT bs sa (d + 4) 74 [.ref M] [M, M + 9, M + 11, M + 12, M + 13, M + 14, M + 15, sa 3, sa 4] [.inl (5, fs), .inr (.inl (64, B)), .inr (.inl (8, mark)), .inr (.inl (80, A)), .inr (.inl (8, H)), .inr (.inl (64, G)), .inr (.inl (8, T)), .inr (.inl (8, I)), .inr (.inl (64, K))]
      (fun rv o => rv = none ∧ ∃ A' H' G' T', o = [.inl (5, fs), .inr (.inl (64, B)), .inr (.inl (8, mark)), .inr (.inl (80, A')), .inr (.inl (8, H')), .inr (.inl (64, G')), .inr (.inl (8, T')), .inr (.inl (8, I)), .inr (.inl (64, K))] ∧ ∀ j, j < 8 → H' j = hmo K I mark B 40 j) := by
  refine CT.mk (T := t_X5_tag) rfl (Nat.le_of_ble_eq_true rfl) (fun h => ?_)
  repeat refine EV.s rfl rfl rfl ?_
  refine r_tg1 d M fs h12 h18 B mark A H G T I K hb h hD _ (fun ki => ?_) 16 0 rfl A (mbk_0 _ _ _).symm _ rfl
  repeat refine EV.s rfl rfl rfl ?_
  refine r_tg2 d M fs h10 h18 B mark (mbk mark 909522486 A 16) H G T I K hb h hD _ (fun ki => ?_) 40 0 rfl _ (cpy_0 _ _ _).symm _ rfl
  repeat refine EV.s rfl rfl rfl ?_
  refine EW.cvE 0 [0, 3, 4, 5, 6, 7, 8] hD (r_digest d M 56 (by decide) fs h18 h19 h20 h21 (va_cpy B (mbk mark 909522486 A 16) 0 16 40) H G T I K (nd_sub hD [0, 3, 4, 5, 6, 7, 8] (by decide) rfl) hb) rfl rfl rfl rfl rfl (Nat.le_of_ble_eq_true rfl) (Nat.le_of_ble_eq_true rfl) rfl rfl rfl ?_
  rintro rv os2 ⟨rfl, H1, G1, T1, rfl, hH1⟩
  try simp only [setm, List.set_cons_succ, List.set_cons_zero, Option.toList, List.nil_append, List.cons_append]
  repeat refine EV.s rfl rfl rfl ?_
  refine r_tg3 d M fs h18 h19 B mark (pmd (va_cpy B (mbk mark 909522486 A 16) 0 16 40) 56) H1 G1 T1 I K hb h hD _ (fun ki => ?_) 8 0 rfl _ (cpy_0 _ _ _).symm _ rfl
  repeat refine EV.s rfl rfl rfl ?_
  refine r_tg4 d M fs h12 h18 B mark (va_cpy H1 (pmd (va_cpy B (mbk mark 909522486 A 16) 0 16 40) 56) 0 16 8) H1 G1 T1 I K hb h hD _ (fun ki => ?_) 16 0 rfl _ (mbk_0 _ _ _).symm _ rfl
  repeat refine EV.s rfl rfl rfl ?_
  refine EW.cvE 0 [0, 3, 4, 5, 6, 7, 8] hD (r_digest d M 24 (by decide) fs h18 h19 h20 h21 (mbk mark 1549556828 (va_cpy H1 (pmd (va_cpy B (mbk mark 909522486 A 16) 0 16 40) 56) 0 16 8) 16) H1 G1 T1 I K (nd_sub hD [0, 3, 4, 5, 6, 7, 8] (by decide) rfl) hb) rfl rfl rfl rfl rfl (Nat.le_of_ble_eq_true rfl) (Nat.le_of_ble_eq_true rfl) rfl rfl rfl ?_
  rintro rv os2 ⟨rfl, H2, G2, T2, rfl, hH2⟩
  try simp only [setm, List.set_cons_succ, List.set_cons_zero, Option.toList, List.nil_append, List.cons_append]
  refine EV.ret rfl ⟨_, _, rfl, _, ⟨⟨rfl, _, H2, _, _, rfl, fun j hj => ?_⟩, rfl⟩, rfl⟩
  rw [hH2 j hj]
  refine sha_congr (fun _ _ => rfl) (fun _ _ => rfl) (fun i hi => ?_) hj
  simp only [mbk]
  by_cases q : i < 16
  · rw [if_pos q, if_pos q]
  · rw [if_neg q, if_neg q]
    have e : va_cpy H1 (pmd (va_cpy B (mbk mark 909522486 A 16) 0 16 40) 56) 0 16 8 i = H1 (i - 16) := by
      simp only [va_cpy]; rw [if_pos (by omega), Nat.zero_add]
    rw [e, hH1 _ (by omega)]
    exact sha_congr (fun _ _ => rfl) (fun _ _ => rfl) (fun i hi => mbk_cpy mark B A _ (n := 40) hi) (by omega)
set_option maxHeartbeats 1000000 in
set_option maxRecDepth 100000 in
theorem r_quarter (d : Nat) (M a b c e : Nat) (fs : List Value) (h23 : fs[23]? = some (.ref (M + 17))) (B : Nat → Int32) (h : e_H) (hD : [M, M + 17].Nodup) (hbb : bs ≤ M) (ha : a < 16) (hb : b < 16) (hc : c < 16) (he : e < 16) :
    ev_run tbs bs sa (d + 2) 75 [.ref M, .int (nI a), .int (nI b), .int (nI c), .int (nI e)] (wd [M, M + 17] [.inl (5, fs), .inr (.inl (16, B))] h) none (wd [M, M + 17] [.inl (5, fs), .inr (.inl (16, qr B a b c e))] h) := by
  refine RUN.mk (T := t_X5_quarter) rfl (Nat.le_of_ble_eq_true rfl) ?_
  repeat (first | refine EV.s rfl rfl rfl ?_ | refine EW.get 0 hD rfl rfl rfl h23 ?_)
  refine EW.iald 1 a hD rfl rfl rfl rfl ha (by decide) ?_
  repeat (first | refine EV.s rfl rfl rfl ?_ | refine EW.get 0 hD rfl rfl rfl h23 ?_)
  refine EW.iald 1 b hD rfl rfl rfl rfl hb (by decide) ?_
  repeat refine EV.s rfl rfl rfl ?_
  refine EW.iast 1 a hD rfl rfl rfl (by omega) rfl ha (by decide) ?_
  repeat (first | refine EV.s rfl rfl rfl ?_ | refine EW.get 0 hD rfl rfl rfl h23 ?_)
  refine EW.iald 1 e hD rfl rfl rfl rfl he (by decide) ?_
  repeat (first | refine EV.s rfl rfl rfl ?_ | refine EW.get 0 hD rfl rfl rfl h23 ?_)
  refine EW.iald 1 a hD rfl rfl rfl rfl ha (by decide) ?_
  repeat refine EV.s rfl rfl rfl ?_
  refine EV.call rfl (r_right _ _ _ _) ?_
  refine EW.iast 1 e hD rfl rfl rfl (by omega) rfl he (by decide) ?_
  repeat (first | refine EV.s rfl rfl rfl ?_ | refine EW.get 0 hD rfl rfl rfl h23 ?_)
  refine EW.iald 1 c hD rfl rfl rfl rfl hc (by decide) ?_
  repeat (first | refine EV.s rfl rfl rfl ?_ | refine EW.get 0 hD rfl rfl rfl h23 ?_)
  refine EW.iald 1 e hD rfl rfl rfl rfl he (by decide) ?_
  repeat refine EV.s rfl rfl rfl ?_
  refine EW.iast 1 c hD rfl rfl rfl (by omega) rfl hc (by decide) ?_
  repeat (first | refine EV.s rfl rfl rfl ?_ | refine EW.get 0 hD rfl rfl rfl h23 ?_)
  refine EW.iald 1 b hD rfl rfl rfl rfl hb (by decide) ?_
  repeat (first | refine EV.s rfl rfl rfl ?_ | refine EW.get 0 hD rfl rfl rfl h23 ?_)
  refine EW.iald 1 c hD rfl rfl rfl rfl hc (by decide) ?_
  repeat refine EV.s rfl rfl rfl ?_
  refine EV.call rfl (r_right _ _ _ _) ?_
  refine EW.iast 1 b hD rfl rfl rfl (by omega) rfl hb (by decide) ?_
  repeat (first | refine EV.s rfl rfl rfl ?_ | refine EW.get 0 hD rfl rfl rfl h23 ?_)
  refine EW.iald 1 a hD rfl rfl rfl rfl ha (by decide) ?_
  repeat (first | refine EV.s rfl rfl rfl ?_ | refine EW.get 0 hD rfl rfl rfl h23 ?_)
  refine EW.iald 1 b hD rfl rfl rfl rfl hb (by decide) ?_
  repeat refine EV.s rfl rfl rfl ?_
  refine EW.iast 1 a hD rfl rfl rfl (by omega) rfl ha (by decide) ?_
  repeat (first | refine EV.s rfl rfl rfl ?_ | refine EW.get 0 hD rfl rfl rfl h23 ?_)
  refine EW.iald 1 e hD rfl rfl rfl rfl he (by decide) ?_
  repeat (first | refine EV.s rfl rfl rfl ?_ | refine EW.get 0 hD rfl rfl rfl h23 ?_)
  refine EW.iald 1 a hD rfl rfl rfl rfl ha (by decide) ?_
  repeat refine EV.s rfl rfl rfl ?_
  refine EV.call rfl (r_right _ _ _ _) ?_
  refine EW.iast 1 e hD rfl rfl rfl (by omega) rfl he (by decide) ?_
  repeat (first | refine EV.s rfl rfl rfl ?_ | refine EW.get 0 hD rfl rfl rfl h23 ?_)
  refine EW.iald 1 c hD rfl rfl rfl rfl hc (by decide) ?_
  repeat (first | refine EV.s rfl rfl rfl ?_ | refine EW.get 0 hD rfl rfl rfl h23 ?_)
  refine EW.iald 1 e hD rfl rfl rfl rfl he (by decide) ?_
  repeat refine EV.s rfl rfl rfl ?_
  refine EW.iast 1 c hD rfl rfl rfl (by omega) rfl hc (by decide) ?_
  repeat (first | refine EV.s rfl rfl rfl ?_ | refine EW.get 0 hD rfl rfl rfl h23 ?_)
  refine EW.iald 1 b hD rfl rfl rfl rfl hb (by decide) ?_
  repeat (first | refine EV.s rfl rfl rfl ?_ | refine EW.get 0 hD rfl rfl rfl h23 ?_)
  refine EW.iald 1 c hD rfl rfl rfl rfl hc (by decide) ?_
  repeat refine EV.s rfl rfl rfl ?_
  refine EV.call rfl (r_right _ _ _ _) ?_
  refine EW.iast 1 b hD rfl rfl rfl (by omega) rfl hb (by decide) ?_
  refine EV.ret rfl ?_
  rfl
end MTG
