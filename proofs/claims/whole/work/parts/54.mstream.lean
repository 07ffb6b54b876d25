/-- four quarters in columns, four in diagonals -/
def qco (B : Nat → Int32) : Nat → Nat → Int32
  | 0 => B
  | k + 1 => qr (qco B k) k (4 + k) (8 + k) (12 + k)
def qdi (B : Nat → Int32) : Nat → Nat → Int32
  | 0 => B
  | k + 1 => qr (qdi B k) k (4 + (k + 1) % 4) (8 + (k + 2) % 4) (12 + (k + 3) % 4)
theorem qdi_dr (B : Nat → Int32) : qdi (qco B 4) 4 = dr B := rfl
def cc4 (k : Nat) : Int32 := if k = 0 then 1634760805 else if k = 1 then 857760878 else if k = 2 then 2036477234 else 1797285236
theorem cha_congr {C C' key key' : Nat → Int32} (hC : ∀ k, k < 4 → C k = C' k) (hk : ∀ k, k < 8 → key k = key' k) (ct u l : Int32) : al (cha C key ct u l) (cha C' key' ct u l) := by
  have h : al (cst C key ct u l) (cst C' key' ct u l) := by
    intro k hk16
    simp only [cst]
    by_cases q : k < 4
    · rw [if_pos q, if_pos q, hC k q]
    · rw [if_neg q, if_neg q]
      by_cases q2 : k < 12
      · rw [if_pos q2, if_pos q2, hk _ (by omega)]
      · rw [if_neg q2, if_neg q2]
  intro k hk16
  simp only [cha]
  rw [drs_al h 10 k hk16, h k hk16]
def mst (key S : Nat → Int32) (ct u l : Int32) : Nat → Int32 := upd (upd (upd (upd (va_cpy key (upd (upd (upd (upd S 0 1634760805) 1 857760878) 2 2036477234) 3 1797285236) 0 4 8) 12 ct) 13 0) 14 u) 15 l
theorem mst_al (key S : Nat → Int32) (ct u l : Int32) : al (mst key S ct u l) (cst cc4 key ct u l) := by
  intro k hk
  simp only [mst, cst, upd, va_cpy]
  by_cases h4 : k < 4
  · rw [if_neg (by omega), if_neg (by omega), if_neg (by omega), if_neg (by omega), if_neg (by omega), if_pos h4]
    have : k = 0 ∨ k = 1 ∨ k = 2 ∨ k = 3 := by omega
    rcases this with rfl | rfl | rfl | rfl <;> simp [cc4]
  · rw [if_neg h4]
    by_cases h12 : k < 12
    · rw [if_neg (by omega), if_neg (by omega), if_neg (by omega), if_neg (by omega), if_pos (by omega), if_pos h12]; congr 1; omega
    · rw [if_neg h12]
      have : k = 12 ∨ k = 13 ∨ k = 14 ∨ k = 15 := by omega
      rcases this with rfl | rfl | rfl | rfl <;> simp
section MST
variable {bs : Nat} {sa : Nat → Nat}
set_option maxHeartbeats 1000000 in
set_option maxRecDepth 100000 in
theorem r_sm1 (d M : Nat) (fs : List Value) (h11 : fs[11]? = some (.ref (M + 10))) (h22 : fs[22]? = some (.ref (M + 16))) (ct u l : Int32) (key S B : Nat → Int32) (hb : bs ≤ M) (h : e_H) (hD : [M, M + 10, M + 16, M + 17].Nodup) (E : e_C ⊕ (Option Value × e_H) → Prop)
    (hK : ∀ (ki : Int32), ev_E tbs bs sa (d + 2) t_X5_stream E (64, [some (.ref M), some (.int ct), some (.int u), some (.int l), some (.int ki), none], [], wd [M, M + 10, M + 16, M + 17] [.inl (5, fs), .inr (.inl (8, key)), .inr (.inl (16, va_cpy key S 0 4 8)), .inr (.inl (16, B))] h)) :
    ∀ (c k : Nat), k + c = 8 → ∀ Z, Z = va_cpy key S 0 4 k → ∀ (ki : Int32), ki = nI k → ev_E tbs bs sa (d + 2) t_X5_stream E (39, [some (.ref M), some (.int ct), some (.int u), some (.int l), some (.int ki), none], [.int 8, .int ki], wd [M, M + 10, M + 16, M + 17] [.inl (5, fs), .inr (.inl (8, key)), .inr (.inl (16, Z)), .inr (.inl (16, B))] h) := by
  intro c
  induction c with
  | zero =>
    intro k hkc Z hZ ki hki
    have e : k = 8 := by omega
    subst e; subst hZ; subst hki
    refine EV.icm rfl (fun hc => ?_) (fun hc => ?_)
    · exact hK _
    · exact absurd (by decide : (8 : Int32) ≤ nI 8) (of_decide_eq_false hc)
  | succ c ih =>
    intro k hkc Z hZ ki hki
    subst hki; subst hZ
    refine EV.icm rfl (fun hc => ?_) (fun hc => ?_)
    · exact absurd (of_decide_eq_true hc) (nI_ge (b := 8) (by omega) (by decide))
    · repeat (first | refine EV.s rfl rfl rfl ?_ | refine EW.get 0 hD rfl rfl rfl h11 ?_ | refine EW.get 0 hD rfl rfl rfl h22 ?_)
      refine EW.iald 1 k hD rfl rfl rfl rfl (by omega) (by decide) ?_
      refine EW.iast 2 (4 + k) hD rfl rfl rfl (by omega) (nI_add 4 k) (by omega) (by decide) ?_
      repeat refine EV.s rfl rfl rfl ?_
      exact ih (k + 1) (by omega) _ ((cpy_s key S 4 k).symm) _ (nI_1 k)
set_option maxHeartbeats 1000000 in
set_option maxRecDepth 100000 in
theorem r_sm2 (d M : Nat) (fs : List Value) (h22 : fs[22]? = some (.ref (M + 16))) (h23 : fs[23]? = some (.ref (M + 17))) (ct u l : Int32) (key S B : Nat → Int32) (hb : bs ≤ M) (h : e_H) (hD : [M, M + 10, M + 16, M + 17].Nodup) (E : e_C ⊕ (Option Value × e_H) → Prop)
    (hK : ∀ (ki : Int32), ev_E tbs bs sa (d + 2) t_X5_stream E (126, [some (.ref M), some (.int ct), some (.int u), some (.int l), some (.int ki), none], [], wd [M, M + 10, M + 16, M + 17] [.inl (5, fs), .inr (.inl (8, key)), .inr (.inl (16, S)), .inr (.inl (16, va_cpy S B 0 0 16))] h)) :
    ∀ (c k : Nat), k + c = 16 → ∀ Z, Z = va_cpy S B 0 0 k → ∀ (ki : Int32), ki = nI k → ev_E tbs bs sa (d + 2) t_X5_stream E (103, [some (.ref M), some (.int ct), some (.int u), some (.int l), some (.int ki), none], [.int 16, .int ki], wd [M, M + 10, M + 16, M + 17] [.inl (5, fs), .inr (.inl (8, key)), .inr (.inl (16, S)), .inr (.inl (16, Z))] h) := by
  intro c
  induction c with
  | zero =>
    intro k hkc Z hZ ki hki
    have e : k = 16 := by omega
    subst e; subst hZ; subst hki
    refine EV.icm rfl (fun hc => ?_) (fun hc => ?_)
    · exact hK _
    · exact absurd (by decide : (16 : Int32) ≤ nI 16) (of_decide_eq_false hc)
  | succ c ih =>
    intro k hkc Z hZ ki hki
    subst hki; subst hZ
    refine EV.icm rfl (fun hc => ?_) (fun hc => ?_)
    · exact absurd (of_decide_eq_true hc) (nI_ge (b := 16) (by omega) (by decide))
    · repeat (first | refine EV.s rfl rfl rfl ?_ | refine EW.get 0 hD rfl rfl rfl h22 ?_ | refine EW.get 0 hD rfl rfl rfl h23 ?_)
      refine EW.iald 2 k hD rfl rfl rfl rfl (by omega) (by decide) ?_
      refine EW.iast 3 k hD rfl rfl rfl (by omega) rfl (by omega) (by decide) ?_
      repeat refine EV.s rfl rfl rfl ?_
      exact ih (k + 1) (by omega) _ (by rw [cpy_s, Nat.zero_add]) _ (nI_1 k)
set_option maxHeartbeats 1000000 in
set_option maxRecDepth 100000 in
theorem r_sm3 (d M : Nat) (fs : List Value) (h23 : fs[23]? = some (.ref (M + 17))) (ct u l ri : Int32) (key S B : Nat → Int32) (hb : bs ≤ M) (h : e_H) (hD : [M, M + 10, M + 16, M + 17].Nodup) (E : e_C ⊕ (Option Value × e_H) → Prop)
    (hK : ∀ (ki : Int32), ev_E tbs bs sa (d + 2) t_X5_stream E (171, [some (.ref M), some (.int ct), some (.int u), some (.int l), some (.int ri), some (.int ki)], [], wd [M, M + 10, M + 16, M + 17] [.inl (5, fs), .inr (.inl (8, key)), .inr (.inl (16, S)), .inr (.inl (16, qco B 4))] h)) :
    ∀ (c k : Nat), k + c = 4 → ∀ Z, Z = qco B k → ∀ (ki : Int32), ki = nI k → ev_E tbs bs sa (d + 2) t_X5_stream E (142, [some (.ref M), some (.int ct), some (.int u), some (.int l), some (.int ri), some (.int ki)], [.int 4, .int ki], wd [M, M + 10, M + 16, M + 17] [.inl (5, fs), .inr (.inl (8, key)), .inr (.inl (16, S)), .inr (.inl (16, Z))] h) := by
  intro c
  induction c with
  | zero =>
    intro k hkc Z hZ ki hki
    have e : k = 4 := by omega
    subst e; subst hZ; subst hki
    refine EV.icm rfl (fun hc => ?_) (fun hc => ?_)
    · exact hK _
    · exact absurd (by decide : (4 : Int32) ≤ nI 4) (of_decide_eq_false hc)
  | succ c ih =>
    intro k hkc Z hZ ki hki
    subst hki; subst hZ
    refine EV.icm rfl (fun hc => ?_) (fun hc => ?_)
    · exact absurd (of_decide_eq_true hc) (nI_ge (b := 4) (by omega) (by decide))
    · repeat refine EV.s rfl rfl rfl ?_
      refine EW.cv 0 [0, 3] hD rfl (fun h0 => r_quarter d M k (4 + k) (8 + k) (12 + k) fs h23 (qco B k) h0 (nd_sub hD [0, 3] (by decide) rfl) hb (by omega) (by omega) (by omega) (by omega)) rfl rfl rfl rfl (Nat.le_of_ble_eq_true rfl) (Nat.le_of_ble_eq_true rfl) (by rw [← nI_add 4 k, ← nI_add 8 k, ← nI_add 12 k]; rfl) rfl rfl rfl ?_
      try simp only [setm, List.set_cons_succ, List.set_cons_zero, Option.toList, List.nil_append, List.cons_append]
      repeat refine EV.s rfl rfl rfl ?_
      exact ih (k + 1) (by omega) _ (rfl) _ (nI_1 k)
set_option maxHeartbeats 1000000 in
set_option maxRecDepth 100000 in
theorem r_sm4 (d M : Nat) (fs : List Value) (h23 : fs[23]? = some (.ref (M + 17))) (ct u l ri : Int32) (key S B : Nat → Int32) (hb : bs ≤ M) (h : e_H) (hD : [M, M + 10, M + 16, M + 17].Nodup) (E : e_C ⊕ (Option Value × e_H) → Prop)
    (hK : ∀ (ki : Int32), ev_E tbs bs sa (d + 2) t_X5_stream E (218, [some (.ref M), some (.int ct), some (.int u), some (.int l), some (.int ri), some (.int ki)], [], wd [M, M + 10, M + 16, M + 17] [.inl (5, fs), .inr (.inl (8, key)), .inr (.inl (16, S)), .inr (.inl (16, qdi B 4))] h)) :
    ∀ (c k : Nat), k + c = 4 → ∀ Z, Z = qdi B k → ∀ (ki : Int32), ki = nI k → ev_E tbs bs sa (d + 2) t_X5_stream E (177, [some (.ref M), some (.int ct), some (.int u), some (.int l), some (.int ri), some (.int ki)], [.int 4, .int ki], wd [M, M + 10, M + 16, M + 17] [.inl (5, fs), .inr (.inl (8, key)), .inr (.inl (16, S)), .inr (.inl (16, Z))] h) := by
  intro c
  induction c with
  | zero =>
    intro k hkc Z hZ ki hki
    have e : k = 4 := by omega
    subst e; subst hZ; subst hki
    refine EV.icm rfl (fun hc => ?_) (fun hc => ?_)
    · exact hK _
    · exact absurd (by decide : (4 : Int32) ≤ nI 4) (of_decide_eq_false hc)
  | succ c ih =>
    intro k hkc Z hZ ki hki
    subst hki; subst hZ
    refine EV.icm rfl (fun hc => ?_) (fun hc => ?_)
    · exact absurd (of_decide_eq_true hc) (nI_ge (b := 4) (by omega) (by decide))
    · have em : ∀ (a q : Nat), a < 100 → q < 100 → nI q + (nI k + nI a - (nI k + nI a) / 4 * 4) = nI (q + (k + a) % 4) := by
        intro a q ha hq
        rw [nI_add k a, show (4 : Int32) = nI 4 from rfl, pk_rem (d := 4) (by omega) (by omega) (by omega), nI_add]
      repeat refine EV.s rfl rfl rfl ?_
      refine EW.cv 0 [0, 3] hD rfl (fun h0 => r_quarter d M k (4 + (k + 1) % 4) (8 + (k + 2) % 4) (12 + (k + 3) % 4) fs h23 (qdi B k) h0 (nd_sub hD [0, 3] (by decide) rfl) hb (by omega) (by omega) (by omega) (by omega)) rfl rfl rfl rfl (Nat.le_of_ble_eq_true rfl) (Nat.le_of_ble_eq_true rfl) (by rw [← em 1 4 (by decide) (by decide), ← em 2 8 (by decide) (by decide), ← em 3 12 (by decide) (by decide)]; rfl) rfl rfl rfl ?_
      try simp only [setm, List.set_cons_succ, List.set_cons_zero, Option.toList, List.nil_append, List.cons_append]
      repeat refine EV.s rfl rfl rfl ?_
      exact ih (k + 1) (by omega) _ (rfl) _ (nI_1 k)
set_option maxHeartbeats 1000000 in
set_option maxRecDepth 100000 in
theorem r_sm5 (d M : Nat) (fs : List Value) (h23 : fs[23]? = some (.ref (M + 17))) (ct u l : Int32) (key S B : Nat → Int32) (hb : bs ≤ M) (h : e_H) (hD : [M, M + 10, M + 16, M + 17].Nodup) (E : e_C ⊕ (Option Value × e_H) → Prop)
    (hK : ∀ (ki : Int32) (l5 : Option Value), ev_E tbs bs sa (d + 2) t_X5_stream E (224, [some (.ref M), some (.int ct), some (.int u), some (.int l), some (.int ki), l5], [], wd [M, M + 10, M + 16, M + 17] [.inl (5, fs), .inr (.inl (8, key)), .inr (.inl (16, S)), .inr (.inl (16, drs B 10))] h)) :
    ∀ (c k : Nat), k + c = 10 → ∀ Z, Z = drs B k → ∀ (ki : Int32), ki = nI k → ∀ (l5 : Option Value), ev_E tbs bs sa (d + 2) t_X5_stream E (133, [some (.ref M), some (.int ct), some (.int u), some (.int l), some (.int ki), l5], [.int 10, .int ki], wd [M, M + 10, M + 16, M + 17] [.inl (5, fs), .inr (.inl (8, key)), .inr (.inl (16, S)), .inr (.inl (16, Z))] h) := by
  intro c
  induction c with
  | zero =>
    intro k hkc Z hZ ki hki l5
    have e : k = 10 := by omega
    subst e; subst hZ; subst hki
    refine EV.icm rfl (fun hc => ?_) (fun hc => ?_)
    · exact hK _ _
    · exact absurd (by decide : (10 : Int32) ≤ nI 10) (of_decide_eq_false hc)
  | succ c ih =>
    intro k hkc Z hZ ki hki l5
    subst hki; subst hZ
    refine EV.icm rfl (fun hc => ?_) (fun hc => ?_)
    · exact absurd (of_decide_eq_true hc) (nI_ge (b := 10) (by omega) (by decide))
    · repeat refine EV.s rfl rfl rfl ?_
      refine r_sm3 d M fs h23 ct u l (nI k) key S (drs B k) hb h hD _ (fun ki => ?_) 4 0 rfl _ rfl _ rfl
      repeat refine EV.s rfl rfl rfl ?_
      refine r_sm4 d M fs h23 ct u l (nI k) key S (qco (drs B k) 4) hb h hD _ (fun ki => ?_) 4 0 rfl _ rfl _ rfl
      repeat refine EV.s rfl rfl rfl ?_
      exact ih (k + 1) (by omega) _ (qdi_dr (drs B k)) _ (nI_1 k) _
set_option maxHeartbeats 1000000 in
set_option maxRecDepth 100000 in
theorem r_sm6 (d M : Nat) (fs : List Value) (h22 : fs[22]? = some (.ref (M + 16))) (h23 : fs[23]? = some (.ref (M + 17))) (ct u l : Int32) (l5 : Option Value) (key S B : Nat → Int32) (hb : bs ≤ M) (h : e_H) (hD : [M, M + 10, M + 16, M + 17].Nodup) (E : e_C ⊕ (Option Value × e_H) → Prop)
    (hK : E (.inr (none, wd [M, M + 10, M + 16, M + 17] [.inl (5, fs), .inr (.inl (8, key)), .inr (.inl (16, S)), .inr (.inl (16, adk B S 16))] h))) :
    ∀ (c k : Nat), k + c = 16 → ∀ Z, Z = adk B S k → ∀ (ki : Int32), ki = nI k → ev_E tbs bs sa (d + 2) t_X5_stream E (231, [some (.ref M), some (.int ct), some (.int u), some (.int l), some (.int ki), l5], [.int 16, .int ki], wd [M, M + 10, M + 16, M + 17] [.inl (5, fs), .inr (.inl (8, key)), .inr (.inl (16, S)), .inr (.inl (16, Z))] h) := by
  intro c
  induction c with
  | zero =>
    intro k hkc Z hZ ki hki
    have e : k = 16 := by omega
    subst e; subst hZ; subst hki
    refine EV.icm rfl (fun hc => ?_) (fun hc => ?_)
    · refine EV.ret rfl ?_
      exact hK
    · exact absurd (by decide : (16 : Int32) ≤ nI 16) (of_decide_eq_false hc)
  | succ c ih =>
    intro k hkc Z hZ ki hki
    subst hki; subst hZ
    refine EV.icm rfl (fun hc => ?_) (fun hc => ?_)
    · exact absurd (of_decide_eq_true hc) (nI_ge (b := 16) (by omega) (by decide))
    · repeat (first | refine EV.s rfl rfl rfl ?_ | refine EW.get 0 hD rfl rfl rfl h22 ?_ | refine EW.get 0 hD rfl rfl rfl h23 ?_)
      refine EW.iald 3 k hD rfl rfl rfl rfl (by omega) (by decide) ?_
      repeat (first | refine EV.s rfl rfl rfl ?_ | refine EW.get 0 hD rfl rfl rfl h22 ?_ | refine EW.get 0 hD rfl rfl rfl h23 ?_)
      refine EW.iald 2 k hD rfl rfl rfl rfl (by omega) (by decide) ?_
      repeat refine EV.s rfl rfl rfl ?_
      refine EW.iast 3 k hD rfl rfl rfl (by omega) rfl (by omega) (by decide) ?_
      repeat refine EV.s rfl rfl rfl ?_
      exact ih (k + 1) (by omega) _ ((adk_s B S k).symm) _ (nI_1 k)
set_option maxHeartbeats 1000000 in
set_option maxRecDepth 100000 in
theorem r_stream (d M : Nat) (fs : List Value) (h11 : fs[11]? = some (.ref (M + 10))) (h22 : fs[22]? = some (.ref (M + 16))) (h23 : fs[23]? = some (.ref (M + 17))) (ct u l : Int32) (key S B : Nat → Int32) (hD : [M, M + 10, M + 16, M + 17].Nodup) (hb : bs ≤ M) :
    CT bs sa (d + 3) 76 [.ref M, .int ct, .int u, .int l] [M, M + 10, M + 16, M + 17] [.inl (5, fs), .inr (.inl (8, key)), .inr (.inl (16, S)), .inr (.inl (16, B))]
      (fun rv o => rv = none ∧ ∃ S' B', o = [.inl (5, fs), .inr (.inl (8, key)), .inr (.inl (16, S')), .inr (.inl (16, B'))] ∧ al B' (cha cc4 key ct u l)) := by
  refine CT.mk (T := t_X5_stream) rfl (Nat.le_of_ble_eq_true rfl) (fun h => ?_)
  repeat (first | refine EV.s rfl rfl rfl ?_ | refine EW.get 0 hD rfl rfl rfl h22 ?_)
  refine EW.iast 2 0 hD rfl rfl rfl (by omega) rfl (by decide) (by decide) ?_
  repeat (first | refine EV.s rfl rfl rfl ?_ | refine EW.get 0 hD rfl rfl rfl h22 ?_)
  refine EW.iast 2 1 hD rfl rfl rfl (by omega) rfl (by decide) (by decide) ?_
  repeat (first | refine EV.s rfl rfl rfl ?_ | refine EW.get 0 hD rfl rfl rfl h22 ?_)
  refine EW.iast 2 2 hD rfl rfl rfl (by omega) rfl (by decide) (by decide) ?_
  repeat (first | refine EV.s rfl rfl rfl ?_ | refine EW.get 0 hD rfl rfl rfl h22 ?_)
  refine EW.iast 2 3 hD rfl rfl rfl (by omega) rfl (by decide) (by decide) ?_
  repeat refine EV.s rfl rfl rfl ?_
  refine r_sm1 d M fs h11 h22 ct u l key (upd (upd (upd (upd S 0 1634760805) 1 857760878) 2 2036477234) 3 1797285236) B hb h hD _ (fun ki => ?_) 8 0 rfl _ (cpy_0 _ _ _).symm _ rfl
  repeat (first | refine EV.s rfl rfl rfl ?_ | refine EW.get 0 hD rfl rfl rfl h22 ?_)
  refine EW.iast 2 12 hD rfl rfl rfl (by omega) rfl (by decide) (by decide) ?_
  repeat (first | refine EV.s rfl rfl rfl ?_ | refine EW.get 0 hD rfl rfl rfl h22 ?_)
  refine EW.iast 2 13 hD rfl rfl rfl (by omega) rfl (by decide) (by decide) ?_
  repeat (first | refine EV.s rfl rfl rfl ?_ | refine EW.get 0 hD rfl rfl rfl h22 ?_)
  refine EW.iast 2 14 hD rfl rfl rfl (by omega) rfl (by decide) (by decide) ?_
  repeat (first | refine EV.s rfl rfl rfl ?_ | refine EW.get 0 hD rfl rfl rfl h22 ?_)
  refine EW.iast 2 15 hD rfl rfl rfl (by omega) rfl (by decide) (by decide) ?_
  repeat refine EV.s rfl rfl rfl ?_
  refine r_sm2 d M fs h22 h23 ct u l key (mst key S ct u l) B hb h hD _ (fun ki => ?_) 16 0 rfl B (cpy_0 _ _ _).symm _ rfl
  repeat refine EV.s rfl rfl rfl ?_
  refine r_sm5 d M fs h23 ct u l key (mst key S ct u l) (va_cpy (mst key S ct u l) B 0 0 16) hb h hD _ (fun ki l5 => ?_) 10 0 rfl _ rfl _ rfl none
  repeat refine EV.s rfl rfl rfl ?_
  refine r_sm6 d M fs h22 h23 ct u l l5 key (mst key S ct u l) (drs (va_cpy (mst key S ct u l) B 0 0 16) 10) hb h hD _ ?_ 16 0 rfl _ (adk_0 _ _).symm _ rfl
  refine ⟨_, _, rfl, _, ⟨⟨rfl, _, _, rfl, fun k hk => ?_⟩, rfl⟩, rfl⟩
  have h1 : al (va_cpy (mst key S ct u l) B 0 0 16) (cst cc4 key ct u l) := fun j hj => by rw [cpy_lo hj, Nat.zero_add]; exact mst_al key S ct u l j hj
  simp only [adk, cha]
  rw [if_pos hk, drs_al h1 10 k hk, mst_al key S ct u l k hk]
end MST
