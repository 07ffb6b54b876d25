def fx (F : Nat → Int32) (f : Nat) (Y : Nat → Int32) (t : Nat) (g : Nat → Int32) (q : Nat) : Nat → Int32 := fun j => if t ≤ j ∧ j < t + q then F (f + (j - t)) ^^^ g (j - t) else Y j
theorem fx_0 (F : Nat → Int32) (f : Nat) (Y : Nat → Int32) (t : Nat) (g : Nat → Int32) : fx F f Y t g 0 = Y := by
  funext j; simp only [fx]; rw [if_neg (by omega)]
theorem fx_s (F : Nat → Int32) (f : Nat) (Y : Nat → Int32) (t : Nat) (g : Nat → Int32) (q : Nat) (x : Int32) (hx : x = g q) : fx F f Y t g (q + 1) = upd (fx F f Y t g q) (t + q) (F (f + q) ^^^ x) := by
  subst hx
  funext j
  simp only [fx, upd]
  by_cases e : j = t + q
  · subst e; rw [if_pos rfl, if_pos (by omega), Nat.add_sub_cancel_left]
  · rw [if_neg e]
    by_cases z : t ≤ j ∧ j < t + q
    · rw [if_pos z, if_pos (by omega)]
    · rw [if_neg z, if_neg (by omega)]
theorem fx_lo {F : Nat → Int32} {f : Nat} {Y : Nat → Int32} {t : Nat} {g : Nat → Int32} {q j : Nat} (h : j < t) : fx F f Y t g q j = Y j := by
  simp only [fx]; rw [if_neg (by omega)]
section MSL
variable {bs : Nat} {sa : Nat → Nat}
set_option maxHeartbeats 1000000 in
set_option maxRecDepth 100000 in
theorem r_sealAin (d M f t b : Nat) (fs : List Value) (h23 : fs[23]? = some (.ref (M + 17))) (hf : f + 32 ≤ 1280) (ht : t + 32 ≤ 64) (hb2 : b < 2) (g W B key S St : Nat → Int32) (hSt : ∀ k, k < 16 → St k = g (16 * b + k)) (bi : Int32) (hbi : bi = nI b) (hb : bs ≤ M) (h : e_H) (hD : [M, M + 7, M + 9, M + 10, M + 16, M + 17].Nodup) (E : e_C ⊕ (Option Value × e_H) → Prop)
    (hK : ∀ (ki : Int32), ev_E tbs bs sa (d + 3) t_X5_seal E (78, [some (.ref M), some (.ref (M + 7)), some (.int (nI f)), some (.ref (M + 9)), some (.int (nI t)), some (.int bi), some (.int ki)], [], wd [M, M + 7, M + 9, M + 10, M + 16, M + 17] [.inl (5, fs), .inr (.inl (1280, W)), .inr (.inl (64, fx W f B t g (16 * b + 16))), .inr (.inl (8, key)), .inr (.inl (16, S)), .inr (.inl (16, St))] h)) :
    ∀ (c k : Nat), k + c = 16 → ∀ Z, Z = fx W f B t g (16 * b + k) → ∀ (ki : Int32), ki = nI k → ev_E tbs bs sa (d + 3) t_X5_seal E (36, [some (.ref M), some (.ref (M + 7)), some (.int (nI f)), some (.ref (M + 9)), some (.int (nI t)), some (.int bi), some (.int ki)], [.int 16, .int ki], wd [M, M + 7, M + 9, M + 10, M + 16, M + 17] [.inl (5, fs), .inr (.inl (1280, W)), .inr (.inl (64, Z)), .inr (.inl (8, key)), .inr (.inl (16, S)), .inr (.inl (16, St))] h) := by
  intro c
  induction c with
  | zero =>
    intro k hkc Z hZ ki hki
    have e : k = 16 := by omega
    subst e; subst hZ; subst hki
    refine EV.icm rfl (fun hc => ?_) (fun hc => ?_)
    · exact hK _
    · exact absurd (by decide : (16 : Int32) ≤ nI 16) (of_decide_eq_false hc)
  | succ c ih =>
    intro k hkc Z hZ ki hki
    subst hki; subst hZ
    refine EV.icm rfl (fun hc => ?_) (fun hc => ?_)
    · exact absurd (of_decide_eq_true hc) (nI_ge (b := 16) (by omega) (by decide))
    · have e1 : nI t + 16 * bi + nI k = nI (t + (16 * b + k)) := by
        have a1 : (16 : Int32) * bi = nI (16 * b) := by rw [hbi]; exact pk_mul 16 b
        rw [a1, nI_add, nI_add]; congr 1; omega
      have e2 : nI f + 16 * bi + nI k = nI (f + (16 * b + k)) := by
        have a1 : (16 : Int32) * bi = nI (16 * b) := by rw [hbi]; exact pk_mul 16 b
        rw [a1, nI_add, nI_add]; congr 1; omega
      repeat refine EV.s rfl rfl rfl ?_
      refine EW.iald 1 (f + (16 * b + k)) hD rfl rfl rfl e2 (by omega) (by decide) ?_
      repeat (first | refine EV.s rfl rfl rfl ?_ | refine EW.get 0 hD rfl rfl rfl h23 ?_)
      refine EW.iald 5 k hD rfl rfl rfl rfl (by omega) (by decide) ?_
      repeat refine EV.s rfl rfl rfl ?_
      refine EW.iast 2 (t + (16 * b + k)) hD rfl rfl rfl (by omega) e1 (by omega) (by decide) ?_
      repeat refine EV.s rfl rfl rfl ?_
      exact ih (k + 1) (by omega) _ ((fx_s W f B t g (16 * b + k) (St k) (hSt k (by omega))).symm) _ (nI_1 k)
set_option maxHeartbeats 1000000 in
set_option maxRecDepth 100000 in
theorem r_sealAout (d M f t : Nat) (fs : List Value) (h10 : fs[10]? = some (.ref (M + 9))) (h11 : fs[11]? = some (.ref (M + 10))) (h22 : fs[22]? = some (.ref (M + 16))) (h23 : fs[23]? = some (.ref (M + 17))) (hf : f + 32 ≤ 1280) (ht : t + 32 ≤ 64) (h8 : 6 ≤ t) (W B key : Nat → Int32) (hb : bs ≤ M) (h : e_H) (hD : [M, M + 7, M + 9, M + 10, M + 16, M + 17].Nodup) (E : e_C ⊕ (Option Value × e_H) → Prop)
    (hK : ∀ S St, E (.inr (none, wd [M, M + 7, M + 9, M + 10, M + 16, M + 17] [.inl (5, fs), .inr (.inl (1280, W)), .inr (.inl (64, fx W f B t (sm cc4 key (B 4) (B 5)) 32)), .inr (.inl (8, key)), .inr (.inl (16, S)), .inr (.inl (16, St))] h))) :
    ∀ (c b : Nat), b + c = 2 → ∀ Z, Z = fx W f B t (sm cc4 key (B 4) (B 5)) (16 * b) → ∀ (ki : Int32), ki = nI b → ∀ (l6 : Option Value) (S St : Nat → Int32), ev_E tbs bs sa (d + 3) t_X5_seal E (6, [some (.ref M), some (.ref (M + 7)), some (.int (nI f)), some (.ref (M + 9)), some (.int (nI t)), some (.int ki), l6], [.int 2, .int ki], wd [M, M + 7, M + 9, M + 10, M + 16, M + 17] [.inl (5, fs), .inr (.inl (1280, W)), .inr (.inl (64, Z)), .inr (.inl (8, key)), .inr (.inl (16, S)), .inr (.inl (16, St))] h) := by
  intro c
  induction c with
  | zero =>
    intro b hkc Z hZ ki hki l6 S St
    have e : b = 2 := by omega
    subst e; subst hZ; subst hki
    refine EV.icm rfl (fun hc => ?_) (fun hc => ?_)
    · refine EV.ret rfl ?_
      exact hK S St
    · exact absurd (by decide : (2 : Int32) ≤ nI 2) (of_decide_eq_false hc)
  | succ c ih =>
    intro b hkc Z hZ ki hki l6 S St
    subst hki; subst hZ
    refine EV.icm rfl (fun hc => ?_) (fun hc => ?_)
    · exact absurd (of_decide_eq_true hc) (nI_ge (b := 2) (by omega) (by decide))
    · repeat (first | refine EV.s rfl rfl rfl ?_ | refine EW.get 0 hD rfl rfl rfl h10 ?_)
      refine EW.iald 2 4 hD rfl rfl rfl rfl (by decide) (by decide) ?_
      repeat (first | refine EV.s rfl rfl rfl ?_ | refine EW.get 0 hD rfl rfl rfl h10 ?_)
      refine EW.iald 2 5 hD rfl rfl rfl rfl (by decide) (by decide) ?_
      rw [fx_lo (j := 4) (by omega), fx_lo (j := 5) (by omega)]
      refine EW.cvE 0 [0, 3, 4, 5] hD (r_stream d M fs h11 h22 h23 (1 + nI b) (B 4) (B 5) key S St (nd_sub hD [0, 3, 4, 5] (by decide) rfl) hb) rfl rfl rfl rfl rfl (Nat.le_of_ble_eq_true rfl) (Nat.le_of_ble_eq_true rfl) rfl rfl rfl ?_
      rintro rv os2 ⟨rfl, S', St', rfl, hal⟩
      try simp only [setm, List.set_cons_succ, List.set_cons_zero, Option.toList, List.nil_append, List.cons_append]
      repeat refine EV.s rfl rfl rfl ?_
      refine r_sealAin d M f t b fs h23 hf ht (by omega) (sm cc4 key (B 4) (B 5)) W B key S' St' (fun k hk => ?_) (nI b) rfl hb h hD _ (fun ki => ?_) 16 0 rfl _ rfl _ rfl
      · rw [hal k hk]
        simp only [sm]
        rw [show (16 * b + k) / 16 = b by omega, show (16 * b + k) % 16 = k by omega, Int32.add_comm]
      · repeat refine EV.s rfl rfl rfl ?_
        exact ih (b + 1) (by omega) _ rfl _ (nI_1 b) _ _ _
set_option maxHeartbeats 1000000 in
set_option maxRecDepth 100000 in
theorem r_sealA (d M f t : Nat) (fs : List Value) (h10 : fs[10]? = some (.ref (M + 9))) (h11 : fs[11]? = some (.ref (M + 10))) (h22 : fs[22]? = some (.ref (M + 16))) (h23 : fs[23]? = some (.ref (M + 17))) (hf : f + 32 ≤ 1280) (ht : t + 32 ≤ 64) (h8 : 6 ≤ t) (W B key S St : Nat → Int32) (hb : bs ≤ M) (hD : [M, M + 7, M + 9, M + 10, M + 16, M + 17].Nodup) :
    CT bs sa (d + 4) 77 [.ref M, .ref (M + 7), .int (nI f), .ref (M + 9), .int (nI t)] [M, M + 7, M + 9, M + 10, M + 16, M + 17] [.inl (5, fs), .inr (.inl (1280, W)), .inr (.inl (64, B)), .inr (.inl (8, key)), .inr (.inl (16, S)), .inr (.inl (16, St))]
      (fun rv o => rv = none ∧ ∃ S' St', o = [.inl (5, fs), .inr (.inl (1280, W)), .inr (.inl (64, fx W f B t (sm cc4 key (B 4) (B 5)) 32)), .inr (.inl (8, key)), .inr (.inl (16, S')), .inr (.inl (16, St'))]) := by
  refine CT.mk (T := t_X5_seal) rfl (Nat.le_of_ble_eq_true rfl) (fun h => ?_)
  repeat refine EV.s rfl rfl rfl ?_
  refine r_sealAout d M f t fs h10 h11 h22 h23 hf ht h8 W B key hb h hD _ (fun S' St' => ?_) 2 0 rfl _ (fx_0 _ _ _ _ _).symm _ rfl none S St
  exact ⟨_, _, rfl, _, ⟨⟨rfl, S', St', rfl⟩, rfl⟩, rfl⟩
set_option maxHeartbeats 1000000 in
set_option maxRecDepth 100000 in
theorem r_sealBin (d M f t b : Nat) (fs : List Value) (h23 : fs[23]? = some (.ref (M + 17))) (hf : f + 32 ≤ 64) (ht : t + 32 ≤ 1280) (hb2 : b < 2) (g W B key S St : Nat → Int32) (hSt : ∀ k, k < 16 → St k = g (16 * b + k)) (bi : Int32) (hbi : bi = nI b) (hb : bs ≤ M) (h : e_H) (hD : [M, M + 7, M + 9, M + 10, M + 16, M + 17].Nodup) (E : e_C ⊕ (Option Value × e_H) → Prop)
    (hK : ∀ (ki : Int32), ev_E tbs bs sa (d + 3) t_X5_seal E (78, [some (.ref M), some (.ref (M + 9)), some (.int (nI f)), some (.ref (M + 7)), some (.int (nI t)), some (.int bi), some (.int ki)], [], wd [M, M + 7, M + 9, M + 10, M + 16, M + 17] [.inl (5, fs), .inr (.inl (1280, fx B f W t g (16 * b + 16))), .inr (.inl (64, B)), .inr (.inl (8, key)), .inr (.inl (16, S)), .inr (.inl (16, St))] h)) :
    ∀ (c k : Nat), k + c = 16 → ∀ Z, Z = fx B f W t g (16 * b + k) → ∀ (ki : Int32), ki = nI k → ev_E tbs bs sa (d + 3) t_X5_seal E (36, [some (.ref M), some (.ref (M + 9)), some (.int (nI f)), some (.ref (M + 7)), some (.int (nI t)), some (.int bi), some (.int ki)], [.int 16, .int ki], wd [M, M + 7, M + 9, M + 10, M + 16, M + 17] [.inl (5, fs), .inr (.inl (1280, Z)), .inr (.inl (64, B)), .inr (.inl (8, key)), .inr (.inl (16, S)), .inr (.inl (16, St))] h) := by
  intro c
  induction c with
  | zero =>
    intro k hkc Z hZ ki hki
    have e : k = 16 := by omega
    subst e; subst hZ; subst hki
    refine EV.icm rfl (fun hc => ?_) (fun hc => ?_)
    · exact hK _
    · exact absurd (by decide : (16 : Int32) ≤ nI 16) (of_decide_eq_false hc)
  | succ c ih =>
    intro k hkc Z hZ ki hki
    subst hki; subst hZ
    refine EV.icm rfl (fun hc => ?_) (fun hc => ?_)
    · exact absurd (of_decide_eq_true hc) (nI_ge (b := 16) (by omega) (by decide))
    · have e1 : nI t + 16 * bi + nI k = nI (t + (16 * b + k)) := by
        have a1 : (16 : Int32) * bi = nI (16 * b) := by rw [hbi]; exact pk_mul 16 b
        rw [a1, nI_add, nI_add]; congr 1; omega
      have e2 : nI f + 16 * bi + nI k = nI (f + (16 * b + k)) := by
        have a1 : (16 : Int32) * bi = nI (16 * b) := by rw [hbi]; exact pk_mul 16 b
        rw [a1, nI_add, nI_add]; congr 1; omega
      repeat refine EV.s rfl rfl rfl ?_
      refine EW.iald 2 (f + (16 * b + k)) hD rfl rfl rfl e2 (by omega) (by decide) ?_
      repeat (first | refine EV.s rfl rfl rfl ?_ | refine EW.get 0 hD rfl rfl rfl h23 ?_)
      refine EW.iald 5 k hD rfl rfl rfl rfl (by omega) (by decide) ?_
      repeat refine EV.s rfl rfl rfl ?_
      refine EW.iast 1 (t + (16 * b + k)) hD rfl rfl rfl (by omega) e1 (by omega) (by decide) ?_
      repeat refine EV.s rfl rfl rfl ?_
      exact ih (k + 1) (by omega) _ ((fx_s B f W t g (16 * b + k) (St k) (hSt k (by omega))).symm) _ (nI_1 k)
set_option maxHeartbeats 1000000 in
set_option maxRecDepth 100000 in
theorem r_sealBout (d M f t : Nat) (fs : List Value) (h10 : fs[10]? = some (.ref (M + 9))) (h11 : fs[11]? = some (.ref (M + 10))) (h22 : fs[22]? = some (.ref (M + 16))) (h23 : fs[23]? = some (.ref (M + 17))) (hf : f + 32 ≤ 64) (ht : t + 32 ≤ 1280) (W B key : Nat → Int32) (hb : bs ≤ M) (h : e_H) (hD : [M, M + 7, M + 9, M + 10, M + 16, M + 17].Nodup) (E : e_C ⊕ (Option Value × e_H) → Prop)
    (hK : ∀ S St, E (.inr (none, wd [M, M + 7, M + 9, M + 10, M + 16, M + 17] [.inl (5, fs), .inr (.inl (1280, fx B f W t (sm cc4 key (B 4) (B 5)) 32)), .inr (.inl (64, B)), .inr (.inl (8, key)), .inr (.inl (16, S)), .inr (.inl (16, St))] h))) :
    ∀ (c b : Nat), b + c = 2 → ∀ Z, Z = fx B f W t (sm cc4 key (B 4) (B 5)) (16 * b) → ∀ (ki : Int32), ki = nI b → ∀ (l6 : Option Value) (S St : Nat → Int32), ev_E tbs bs sa (d + 3) t_X5_seal E (6, [some (.ref M), some (.ref (M + 9)), some (.int (nI f)), some (.ref (M + 7)), some (.int (nI t)), some (.int ki), l6], [.int 2, .int ki], wd [M, M + 7, M + 9, M + 10, M + 16, M + 17] [.inl (5, fs), .inr (.inl (1280, Z)), .inr (.inl (64, B)), .inr (.inl (8, key)), .inr (.inl (16, S)), .inr (.inl (16, St))] h) := by
  intro c
  induction c with
  | zero =>
    intro b hkc Z hZ ki hki l6 S St
    have e : b = 2 := by omega
    subst e; subst hZ; subst hki
    refine EV.icm rfl (fun hc => ?_) (fun hc => ?_)
    · refine EV.ret rfl ?_
      exact hK S St
    · exact absurd (by decide : (2 : Int32) ≤ nI 2) (of_decide_eq_false hc)
  | succ c ih =>
    intro b hkc Z hZ ki hki l6 S St
    subst hki; subst hZ
    refine EV.icm rfl (fun hc => ?_) (fun hc => ?_)
    · exact absurd (of_decide_eq_true hc) (nI_ge (b := 2) (by omega) (by decide))
    · repeat (first | refine EV.s rfl rfl rfl ?_ | refine EW.get 0 hD rfl rfl rfl h10 ?_)
      refine EW.iald 2 4 hD rfl rfl rfl rfl (by decide) (by decide) ?_
      repeat (first | refine EV.s rfl rfl rfl ?_ | refine EW.get 0 hD rfl rfl rfl h10 ?_)
      refine EW.iald 2 5 hD rfl rfl rfl rfl (by decide) (by decide) ?_
      skip
      refine EW.cvE 0 [0, 3, 4, 5] hD (r_stream d M fs h11 h22 h23 (1 + nI b) (B 4) (B 5) key S St (nd_sub hD [0, 3, 4, 5] (by decide) rfl) hb) rfl rfl rfl rfl rfl (Nat.le_of_ble_eq_true rfl) (Nat.le_of_ble_eq_true rfl) rfl rfl rfl ?_
      rintro rv os2 ⟨rfl, S', St', rfl, hal⟩
      try simp only [setm, List.set_cons_succ, List.set_cons_zero, Option.toList, List.nil_append, List.cons_append]
      repeat refine EV.s rfl rfl rfl ?_
      refine r_sealBin d M f t b fs h23 hf ht (by omega) (sm cc4 key (B 4) (B 5)) W B key S' St' (fun k hk => ?_) (nI b) rfl hb h hD _ (fun ki => ?_) 16 0 rfl _ rfl _ rfl
      · rw [hal k hk]
        simp only [sm]
        rw [show (16 * b + k) / 16 = b by omega, show (16 * b + k) % 16 = k by omega, Int32.add_comm]
      · repeat refine EV.s rfl rfl rfl ?_
        exact ih (b + 1) (by omega) _ rfl _ (nI_1 b) _ _ _
set_option maxHeartbeats 1000000 in
set_option maxRecDepth 100000 in
theorem r_sealB (d M f t : Nat) (fs : List Value) (h10 : fs[10]? = some (.ref (M + 9))) (h11 : fs[11]? = some (.ref (M + 10))) (h22 : fs[22]? = some (.ref (M + 16))) (h23 : fs[23]? = some (.ref (M + 17))) (hf : f + 32 ≤ 64) (ht : t + 32 ≤ 1280) (W B key S St : Nat → Int32) (hb : bs ≤ M) (hD : [M, M + 7, M + 9, M + 10, M + 16, M + 17].Nodup) :
    CT bs sa (d + 4) 77 [.ref M, .ref (M + 9), .int (nI f), .ref (M + 7), .int (nI t)] [M, M + 7, M + 9, M + 10, M + 16, M + 17] [.inl (5, fs), .inr (.inl (1280, W)), .inr (.inl (64, B)), .inr (.inl (8, key)), .inr (.inl (16, S)), .inr (.inl (16, St))]
      (fun rv o => rv = none ∧ ∃ S' St', o = [.inl (5, fs), .inr (.inl (1280, fx B f W t (sm cc4 key (B 4) (B 5)) 32)), .inr (.inl (64, B)), .inr (.inl (8, key)), .inr (.inl (16, S')), .inr (.inl (16, St'))]) := by
  refine CT.mk (T := t_X5_seal) rfl (Nat.le_of_ble_eq_true rfl) (fun h => ?_)
  repeat refine EV.s rfl rfl rfl ?_
  refine r_sealBout d M f t fs h10 h11 h22 h23 hf ht W B key hb h hD _ (fun S' St' => ?_) 2 0 rfl _ (fx_0 _ _ _ _ _).symm _ rfl none S St
  exact ⟨_, _, rfl, _, ⟨⟨rfl, S', St', rfl⟩, rfl⟩, rfl⟩
end MSL
