def pmd (F : Nat → Int32) (L : Nat) : Nat → Int32 := upd (upd (zf F L (16 * snb L)) L (-2147483648)) (16 * snb L - 1) (32 * nI L)
theorem pmd_eq (F : Nat → Int32) (L : Nat) : pmd F L = pmc F L := by unfold pmd pmc; rw [Int32.mul_comm]
theorem pmd_lo {F : Nat → Int32} {L j : Nat} (h : j < L) : pmd F L j = F j := by
  have hb := snb_b (L := L)
  simp only [pmd, upd, zf]
  rw [if_neg (by omega), if_neg (by omega), if_neg (by omega)]
section MDG
variable {bs : Nat} {sa : Nat → Nat}
set_option maxHeartbeats 1000000 in
set_option maxRecDepth 100000 in
theorem r_dg1 (d : Nat) (M n : Nat) (nbi : Int32) (hnb : nbi = nI (snb n)) (hn : n ≤ 61) (fs : List Value) (h18 : fs[18]? = some (.ref (M + 12))) (A H G T I K : Nat → Int32) (h : e_H) (hD : [M, M + 12, M + 13, M + 14, M + 15, sa 3, sa 4].Nodup) (hb : bs ≤ M) (E : e_C ⊕ (Option Value × e_H) → Prop)
    (hK : ∀ ki, ev_E tbs bs sa (d + 2) t_X5_digest E (33, [some (.ref M), some (.int (nI n)), some (.int nbi), some (.int ki)], [], wd [M, M + 12, M + 13, M + 14, M + 15, sa 3, sa 4] [.inl (5, fs), .inr (.inl (80, zf A n (16 * snb n))), .inr (.inl (8, H)), .inr (.inl (64, G)), .inr (.inl (8, T)), .inr (.inl (8, I)), .inr (.inl (64, K))] h)) :
    ∀ (c k : Nat), k + c = 16 * snb n → n ≤ k → ∀ Z, Z = zf A n k → ∀ ki, ki = nI k → ev_E tbs bs sa (d + 2) t_X5_digest E (17, [some (.ref M), some (.int (nI n)), some (.int nbi), some (.int ki)], [.int (16 * nbi), .int ki], wd [M, M + 12, M + 13, M + 14, M + 15, sa 3, sa 4] [.inl (5, fs), .inr (.inl (80, Z)), .inr (.inl (8, H)), .inr (.inl (64, G)), .inr (.inl (8, T)), .inr (.inl (8, I)), .inr (.inl (64, K))] h) := by
  have h64 := snb_64 hn
  have e16 : 16 * nbi = nI (16 * snb n) := by rw [hnb]; exact pk_mul 16 _
  intro c
  induction c with
  | zero =>
    intro k hk hnk Z hZ ki hki
    have e : k = 16 * snb n := by omega
    subst hZ; subst hki; subst e
    refine EV.icm rfl (fun hc => ?_) (fun hc => ?_)
    · exact hK _
    · exact absurd (by rw [e16]; exact nI_le (Nat.le_refl _) (by omega)) (of_decide_eq_false hc)
  | succ c ih =>
    intro k hk hnk Z hZ ki hki
    subst hki; subst hZ
    refine EV.icm rfl (fun hc => ?_) (fun hc => ?_)
    · exact absurd (of_decide_eq_true hc) (by rw [e16]; exact nI_ge (by omega) (by omega))
    · repeat (first | refine EV.s rfl rfl rfl ?_ | refine EW.get 0 hD rfl rfl rfl h18 ?_)
      refine EW.iast 1 k hD rfl rfl rfl (by omega) rfl (by omega) (by decide) ?_
      repeat refine EV.s rfl rfl rfl ?_
      exact ih (k + 1) (by omega) (by omega) _ (zf_s A hnk).symm _ (nI_1 k)
set_option maxHeartbeats 1000000 in
set_option maxRecDepth 100000 in
theorem r_dg2 (d : Nat) (M : Nat) (nbi ni : Int32) (fs : List Value) (h19 : fs[19]? = some (.ref (M + 13))) (A H G T I K : Nat → Int32) (h : e_H) (hD : [M, M + 12, M + 13, M + 14, M + 15, sa 3, sa 4].Nodup) (hb : bs ≤ M) (E : e_C ⊕ (Option Value × e_H) → Prop)
    (hK : ∀ ki, ev_E tbs bs sa (d + 2) t_X5_digest E (81, [some (.ref M), some (.int ni), some (.int nbi), some (.int ki)], [], wd [M, M + 12, M + 13, M + 14, M + 15, sa 3, sa 4] [.inl (5, fs), .inr (.inl (80, A)), .inr (.inl (8, va_cpy I H 0 0 8)), .inr (.inl (64, G)), .inr (.inl (8, T)), .inr (.inl (8, I)), .inr (.inl (64, K))] h)) :
    ∀ (c k : Nat), k + c = 8 → ∀ Z, Z = va_cpy I H 0 0 k → ∀ ki, ki = nI k → ev_E tbs bs sa (d + 2) t_X5_digest E (61, [some (.ref M), some (.int ni), some (.int nbi), some (.int ki)], [.int 8, .int ki], wd [M, M + 12, M + 13, M + 14, M + 15, sa 3, sa 4] [.inl (5, fs), .inr (.inl (80, A)), .inr (.inl (8, Z)), .inr (.inl (64, G)), .inr (.inl (8, T)), .inr (.inl (8, I)), .inr (.inl (64, K))] h) := by
  intro c
  induction c with
  | zero =>
    intro k hk Z hZ ki hki
    have e : k = 8 := by omega
    subst e; subst hZ; subst hki
    refine EV.icm rfl (fun hc => ?_) (fun hc => ?_)
    · exact hK _
    · exact absurd (by decide : (8 : Int32) ≤ nI 8) (of_decide_eq_false hc)
  | succ c ih =>
    intro k hk Z hZ ki hki
    subst hki; subst hZ
    refine EV.icm rfl (fun hc => ?_) (fun hc => ?_)
    · exact absurd (of_decide_eq_true hc) (nI_ge (b := 8) (by omega) (by decide))
    · repeat (first | refine EV.s rfl rfl rfl ?_ | refine EW.get 0 hD rfl rfl rfl h19 ?_)
      refine EW.iald 5 k hD rfl rfl rfl rfl (by omega) (by decide) ?_
      refine EW.iast 2 k hD rfl rfl rfl (by omega) rfl (by omega) (by decide) ?_
      repeat refine EV.s rfl rfl rfl ?_
      refine ih (k + 1) (by omega) _ ?_ _ (nI_1 k)
      rw [cpy_s, Nat.zero_add]
set_option maxHeartbeats 1000000 in
set_option maxRecDepth 100000 in
theorem r_dg3 (d : Nat) (M nb : Nat) (nbi ni : Int32) (hnb : nbi = nI nb) (h64 : 16 * nb ≤ 64) (fs : List Value) (h18 : fs[18]? = some (.ref (M + 12))) (h19 : fs[19]? = some (.ref (M + 13))) (h20 : fs[20]? = some (.ref (M + 14))) (h21 : fs[21]? = some (.ref (M + 15))) (A H0 I K : Nat → Int32) (h : e_H) (hD : [M, M + 12, M + 13, M + 14, M + 15, sa 3, sa 4].Nodup) (hb : bs ≤ M) (E : e_C ⊕ (Option Value × e_H) → Prop)
    (hK : ∀ H G T, (∀ j, j < 8 → H j = sbs K A H0 nb j) → E (.inr (none, wd [M, M + 12, M + 13, M + 14, M + 15, sa 3, sa 4] [.inl (5, fs), .inr (.inl (80, A)), .inr (.inl (8, H)), .inr (.inl (64, G)), .inr (.inl (8, T)), .inr (.inl (8, I)), .inr (.inl (64, K))] h))) :
    ∀ (c b : Nat), b + c = nb → ∀ H G T, (∀ j, j < 8 → H j = sbs K A H0 b j) → ∀ ki, ki = nI b → ev_E tbs bs sa (d + 2) t_X5_digest E (85, [some (.ref M), some (.int ni), some (.int nbi), some (.int ki)], [.int nbi, .int ki], wd [M, M + 12, M + 13, M + 14, M + 15, sa 3, sa 4] [.inl (5, fs), .inr (.inl (80, A)), .inr (.inl (8, H)), .inr (.inl (64, G)), .inr (.inl (8, T)), .inr (.inl (8, I)), .inr (.inl (64, K))] h) := by
  intro c
  induction c with
  | zero =>
    intro b hk H G T hH ki hki
    have e : b = nb := by omega
    subst e; subst hki
    refine EV.icm rfl (fun hc => ?_) (fun hc => ?_)
    · refine EV.ret rfl ?_
      exact hK H G T hH
    · exact absurd (by rw [hnb]; exact nI_le (Nat.le_refl _) (by omega)) (of_decide_eq_false hc)
  | succ c ih =>
    intro b hk H G T hH ki hki
    subst hki
    refine EV.icm rfl (fun hc => ?_) (fun hc => ?_)
    · exact absurd (of_decide_eq_true hc) (by rw [hnb]; exact nI_ge (by omega) (by omega))
    · repeat refine EV.s rfl rfl rfl ?_
      refine EW.cvE 0 [0, 1, 2, 3, 4, 6] hD (r_block d M (16 * b) fs h18 h19 h20 h21 (by omega) A H G T K (nd_sub hD [0, 1, 2, 3, 4, 6] (by decide) rfl) hb) rfl rfl rfl rfl rfl (Nat.le_of_ble_eq_true rfl) (Nat.le_of_ble_eq_true rfl) (congrArg (fun q => [Value.ref M, Value.int q]) (pk_mul 16 b).symm) rfl rfl ?_
      rintro rv os2 ⟨rfl, H', G', T', rfl, hH'⟩
      try simp only [setm, List.set_cons_succ, List.set_cons_zero, Option.toList, List.nil_append, List.cons_append]
      repeat refine EV.s rfl rfl rfl ?_
      refine ih (b + 1) (by omega) H' G' T' (fun j hj => ?_) _ (nI_1 b)
      rw [hH' j hj]
      simp only [sbs, sbk]
      rw [hH j hj, srs_congr (fun _ _ => rfl) (fun _ _ => rfl) hH 64 (Nat.le_refl _) j hj]
set_option maxHeartbeats 1000000 in
set_option maxRecDepth 100000 in
theorem r_digest (d : Nat) (M n : Nat) (hn : n ≤ 61) (fs : List Value) (h18 : fs[18]? = some (.ref (M + 12))) (h19 : fs[19]? = some (.ref (M + 13))) (h20 : fs[20]? = some (.ref (M + 14))) (h21 : fs[21]? = some (.ref (M + 15))) (A H G T I K : Nat → Int32) (hD : [M, M + 12, M + 13, M + 14, M + 15, sa 3, sa 4].Nodup) (hb : bs ≤ M) :
    CT bs sa (d + 3) 72 [.ref M, .int (nI n)] [M, M + 12, M + 13, M + 14, M + 15, sa 3, sa 4] [.inl (5, fs), .inr (.inl (80, A)), .inr (.inl (8, H)), .inr (.inl (64, G)), .inr (.inl (8, T)), .inr (.inl (8, I)), .inr (.inl (64, K))]
      (fun rv o => rv = none ∧ ∃ H' G' T', o = [.inl (5, fs), .inr (.inl (80, pmd A n)), .inr (.inl (8, H')), .inr (.inl (64, G')), .inr (.inl (8, T')), .inr (.inl (8, I)), .inr (.inl (64, K))] ∧ ∀ j, j < 8 → H' j = sha K I A n j) := by
  have hb2 := snb_b (L := n)
  have h64 := snb_64 hn
  have hnb : (nI n + 3 + 15) / 16 = nI (snb n) := by
    have e1 : nI n + 3 = nI (n + 3) := nI_add n 3
    have e2 : nI (n + 3) + 15 = nI (n + 3 + 15) := nI_add _ 15
    have e4 : nI (n + 3 + 15) / 16 = nI ((n + 3 + 15) / 16) := pk_div (d := 16) (by omega) (by omega) (by omega)
    rw [e1, e2, e4]; rfl
  have e16 : 16 * ((nI n + 3 + 15) / 16) = nI (16 * snb n) := by rw [hnb]; exact pk_mul 16 _
  refine CT.mk (T := t_X5_digest) rfl (Nat.le_of_ble_eq_true rfl) (fun h => ?_)
  repeat refine EV.s rfl rfl rfl ?_
  refine r_dg1 d M n _ hnb hn fs h18 A H G T I K h hD hb _ (fun ki => ?_) (16 * snb n - n) n (by omega) (Nat.le_refl _) A (zf_0 A n).symm _ rfl
  repeat (first | refine EV.s rfl rfl rfl ?_ | refine EW.get 0 hD rfl rfl rfl h18 ?_)
  refine EW.iast 1 n hD rfl rfl rfl (by omega) rfl (by omega) (by decide) ?_
  repeat (first | refine EV.s rfl rfl rfl ?_ | refine EW.get 0 hD rfl rfl rfl h18 ?_)
  refine EW.iast 1 (16 * snb n - 1) hD rfl rfl rfl (by omega) (by rw [← pk_sub (b := 1) (by omega), ← e16]; rfl) (by omega) (by decide) ?_
  repeat refine EV.s rfl rfl rfl ?_
  refine r_dg2 d M _ (nI n) fs h19 (pmd A n) H G T I K h hD hb _ (fun ki => ?_) 8 0 rfl H (cpy_0 I H 0).symm _ rfl
  repeat refine EV.s rfl rfl rfl ?_
  refine r_dg3 d M (snb n) _ (nI n) hnb (by omega) fs h18 h19 h20 h21 (pmd A n) (va_cpy I H 0 0 8) I K h hD hb _ (fun H' G' T' hH => ?_) (snb n) 0 (by omega) _ G T (fun _ _ => rfl) _ rfl
  refine ⟨_, _, rfl, _, ⟨⟨rfl, H', G', T', rfl, fun j hj => ?_⟩, rfl⟩, rfl⟩
  rw [hH j hj]
  exact sbs_congr (N := snb n) (fun _ _ => rfl) (fun i hi => by rw [pmd_eq]; exact pmc_get hi) (fun i hi => by rw [cpy_lo hi, Nat.zero_add]) (snb n) (Nat.le_refl _) j hj
end MDG
