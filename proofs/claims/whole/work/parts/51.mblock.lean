section MHS2
variable {bs : Nat} {sa : Nat → Nat}
/-- a round of the Model: what stands in turn -/
def mrd (kk ww : Int32) (T : Nat → Int32) : Nat → Int32 := upd (upd (shf T 0) 4 (shf T 0 4 + (T 7 + (rr (T 4) 6 ^^^ rr (T 4) 11 ^^^ rr (T 4) 25) + ((T 4 &&& T 5) ^^^ ((T 4 ^^^ -1) &&& T 6)) + kk + ww))) 0 ((T 7 + (rr (T 4) 6 ^^^ rr (T 4) 11 ^^^ rr (T 4) 25) + ((T 4 &&& T 5) ^^^ ((T 4 ^^^ -1) &&& T 6)) + kk + ww) + ((rr (T 0) 2 ^^^ rr (T 0) 13 ^^^ rr (T 0) 22) + ((T 0 &&& T 1) ^^^ (T 0 &&& T 2) ^^^ (T 1 &&& T 2))))
theorem mrd_eq (kk ww : Int32) (T : Nat → Int32) {j : Nat} (hj : j < 8) : mrd kk ww T j = srd kk ww T j := by
  have : j = 0 ∨ j = 1 ∨ j = 2 ∨ j = 3 ∨ j = 4 ∨ j = 5 ∨ j = 6 ∨ j = 7 := by omega
  rcases this with rfl | rfl | rfl | rfl | rfl | rfl | rfl | rfl
  · simp only [mrd, srd, upd, if_pos]; rw [Int32.add_assoc (_ + ww)]
  all_goals rfl
theorem srd_congr (kk ww : Int32) {T T' : Nat → Int32} (h : ∀ j, j < 8 → T j = T' j) {j : Nat} (hj : j < 8) : srd kk ww T j = srd kk ww T' j := by
  simp only [srd]
  rw [h 0 (by omega), h 1 (by omega), h 2 (by omega), h 3 (by omega), h 4 (by omega), h 5 (by omega), h 6 (by omega), h 7 (by omega), h (j - 1) (by omega)]
set_option maxHeartbeats 2000000 in
set_option maxRecDepth 100000 in
theorem r_mb3 (d : Nat) (M : Nat) (fs : List Value) (h20 : fs[20]? = some (.ref (M + 14))) (h21 : fs[21]? = some (.ref (M + 15))) (fi : Int32) (A H G S K : Nat → Int32) (h : e_H) (hD : [M, M + 12, M + 13, M + 14, M + 15, sa 4].Nodup) (hb : bs ≤ M) (E : e_C ⊕ (Option Value × e_H) → Prop)
    (hK : ∀ T ki l3 l4 l5 l6 l7, (∀ j, j < 8 → T j = srs K G S 64 j) → ev_E tbs bs sa (d + 1) t_X5_block E (352, [some (.ref M), some (.int fi), some (.int ki), l3, l4, l5, l6, l7], [], wd [M, M + 12, M + 13, M + 14, M + 15, sa 4] [.inl (5, fs), .inr (.inl (80, A)), .inr (.inl (8, H)), .inr (.inl (64, G)), .inr (.inl (8, T)), .inr (.inl (64, K))] h)) :
    ∀ (n k : Nat), k + n = 64 → ∀ T, (∀ j, j < 8 → T j = srs K G S k j) → ∀ ki, ki = nI k → ∀ l3 l4 l5 l6 l7, ev_E tbs bs sa (d + 1) t_X5_block E (153, [some (.ref M), some (.int fi), some (.int ki), l3, l4, l5, l6, l7], [.int 64, .int ki], wd [M, M + 12, M + 13, M + 14, M + 15, sa 4] [.inl (5, fs), .inr (.inl (80, A)), .inr (.inl (8, H)), .inr (.inl (64, G)), .inr (.inl (8, T)), .inr (.inl (64, K))] h) := by
  intro n
  induction n with
  | zero =>
    intro k hk T hT ki hki l3 l4 l5 l6 l7
    have e : k = 64 := by omega
    subst e; subst hki
    refine EV.icm rfl (fun hc => ?_) (fun hc => ?_)
    · exact hK T _ _ _ _ _ _ hT
    · exact absurd (by decide : (64 : Int32) ≤ nI 64) (of_decide_eq_false hc)
  | succ n ih =>
    intro k hk T hT ki hki l3 l4 l5 l6 l7
    subst hki
    refine EV.icm rfl (fun hc => ?_) (fun hc => ?_)
    · exact absurd (of_decide_eq_true hc) (nI_ge (b := 64) (by omega) (by decide))
    · repeat (first | refine EV.s rfl rfl rfl ?_ | refine EW.get 0 hD rfl rfl rfl h21 ?_)
      refine EW.iald 4 0 hD rfl rfl rfl rfl (by decide) (by decide) ?_
      repeat (first | refine EV.s rfl rfl rfl ?_ | refine EW.get 0 hD rfl rfl rfl h21 ?_)
      refine EW.iald 4 4 hD rfl rfl rfl rfl (by decide) (by decide) ?_
      repeat (first | refine EV.s rfl rfl rfl ?_ | refine EW.get 0 hD rfl rfl rfl h21 ?_)
      refine EW.iald 4 7 hD rfl rfl rfl rfl (by decide) (by decide) ?_
      repeat refine EV.s rfl rfl rfl ?_
      refine EV.call rfl (r_right _ _ _ _) ?_
      repeat refine EV.s rfl rfl rfl ?_
      refine EV.call rfl (r_right _ _ _ _) ?_
      repeat refine EV.s rfl rfl rfl ?_
      refine EV.call rfl (r_right _ _ _ _) ?_
      repeat (first | refine EV.s rfl rfl rfl ?_ | refine EW.get 0 hD rfl rfl rfl h21 ?_)
      refine EW.iald 4 5 hD rfl rfl rfl rfl (by decide) (by decide) ?_
      repeat (first | refine EV.s rfl rfl rfl ?_ | refine EW.get 0 hD rfl rfl rfl h21 ?_)
      refine EW.iald 4 6 hD rfl rfl rfl rfl (by decide) (by decide) ?_
      repeat refine EV.s rfl rfl rfl ?_
      refine EW.iald 5 k hD rfl rfl rfl rfl (by omega) (by decide) ?_
      repeat (first | refine EV.s rfl rfl rfl ?_ | refine EW.get 0 hD rfl rfl rfl h20 ?_)
      refine EW.iald 3 k hD rfl rfl rfl rfl (by omega) (by decide) ?_
      repeat refine EV.s rfl rfl rfl ?_
      refine EV.call rfl (r_right _ _ _ _) ?_
      repeat refine EV.s rfl rfl rfl ?_
      refine EV.call rfl (r_right _ _ _ _) ?_
      repeat refine EV.s rfl rfl rfl ?_
      refine EV.call rfl (r_right _ _ _ _) ?_
      repeat (first | refine EV.s rfl rfl rfl ?_ | refine EW.get 0 hD rfl rfl rfl h21 ?_)
      refine EW.iald 4 1 hD rfl rfl rfl rfl (by decide) (by decide) ?_
      repeat (first | refine EV.s rfl rfl rfl ?_ | refine EW.get 0 hD rfl rfl rfl h21 ?_)
      refine EW.iald 4 2 hD rfl rfl rfl rfl (by decide) (by decide) ?_
      repeat (first | refine EV.s rfl rfl rfl ?_ | refine EW.get 0 hD rfl rfl rfl h21 ?_)
      refine EW.iald 4 1 hD rfl rfl rfl rfl (by decide) (by decide) ?_
      repeat (first | refine EV.s rfl rfl rfl ?_ | refine EW.get 0 hD rfl rfl rfl h21 ?_)
      refine EW.iald 4 2 hD rfl rfl rfl rfl (by decide) (by decide) ?_
      repeat refine EV.s rfl rfl rfl ?_
      refine r_mb3s d M fs h21 fi (nI k) _ _ _ _ A H G T K h hD hb _ (fun l7 => ?_) 7 (Nat.le_refl _) T (shf_7 T).symm _ rfl
      repeat (first | refine EV.s rfl rfl rfl ?_ | refine EW.get 0 hD rfl rfl rfl h21 ?_)
      refine EW.iald 4 4 hD rfl rfl rfl rfl (by decide) (by decide) ?_
      repeat refine EV.s rfl rfl rfl ?_
      refine EW.iast 4 4 hD rfl rfl rfl (by omega) rfl (by decide) (by decide) ?_
      repeat (first | refine EV.s rfl rfl rfl ?_ | refine EW.get 0 hD rfl rfl rfl h21 ?_)
      refine EW.iast 4 0 hD rfl rfl rfl (by omega) rfl (by decide) (by decide) ?_
      repeat refine EV.s rfl rfl rfl ?_
      refine ih (k + 1) (by omega) (mrd (K k) (G k) T) (fun j hj => ?_) _ (nI_1 k) _ _ _ _ _
      rw [mrd_eq _ _ _ hj, srd_congr _ _ hT hj]
      rfl
set_option maxHeartbeats 2000000 in
set_option maxRecDepth 100000 in
theorem r_block (d : Nat) (M fr : Nat) (fs : List Value) (h18 : fs[18]? = some (.ref (M + 12))) (h19 : fs[19]? = some (.ref (M + 13))) (h20 : fs[20]? = some (.ref (M + 14))) (h21 : fs[21]? = some (.ref (M + 15))) (hfr : fr + 16 ≤ 80) (A H G T K : Nat → Int32) (hD : [M, M + 12, M + 13, M + 14, M + 15, sa 4].Nodup) (hb : bs ≤ M) :
    CT bs sa (d + 2) 73 [.ref M, .int (nI fr)] [M, M + 12, M + 13, M + 14, M + 15, sa 4] [.inl (5, fs), .inr (.inl (80, A)), .inr (.inl (8, H)), .inr (.inl (64, G)), .inr (.inl (8, T)), .inr (.inl (64, K))]
      (fun rv o => rv = none ∧ ∃ H' G' T', o = [.inl (5, fs), .inr (.inl (80, A)), .inr (.inl (8, H')), .inr (.inl (64, G')), .inr (.inl (8, T')), .inr (.inl (64, K))] ∧ ∀ j, j < 8 → H' j = sbk K H (fun j => A (fr + j)) j) := by
  refine CT.mk (T := t_X5_block) rfl (Nat.le_of_ble_eq_true rfl) (fun h => ?_)
  repeat refine EV.s rfl rfl rfl ?_
  refine r_mb1 d M fr fs h18 h20 hfr A H G T K h hD hb _ (fun ki l3 l4 => ?_) 64 0 rfl G rfl _ rfl none none
  repeat refine EV.s rfl rfl rfl ?_
  refine r_mb2 d M fs h19 h21 (nI fr) l3 l4 none none none A H (mwi A G fr 64) T K h hD hb _ (fun ki => ?_) 8 0 rfl T (cpy_0 H T 0).symm _ rfl
  repeat refine EV.s rfl rfl rfl ?_
  refine r_mb3 d M fs h20 h21 (nI fr) A H (mwi A G fr 64) (va_cpy H T 0 0 8) K h hD hb _ (fun T' ki l3 l4 l5 l6 l7 hT => ?_) 64 0 rfl _ (fun _ _ => rfl) _ rfl l3 l4 none none none
  repeat refine EV.s rfl rfl rfl ?_
  refine r_mb4 d M fs h19 h21 (nI fr) l3 l4 l5 l6 l7 A H (mwi A G fr 64) T' K h hD hb _ ?_ 8 0 rfl H (adk_0 H T').symm _ rfl
  refine ⟨_, _, rfl, _, ⟨⟨rfl, _, _, _, rfl, fun j hj => ?_⟩, rfl⟩, rfl⟩
  simp only [adk, sbk]
  rw [if_pos hj, hT j hj, srs_congr (fun _ _ => rfl) (fun i hi => mwi_eq A G fr 64 i hi) (fun i hi => by rw [cpy_lo hi, Nat.zero_add]) 64 (Nat.le_refl _) j hj]
end MHS2
