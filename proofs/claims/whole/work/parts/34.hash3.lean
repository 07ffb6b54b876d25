section HSH4
variable {bs : Nat} {sa : Nat → Nat}
theorem cpy_lo {f g : Nat → Int32} {sp n j : Nat} (h : j < n) : va_cpy f g sp 0 n j = f (sp + j) := by
  simp only [va_cpy]; rw [if_pos (by omega)]; congr 1
set_option maxHeartbeats 1000000 in
theorem r_fin_loop (d : Nat) (a m s t g L N at_ nb P : Nat) (hP : P = 16 * nb) (h64 : P ≤ 64) (M I K D H0 : Nat → Int32) (h : e_H) (hD : [a, m, s, t, sa 0, sa 1, g].Nodup) (hbs : bs ≤ s) (hbt : bs ≤ t) (E : e_C ⊕ (Option Value × e_H) → Prop)
    (hK : ∀ G Hf fi, (∀ i, i < 8 → Hf i = sbs K M H0 nb i) → ev_E tbs bs sa (d + 2) t_X0_finish E (44, [some (.ref a), some (.ref g), some (.int (nI at_)), some (.int (nI P)), some (.int fi)], [], wd [a, m, s, t, sa 0, sa 1, g] [.inl (0, [.ref m, .ref s, .ref t, .int (nI L)]), .inr (.inl (64, M)), .inr (.inl (64, G)), .inr (.inl (8, Hf)), .inr (.inl (8, I)), .inr (.inl (64, K)), .inr (.inl (N, D))] h)) :
    ∀ (n b : Nat), b + n = nb → ∀ G Hb, (∀ i, i < 8 → Hb i = sbs K M H0 b i) → ∀ fi, fi = nI (16 * b) → ev_E tbs bs sa (d + 2) t_X0_finish E (25, [some (.ref a), some (.ref g), some (.int (nI at_)), some (.int (nI P)), some (.int fi)], [.int (nI P), .int fi], wd [a, m, s, t, sa 0, sa 1, g] [.inl (0, [.ref m, .ref s, .ref t, .int (nI L)]), .inr (.inl (64, M)), .inr (.inl (64, G)), .inr (.inl (8, Hb)), .inr (.inl (8, I)), .inr (.inl (64, K)), .inr (.inl (N, D))] h) := by
  intro n
  induction n with
  | zero =>
    intro b hb G Hb hH fi hfi
    have e : b = nb := by omega
    subst e; subst hfi
    refine EV.icm rfl (fun hc => ?_) (fun hc => ?_)
    · exact hK G Hb _ hH
    · exact absurd (by rw [hP]; exact nI_le (Nat.le_refl _) (by omega)) (of_decide_eq_false hc)
  | succ n ih =>
    intro b hb G Hb hH fi hfi
    subst hfi
    refine EV.icm rfl (fun hc => ?_) (fun hc => ?_)
    · exact absurd (of_decide_eq_true hc) (nI_ge (by omega) (by omega))
    · repeat refine EV.s rfl rfl rfl ?_
      refine EW.cv 0 [0, 1, 2] hD rfl (fun h0 => r_fillSchedule d a m s t (16 * b) (nI L) M G h0 (nd_sub hD [0, 1, 2] (by decide) rfl) hbs (by omega)) rfl rfl rfl rfl (Nat.le_of_ble_eq_true rfl) (Nat.le_of_ble_eq_true rfl) rfl rfl rfl rfl ?_
      repeat refine EV.s rfl rfl rfl ?_
      refine EW.cv 0 [0, 2, 3, 5] hD rfl (fun h0 => r_compress d a s t (.ref m) (.int (nI L)) (swi (va_cpy M G (16 * b) 0 16) 64) Hb K h0 (nd_sub hD [0, 2, 3, 5] (by decide) rfl) hbt) rfl rfl rfl rfl (Nat.le_of_ble_eq_true rfl) (Nat.le_of_ble_eq_true rfl) rfl rfl rfl rfl ?_
      repeat refine EV.s rfl rfl rfl ?_
      refine ih (b + 1) (by omega) _ _ (fun i hi => ?_) _ (nI_add (16 * b) 16)
      rw [ad8_get _ _ hi]
      show _ = sbs K M H0 b i + srs K (swi (fun j => M (16 * b + j)) 64) (sbs K M H0 b) 64 i
      rw [hH i hi, srs_congr (fun _ _ => rfl) (fun j hj => swi_congr (fun q hq => cpy_lo hq) 64 j (Or.inl hj)) hH 64 (Nat.le_refl _) i hi]
set_option maxHeartbeats 1000000 in
theorem r_finish (d : Nat) (a m s t g L N at_ : Nat) (F G H I K D : Nat → Int32) (hD : [a, m, s, t, sa 0, sa 1, g].Nodup) (hba : bs ≤ a) (hbm : bs ≤ m) (hbs : bs ≤ s) (hbt : bs ≤ t) (hbg : bs ≤ g) (hL : L ≤ 61) (hN : at_ + 8 ≤ N) (hN2 : N < 2 ^ 31) :
    CT bs sa (d + 3) 4 [.ref a, .ref g, .int (nI at_)] [a, m, s, t, sa 0, sa 1, g] [.inl (0, [.ref m, .ref s, .ref t, .int (nI L)]), .inr (.inl (64, F)), .inr (.inl (64, G)), .inr (.inl (8, H)), .inr (.inl (8, I)), .inr (.inl (64, K)), .inr (.inl (N, D))]
      (fun rv o => rv = none ∧ ∃ G' H', o = [.inl (0, [.ref m, .ref s, .ref t, .int (nI L)]), .inr (.inl (64, pmc F L)), .inr (.inl (64, G')), .inr (.inl (8, H')), .inr (.inl (8, I)), .inr (.inl (64, K)), .inr (.inl (N, va_cpy (sha K I F L) D 0 at_ 8))]) := by
  refine CT.mk (T := t_X0_finish) rfl (Nat.le_of_ble_eq_true rfl) (fun h => ?_)
  repeat refine EV.s rfl rfl rfl ?_
  refine EW.cv 0 [0, 1] hD rfl (fun h0 => r_padMessage (d + 1) a m L (.ref s) (.ref t) F h0 (nd_sub hD [0, 1] (by decide) rfl) hbm hL) rfl rfl rfl rfl (Nat.le_of_ble_eq_true rfl) (Nat.le_of_ble_eq_true rfl) rfl rfl rfl rfl ?_
  repeat (first | refine EV.s rfl rfl rfl ?_ | refine EW.get 0 hD rfl rfl rfl rfl ?_)
  refine EW.cpy 4 3 0 0 8 hD rfl rfl rfl rfl rfl hbt rfl rfl rfl (by decide) (by decide) (by decide) (by decide) (by decide) ?_
  repeat refine EV.s rfl rfl rfl ?_
  refine r_fin_loop d a m s t g L N at_ (snb L) (16 * snb L) rfl (snb_64 hL) (pmc F L) I K D (va_cpy I H 0 0 8) h hD hbs hbt _ (fun G' H' fi hH => ?_) (snb L) 0 (by omega) G _ (fun _ _ => rfl) _ rfl
  repeat (first | refine EV.s rfl rfl rfl ?_ | refine EW.get 0 hD rfl rfl rfl rfl ?_)
  refine EW.cpy 3 6 0 at_ 8 hD rfl rfl rfl rfl rfl hbg rfl rfl rfl (by decide) hN (by decide) hN2 (by decide) ?_
  refine EV.ret rfl ⟨_, _, rfl, _, ⟨⟨rfl, G', H', ?_⟩, rfl⟩, rfl⟩
  have e : va_cpy H' D 0 at_ 8 = va_cpy (sha K I F L) D 0 at_ 8 := by
    funext j
    simp only [va_cpy]
    by_cases q : at_ ≤ j ∧ j < at_ + 8
    · rw [if_pos q, if_pos q, hH _ (by omega)]
      exact sbs_congr (N := snb L) (fun _ _ => rfl) (fun i hi => pmc_get hi) (fun i hi => by rw [cpy_lo hi]; congr 1; omega) (snb L) (Nat.le_refl _) _ (by omega)
    · rw [if_neg q, if_neg q]
  rw [← e]
  rfl
end HSH4
