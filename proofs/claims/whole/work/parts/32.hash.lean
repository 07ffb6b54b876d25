section HSH2
variable {bs : Nat} {sa : Nat → Nat}
def ad8 (H g : Nat → Int32) : Nat → Int32 := upd (upd (upd (upd (upd (upd (upd (upd H 0 (H 0 + g 0)) 1 (H 1 + g 1)) 2 (H 2 + g 2)) 3 (H 3 + g 3)) 4 (H 4 + g 4)) 5 (H 5 + g 5)) 6 (H 6 + g 6)) 7 (H 7 + g 7)
theorem ad8_get (H g : Nat → Int32) {i : Nat} (hi : i < 8) : ad8 H g i = H i + g i := by
  have : i = 0 ∨ i = 1 ∨ i = 2 ∨ i = 3 ∨ i = 4 ∨ i = 5 ∨ i = 6 ∨ i = 7 := by omega
  rcases this with rfl | rfl | rfl | rfl | rfl | rfl | rfl | rfl <;> rfl
set_option maxHeartbeats 1000000 in
set_option maxRecDepth 100000 in
/-- compress's loop, at its compare -/
theorem r_comp_loop (d : Nat) (a s t : Nat) (u L : Value) (W H K : Nat → Int32) (h : e_H) (hD : [a, s, t, sa 1].Nodup) (hbt : bs ≤ t) (E : e_C ⊕ (Option Value × e_H) → Prop)
    (hK : ∀ lo, ev_E tbs bs sa (d + 1) t_X0_compress E (213, [some (.ref a), some (.int (srs K W H 64 0)), some (.int (srs K W H 64 1)), some (.int (srs K W H 64 2)), some (.int (srs K W H 64 3)), some (.int (srs K W H 64 4)), some (.int (srs K W H 64 5)), some (.int (srs K W H 64 6)), some (.int (srs K W H 64 7))] ++ lo, [], wd [a, s, t, sa 1] [.inl (0, [u, .ref s, .ref t, L]), .inr (.inl (64, W)), .inr (.inl (8, H)), .inr (.inl (64, K))] h)) :
    ∀ (n k : Nat), k + n = 64 → ∀ g, g = srs K W H k → ∀ ki, ki = nI k → ∀ (l10 l11 l12 l13 l14 : Option Value), ev_E tbs bs sa (d + 1) t_X0_compress E (70, [some (.ref a), some (.int (g 0)), some (.int (g 1)), some (.int (g 2)), some (.int (g 3)), some (.int (g 4)), some (.int (g 5)), some (.int (g 6)), some (.int (g 7)), some (.int ki), l10, l11, l12, l13, l14], [.int 64, .int ki], wd [a, s, t, sa 1] [.inl (0, [u, .ref s, .ref t, L]), .inr (.inl (64, W)), .inr (.inl (8, H)), .inr (.inl (64, K))] h) := by
  intro n
  induction n with
  | zero =>
    intro k hk g hg ki hki l10 l11 l12 l13 l14
    have e : k = 64 := by omega
    subst e; subst hg; subst hki
    refine EV.icm rfl (fun hc => ?_) (fun hc => ?_)
    · exact hK [some (.int (nI 64)), l10, l11, l12, l13, l14]
    · exact absurd (by decide : (64 : Int32) ≤ nI 64) (of_decide_eq_false hc)
  | succ n ih =>
    intro k hk g hg ki hki l10 l11 l12 l13 l14
    subst hki
    refine EV.icm rfl (fun hc => ?_) (fun hc => ?_)
    · exact absurd (of_decide_eq_true hc) (nI_ge (b := 64) (by omega) (by decide))
    · repeat refine EV.s rfl rfl rfl ?_
      refine EV.call rfl (r_turnRight _ _ _ _) ?_
      repeat refine EV.s rfl rfl rfl ?_
      refine EV.call rfl (r_turnRight _ _ _ _) ?_
      repeat refine EV.s rfl rfl rfl ?_
      refine EV.call rfl (r_turnRight _ _ _ _) ?_
      repeat refine EV.s rfl rfl rfl ?_
      refine EW.iald 3 k hD rfl rfl rfl rfl (by omega) (by decide) ?_
      repeat (first | refine EV.s rfl rfl rfl ?_ | refine EW.get 0 hD rfl rfl rfl rfl ?_)
      refine EW.iald 1 k hD rfl rfl rfl rfl (by omega) (by decide) ?_
      repeat refine EV.s rfl rfl rfl ?_
      refine EV.call rfl (r_turnRight _ _ _ _) ?_
      repeat refine EV.s rfl rfl rfl ?_
      refine EV.call rfl (r_turnRight _ _ _ _) ?_
      repeat refine EV.s rfl rfl rfl ?_
      refine EV.call rfl (r_turnRight _ _ _ _) ?_
      repeat refine EV.s rfl rfl rfl ?_
      have e : srd (K k) (W k) g = srs K W H (k + 1) := by rw [hg]; rfl
      exact ih (k + 1) (by omega) (srd (K k) (W k) g) e _ (nI_1 k) _ _ _ _ _
set_option maxHeartbeats 1000000 in
set_option maxRecDepth 100000 in
theorem r_compress (d : Nat) (a s t : Nat) (u L : Value) (W H K : Nat → Int32) (h : e_H) (hD : [a, s, t, sa 1].Nodup) (hbt : bs ≤ t) :
    ev_run tbs bs sa (d + 2) 7 [.ref a] (wd [a, s, t, sa 1] [.inl (0, [u, .ref s, .ref t, L]), .inr (.inl (64, W)), .inr (.inl (8, H)), .inr (.inl (64, K))] h) none (wd [a, s, t, sa 1] [.inl (0, [u, .ref s, .ref t, L]), .inr (.inl (64, W)), .inr (.inl (8, ad8 H (srs K W H 64))), .inr (.inl (64, K))] h) := by
  refine RUN.mk (T := t_X0_compress) rfl (Nat.le_of_ble_eq_true rfl) ?_
  repeat (first | refine EV.s rfl rfl rfl ?_ | refine EW.get 0 hD rfl rfl rfl rfl ?_)
  refine EW.iald 2 0 hD rfl rfl rfl rfl (by omega) (by decide) ?_
  repeat (first | refine EV.s rfl rfl rfl ?_ | refine EW.get 0 hD rfl rfl rfl rfl ?_)
  refine EW.iald 2 1 hD rfl rfl rfl rfl (by omega) (by decide) ?_
  repeat (first | refine EV.s rfl rfl rfl ?_ | refine EW.get 0 hD rfl rfl rfl rfl ?_)
  refine EW.iald 2 2 hD rfl rfl rfl rfl (by omega) (by decide) ?_
  repeat (first | refine EV.s rfl rfl rfl ?_ | refine EW.get 0 hD rfl rfl rfl rfl ?_)
  refine EW.iald 2 3 hD rfl rfl rfl rfl (by omega) (by decide) ?_
  repeat (first | refine EV.s rfl rfl rfl ?_ | refine EW.get 0 hD rfl rfl rfl rfl ?_)
  refine EW.iald 2 4 hD rfl rfl rfl rfl (by omega) (by decide) ?_
  repeat (first | refine EV.s rfl rfl rfl ?_ | refine EW.get 0 hD rfl rfl rfl rfl ?_)
  refine EW.iald 2 5 hD rfl rfl rfl rfl (by omega) (by decide) ?_
  repeat (first | refine EV.s rfl rfl rfl ?_ | refine EW.get 0 hD rfl rfl rfl rfl ?_)
  refine EW.iald 2 6 hD rfl rfl rfl rfl (by omega) (by decide) ?_
  repeat (first | refine EV.s rfl rfl rfl ?_ | refine EW.get 0 hD rfl rfl rfl rfl ?_)
  refine EW.iald 2 7 hD rfl rfl rfl rfl (by omega) (by decide) ?_
  repeat refine EV.s rfl rfl rfl ?_
  refine r_comp_loop d a s t u L W H K h hD hbt _ (fun lo => ?_) 64 0 rfl H rfl _ rfl none none none none none
  repeat (first | refine EV.s rfl rfl rfl ?_ | refine EW.get 0 hD rfl rfl rfl rfl ?_)
  refine EW.iald 2 0 hD rfl rfl rfl rfl (by omega) (by decide) ?_
  repeat refine EV.s rfl rfl rfl ?_
  refine EW.iast 2 0 hD rfl rfl rfl hbt rfl (by omega) (by decide) ?_
  repeat (first | refine EV.s rfl rfl rfl ?_ | refine EW.get 0 hD rfl rfl rfl rfl ?_)
  refine EW.iald 2 1 hD rfl rfl rfl rfl (by omega) (by decide) ?_
  repeat refine EV.s rfl rfl rfl ?_
  refine EW.iast 2 1 hD rfl rfl rfl hbt rfl (by omega) (by decide) ?_
  repeat (first | refine EV.s rfl rfl rfl ?_ | refine EW.get 0 hD rfl rfl rfl rfl ?_)
  refine EW.iald 2 2 hD rfl rfl rfl rfl (by omega) (by decide) ?_
  repeat refine EV.s rfl rfl rfl ?_
  refine EW.iast 2 2 hD rfl rfl rfl hbt rfl (by omega) (by decide) ?_
  repeat (first | refine EV.s rfl rfl rfl ?_ | refine EW.get 0 hD rfl rfl rfl rfl ?_)
  refine EW.iald 2 3 hD rfl rfl rfl rfl (by omega) (by decide) ?_
  repeat refine EV.s rfl rfl rfl ?_
  refine EW.iast 2 3 hD rfl rfl rfl hbt rfl (by omega) (by decide) ?_
  repeat (first | refine EV.s rfl rfl rfl ?_ | refine EW.get 0 hD rfl rfl rfl rfl ?_)
  refine EW.iald 2 4 hD rfl rfl rfl rfl (by omega) (by decide) ?_
  repeat refine EV.s rfl rfl rfl ?_
  refine EW.iast 2 4 hD rfl rfl rfl hbt rfl (by omega) (by decide) ?_
  repeat (first | refine EV.s rfl rfl rfl ?_ | refine EW.get 0 hD rfl rfl rfl rfl ?_)
  refine EW.iald 2 5 hD rfl rfl rfl rfl (by omega) (by decide) ?_
  repeat refine EV.s rfl rfl rfl ?_
  refine EW.iast 2 5 hD rfl rfl rfl hbt rfl (by omega) (by decide) ?_
  repeat (first | refine EV.s rfl rfl rfl ?_ | refine EW.get 0 hD rfl rfl rfl rfl ?_)
  refine EW.iald 2 6 hD rfl rfl rfl rfl (by omega) (by decide) ?_
  repeat refine EV.s rfl rfl rfl ?_
  refine EW.iast 2 6 hD rfl rfl rfl hbt rfl (by omega) (by decide) ?_
  repeat (first | refine EV.s rfl rfl rfl ?_ | refine EW.get 0 hD rfl rfl rfl rfl ?_)
  refine EW.iald 2 7 hD rfl rfl rfl rfl (by omega) (by decide) ?_
  repeat refine EV.s rfl rfl rfl ?_
  refine EW.iast 2 7 hD rfl rfl rfl hbt rfl (by omega) (by decide) ?_
  refine EV.ret rfl ?_
  rfl
end HSH2
