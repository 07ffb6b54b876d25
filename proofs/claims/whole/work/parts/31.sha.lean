/-! SHA-256, as both sides compute it. -/
def us (x b : Int32) : Int32 := (x.toUInt32 >>> (b.toUInt32 &&& Int32.toUInt32 31)).toInt32
def rr (x b : Int32) : Int32 := us x b ||| (x <<< ((32 - b) &&& 31))
def sg0 (x : Int32) : Int32 := rr x 7 ^^^ rr x 18 ^^^ us x 3
def sg1 (x : Int32) : Int32 := rr x 17 ^^^ rr x 19 ^^^ us x 10
/-- the schedule, n places of it made -/
def swi (G : Nat → Int32) : Nat → Nat → Int32
  | 0 => G
  | n + 1 => if 16 ≤ n then upd (swi G n) n (swi G n (n - 16) + sg0 (swi G n (n - 15)) + swi G n (n - 7) + sg1 (swi G n (n - 2))) else swi G n
theorem swi_lo (G : Nat → Int32) : ∀ n, n ≤ 16 → swi G n = G := by
  intro n
  induction n with
  | zero => intro _; rfl
  | succ n ih => intro h; simp only [swi]; rw [if_neg (by omega)]; exact ih (by omega)
theorem swi_congr {G G' : Nat → Int32} (h : ∀ j, j < 16 → G j = G' j) : ∀ n j, (j < n ∨ j < 16) → swi G n j = swi G' n j := by
  intro n
  induction n with
  | zero => intro j hj; exact h j (by omega)
  | succ n ih =>
    intro j hj
    simp only [swi]
    by_cases hn : 16 ≤ n
    · rw [if_pos hn, if_pos hn]
      by_cases e : j = n
      · subst e
        simp only [upd, if_pos]
        rw [ih (j - 16) (by omega), ih (j - 15) (by omega), ih (j - 7) (by omega), ih (j - 2) (by omega)]
      · simp only [upd, if_neg e]
        exact ih j (by omega)
    · rw [if_neg hn, if_neg hn]; exact ih j (by omega)
/-- a round -/
def srd (kk ww : Int32) (st : Nat → Int32) : Nat → Int32 := fun i =>
  if i = 0 then st 7 + (rr (st 4) 6 ^^^ rr (st 4) 11 ^^^ rr (st 4) 25) + ((st 4 &&& st 5) ^^^ ((st 4 ^^^ -1) &&& st 6)) + kk + ww + (rr (st 0) 2 ^^^ rr (st 0) 13 ^^^ rr (st 0) 22) + ((st 0 &&& st 1) ^^^ (st 0 &&& st 2) ^^^ (st 1 &&& st 2))
  else if i = 4 then st 3 + (st 7 + (rr (st 4) 6 ^^^ rr (st 4) 11 ^^^ rr (st 4) 25) + ((st 4 &&& st 5) ^^^ ((st 4 ^^^ -1) &&& st 6)) + kk + ww)
  else st (i - 1)
def srs (K W : Nat → Int32) (st : Nat → Int32) : Nat → Nat → Int32
  | 0 => st
  | n + 1 => srd (K n) (W n) (srs K W st n)
theorem srs_congr {K K' W W' st st' : Nat → Int32} (hK : ∀ j, j < 64 → K j = K' j) (hW : ∀ j, j < 64 → W j = W' j) (hs : ∀ j, j < 8 → st j = st' j) : ∀ n, n ≤ 64 → ∀ j, j < 8 → srs K W st n j = srs K' W' st' n j := by
  intro n
  induction n with
  | zero => intro _ j hj; exact hs j hj
  | succ n ih =>
    intro hn j hj
    have ih := ih (by omega)
    simp only [srs, srd]
    rw [hK n (by omega), hW n (by omega), ih 0 (by omega), ih 1 (by omega), ih 2 (by omega), ih 3 (by omega), ih 4 (by omega), ih 5 (by omega), ih 6 (by omega), ih 7 (by omega), ih (j - 1) (by omega)]
/-- a block -/
def sbk (K H M : Nat → Int32) : Nat → Int32 := fun i => H i + srs K (swi M 64) H 64 i
def sbs (K M H : Nat → Int32) : Nat → Nat → Int32
  | 0 => H
  | b + 1 => sbk K (sbs K M H b) (fun j => M (16 * b + j))
theorem sbs_congr {K K' M M' H H' : Nat → Int32} {N : Nat} (hK : ∀ j, j < 64 → K j = K' j) (hM : ∀ j, j < 16 * N → M j = M' j) (hH : ∀ j, j < 8 → H j = H' j) : ∀ b, b ≤ N → ∀ j, j < 8 → sbs K M H b j = sbs K' M' H' b j := by
  intro b
  induction b with
  | zero => intro _ j hj; exact hH j hj
  | succ b ih =>
    intro hb j hj
    have ih := ih (by omega)
    simp only [sbs, sbk]
    rw [ih j hj, srs_congr hK (fun i hi => swi_congr (fun i hi => hM (16 * b + i) (by omega)) 64 i (Or.inl hi)) ih 64 (by omega) j hj]
/-- how many blocks; the padded message -/
def snb (n : Nat) : Nat := (n + 18) / 16
def spd (f : Nat → Int32) (n : Nat) : Nat → Int32 := fun k => if k < n then f k else if k = 16 * snb n - 1 then nI (32 * n) else if k = n then -2147483648 else 0
def sha (K H : Nat → Int32) (f : Nat → Int32) (n : Nat) : Nat → Int32 := sbs K (spd f n) H (snb n)
theorem sha_congr {K K' H H' f f' : Nat → Int32} {n : Nat} (hK : ∀ j, j < 64 → K j = K' j) (hH : ∀ j, j < 8 → H j = H' j) (hf : ∀ j, j < n → f j = f' j) {j : Nat} (hj : j < 8) : sha K H f n j = sha K' H' f' n j := by
  refine sbs_congr (N := snb n) hK (fun i _ => ?_) hH (snb n) (Nat.le_refl _) j hj
  unfold spd
  by_cases h : i < n
  · rw [if_pos h, if_pos h, hf i h]
  · rw [if_neg h, if_neg h]
section HSH
variable {bs : Nat} {sa : Nat → Nat}
theorem r_turnRight (d : Nat) (x b : Int32) (h : e_H) : ev_run tbs bs sa (d + 1) 8 [.int x, .int b] h (some (.int (rr x b))) h := by
  refine RUN.mk (T := t_X0_turnRight) rfl (Nat.le_of_ble_eq_true rfl) ?_
  repeat refine EV.s rfl rfl rfl ?_
  refine EV.ri rfl rfl ?_
  rfl
theorem r_begin (d : Nat) (a : Nat) (u v w x : Value) (hx : ev_kd x = 0) (h : e_H) (hD : [a].Nodup) (hba : bs ≤ a) : ev_run tbs bs sa (d + 1) 1 [.ref a] (wd [a] [.inl (0, [u, v, w, x])] h) none (wd [a] [.inl (0, [u, v, w, .int 0])] h) := by
  refine RUN.mk (T := t_X0_begin) rfl (Nat.le_of_ble_eq_true rfl) ?_
  repeat refine EV.s rfl rfl rfl ?_
  refine EW.put 0 hD rfl rfl rfl hba (Nat.le_of_ble_eq_true rfl) rfl ?_
  refine EV.ret rfl ?_
  rfl
/-- fillSchedule's loop, at its compare -/
theorem r_fill_loop (d : Nat) (a m s t fr : Nat) (L : Int32) (F G : Nat → Int32) (h : e_H) (hD : [a, m, s].Nodup) (hbs : bs ≤ s) (E : e_C ⊕ (Option Value × e_H) → Prop)
    (hK : E (.inr (none, wd [a, m, s] [.inl (0, [.ref m, .ref s, .ref t, .int L]), .inr (.inl (64, F)), .inr (.inl (64, swi G 64))] h))) :
    ∀ (n k : Nat), k + n = 64 → 16 ≤ k → ∀ Gk, Gk = swi G k → ∀ ki, ki = nI k → ∀ (l3 l4 l5 l6 : Option Value), ev_E tbs bs sa (d + 1) t_X0_fillSchedule E (21, [some (.ref a), some (.int (nI fr)), some (.int ki), l3, l4, l5, l6], [.int 64, .int ki], wd [a, m, s] [.inl (0, [.ref m, .ref s, .ref t, .int L]), .inr (.inl (64, F)), .inr (.inl (64, Gk))] h) := by
  intro n
  induction n with
  | zero =>
    intro k hk h16 Gk hG ki hki l3 l4 l5 l6
    subst hG; subst hki
    have e : k = 64 := by omega
    subst e
    refine EV.icm rfl (fun hc => ?_) (fun hc => ?_)
    · refine EV.ret rfl ?_
      exact hK
    · exact absurd (by decide : (64 : Int32) ≤ nI 64) (of_decide_eq_false hc)
  | succ n ih =>
    intro k hk h16 Gk hG ki hki l3 l4 l5 l6
    subst hG; subst hki
    refine EV.icm rfl (fun hc => ?_) (fun hc => ?_)
    · exact absurd (of_decide_eq_true hc) (nI_ge (b := 64) (by omega) (by decide))
    · repeat (first | refine EV.s rfl rfl rfl ?_ | refine EW.get 0 hD rfl rfl rfl rfl ?_)
      refine EW.iald 2 (k - 15) hD rfl rfl rfl (pk_sub (b := 15) (by omega)) (by omega) (by decide) ?_
      repeat (first | refine EV.s rfl rfl rfl ?_ | refine EW.get 0 hD rfl rfl rfl rfl ?_)
      refine EW.iald 2 (k - 2) hD rfl rfl rfl (pk_sub (b := 2) (by omega)) (by omega) (by decide) ?_
      repeat refine EV.s rfl rfl rfl ?_
      refine EV.call rfl (r_turnRight _ _ _ _) ?_
      repeat refine EV.s rfl rfl rfl ?_
      refine EV.call rfl (r_turnRight _ _ _ _) ?_
      repeat refine EV.s rfl rfl rfl ?_
      refine EV.call rfl (r_turnRight _ _ _ _) ?_
      repeat refine EV.s rfl rfl rfl ?_
      refine EV.call rfl (r_turnRight _ _ _ _) ?_
      repeat (first | refine EV.s rfl rfl rfl ?_ | refine EW.get 0 hD rfl rfl rfl rfl ?_)
      refine EW.iald 2 (k - 16) hD rfl rfl rfl (pk_sub (b := 16) (by omega)) (by omega) (by decide) ?_
      repeat (first | refine EV.s rfl rfl rfl ?_ | refine EW.get 0 hD rfl rfl rfl rfl ?_)
      refine EW.iald 2 (k - 7) hD rfl rfl rfl (pk_sub (b := 7) (by omega)) (by omega) (by decide) ?_
      repeat refine EV.s rfl rfl rfl ?_
      refine EW.iast 2 k hD rfl rfl rfl hbs rfl (by omega) (by decide) ?_
      repeat refine EV.s rfl rfl rfl ?_
      have e : swi G (k + 1) = upd (swi G k) k (swi G k (k - 16) + sg0 (swi G k (k - 15)) + swi G k (k - 7) + sg1 (swi G k (k - 2))) := by simp only [swi]; rw [if_pos h16]
      exact ih (k + 1) (by omega) (by omega) _ e.symm _ (nI_1 k) (some (.int (swi G k (k - 15)))) (some (.int (swi G k (k - 2)))) (some (.int (sg0 (swi G k (k - 15))))) (some (.int (sg1 (swi G k (k - 2)))))
theorem r_fillSchedule (d : Nat) (a m s t fr : Nat) (L : Int32) (F G : Nat → Int32) (h : e_H) (hD : [a, m, s].Nodup) (hbs : bs ≤ s) (hfr : fr + 16 ≤ 64) :
    ev_run tbs bs sa (d + 2) 6 [.ref a, .int (nI fr)] (wd [a, m, s] [.inl (0, [.ref m, .ref s, .ref t, .int L]), .inr (.inl (64, F)), .inr (.inl (64, G))] h) none (wd [a, m, s] [.inl (0, [.ref m, .ref s, .ref t, .int L]), .inr (.inl (64, F)), .inr (.inl (64, swi (va_cpy F G fr 0 16) 64))] h) := by
  refine RUN.mk (T := t_X0_fillSchedule) rfl (Nat.le_of_ble_eq_true rfl) ?_
  repeat (first | refine EV.s rfl rfl rfl ?_ | refine EW.get 0 hD rfl rfl rfl rfl ?_)
  refine EW.cpy 1 2 fr 0 16 hD rfl rfl rfl rfl rfl hbs rfl rfl rfl hfr (by decide) (by decide) (by decide) (by decide) ?_
  repeat refine EV.s rfl rfl rfl ?_
  refine r_fill_loop d a m s t fr L F (va_cpy F G fr 0 16) h hD hbs _ ?_ 48 16 rfl (Nat.le_refl _) _ (swi_lo _ 16 (Nat.le_refl _)).symm _ rfl none none none none
  rfl
end HSH
