def adk (f g : Nat → Int32) (k : Nat) : Nat → Int32 := fun j => if j < k then f j + g j else f j
theorem adk_s (f g : Nat → Int32) (k : Nat) : adk f g (k + 1) = upd (adk f g k) k (adk f g k k + g k) := by
  funext j
  simp only [adk, upd]
  by_cases e : j = k
  · subst e; rw [if_pos rfl, if_pos (by omega), if_neg (by omega)]
  · rw [if_neg e]
    by_cases q : j < k
    · rw [if_pos q, if_pos (by omega)]
    · rw [if_neg q, if_neg (by omega)]
theorem adk_0 (f g : Nat → Int32) : adk f g 0 = f := by
  funext j; simp only [adk]; rw [if_neg (by omega)]
def stc (C key S : Nat → Int32) (ct u l : Int32) : Nat → Int32 := upd (upd (upd (upd (va_cpy key (va_cpy C S 0 0 4) 0 4 8) 12 ct) 13 0) 14 u) 15 l
theorem stc_al (C key S : Nat → Int32) (ct u l : Int32) : al (stc C key S ct u l) (cst C key ct u l) := by
  intro k hk
  simp only [stc, cst, upd, va_cpy]
  by_cases h4 : k < 4
  · rw [if_neg (by omega), if_neg (by omega), if_neg (by omega), if_neg (by omega), if_neg (by omega), if_pos (by omega), if_pos h4]; congr 1; omega
  · rw [if_neg h4]
    by_cases h12 : k < 12
    · rw [if_neg (by omega), if_neg (by omega), if_neg (by omega), if_neg (by omega), if_pos (by omega), if_pos h12]; congr 1; omega
    · rw [if_neg h12]
      have : k = 12 ∨ k = 13 ∨ k = 14 ∨ k = 15 := by omega
      rcases this with rfl | rfl | rfl | rfl <;> simp
section BLK
variable {bs : Nat} {sa : Nat → Nat}
set_option maxHeartbeats 2000000 in
theorem r_mb_loop1 (d : Nat) (z ky stt bl : Nat) (ct u l : Int32) (v0 v2 v3 : Value) (key S B C : Nat → Int32) (h : e_H) (hD : [z, ky, stt, bl, sa 2].Nodup) (hbb : bs ≤ bl) (E : e_C ⊕ (Option Value × e_H) → Prop)
    (hK : ∀ ki, ev_E tbs bs sa (d + 2) t_X3_makeBlock E (175, [some (.ref z), some (.int ct), some (.int u), some (.int l), some (.int ki)], [], wd [z, ky, stt, bl, sa 2] [.inl (3, [v0, .ref ky, v2, v3, .ref stt, .ref bl]), .inr (.inl (8, key)), .inr (.inl (16, S)), .inr (.inl (16, drs B 10)), .inr (.inl (4, C))] h)) :
    ∀ (n k : Nat), k + n = 10 → ∀ Z, Z = drs B k → ∀ ki, ki = nI k → ev_E tbs bs sa (d + 2) t_X3_makeBlock E (82, [some (.ref z), some (.int ct), some (.int u), some (.int l), some (.int ki)], [.int 10, .int ki], wd [z, ky, stt, bl, sa 2] [.inl (3, [v0, .ref ky, v2, v3, .ref stt, .ref bl]), .inr (.inl (8, key)), .inr (.inl (16, S)), .inr (.inl (16, Z)), .inr (.inl (4, C))] h) := by
  intro n
  induction n with
  | zero =>
    intro k hk Z hZ ki hki
    have e : k = 10 := by omega
    subst e; subst hZ; subst hki
    refine EV.icm rfl (fun hc => ?_) (fun hc => ?_)
    · exact hK _
    · exact absurd (by decide : (10 : Int32) ≤ nI 10) (of_decide_eq_false hc)
  | succ n ih =>
    intro k hk Z hZ ki hki
    subst hki
    refine EV.icm rfl (fun hc => ?_) (fun hc => ?_)
    · exact absurd (of_decide_eq_true hc) (nI_ge (b := 10) (by omega) (by decide))
    · have hd2 : [z, bl].Nodup := nd_sub hD [0, 3] (by decide) rfl
      have cq : ∀ (a b c e : Nat) (ha : a < 16) (hb : b < 16) (hc : c < 16) (he : e < 16) (B : Nat → Int32) (h0 : e_H), ev_run tbs bs sa (d + 2) 32 [.ref z, .int (nI a), .int (nI b), .int (nI c), .int (nI e)] (wd [z, bl] [.inl (3, [v0, .ref ky, v2, v3, .ref stt, .ref bl]), .inr (.inl (16, B))] h0) none (wd [z, bl] [.inl (3, [v0, .ref ky, v2, v3, .ref stt, .ref bl]), .inr (.inl (16, qr B a b c e))] h0) := fun a b c e ha hb hc he B h0 => r_mixQuarter d z bl a b c e v0 (.ref ky) v2 v3 (.ref stt) B h0 hd2 hbb ha hb hc he
      repeat refine EV.s rfl rfl rfl ?_
      refine EW.cv 0 [0, 3] hD rfl (cq 0 4 8 12 (by decide) (by decide) (by decide) (by decide) _) rfl rfl rfl rfl (Nat.le_of_ble_eq_true rfl) (Nat.le_of_ble_eq_true rfl) rfl rfl rfl rfl ?_
      repeat refine EV.s rfl rfl rfl ?_
      refine EW.cv 0 [0, 3] hD rfl (cq 1 5 9 13 (by decide) (by decide) (by decide) (by decide) _) rfl rfl rfl rfl (Nat.le_of_ble_eq_true rfl) (Nat.le_of_ble_eq_true rfl) rfl rfl rfl rfl ?_
      repeat refine EV.s rfl rfl rfl ?_
      refine EW.cv 0 [0, 3] hD rfl (cq 2 6 10 14 (by decide) (by decide) (by decide) (by decide) _) rfl rfl rfl rfl (Nat.le_of_ble_eq_true rfl) (Nat.le_of_ble_eq_true rfl) rfl rfl rfl rfl ?_
      repeat refine EV.s rfl rfl rfl ?_
      refine EW.cv 0 [0, 3] hD rfl (cq 3 7 11 15 (by decide) (by decide) (by decide) (by decide) _) rfl rfl rfl rfl (Nat.le_of_ble_eq_true rfl) (Nat.le_of_ble_eq_true rfl) rfl rfl rfl rfl ?_
      repeat refine EV.s rfl rfl rfl ?_
      refine EW.cv 0 [0, 3] hD rfl (cq 0 5 10 15 (by decide) (by decide) (by decide) (by decide) _) rfl rfl rfl rfl (Nat.le_of_ble_eq_true rfl) (Nat.le_of_ble_eq_true rfl) rfl rfl rfl rfl ?_
      repeat refine EV.s rfl rfl rfl ?_
      refine EW.cv 0 [0, 3] hD rfl (cq 1 6 11 12 (by decide) (by decide) (by decide) (by decide) _) rfl rfl rfl rfl (Nat.le_of_ble_eq_true rfl) (Nat.le_of_ble_eq_true rfl) rfl rfl rfl rfl ?_
      repeat refine EV.s rfl rfl rfl ?_
      refine EW.cv 0 [0, 3] hD rfl (cq 2 7 8 13 (by decide) (by decide) (by decide) (by decide) _) rfl rfl rfl rfl (Nat.le_of_ble_eq_true rfl) (Nat.le_of_ble_eq_true rfl) rfl rfl rfl rfl ?_
      repeat refine EV.s rfl rfl rfl ?_
      refine EW.cv 0 [0, 3] hD rfl (cq 3 4 9 14 (by decide) (by decide) (by decide) (by decide) _) rfl rfl rfl rfl (Nat.le_of_ble_eq_true rfl) (Nat.le_of_ble_eq_true rfl) rfl rfl rfl rfl ?_
      repeat refine EV.s rfl rfl rfl ?_
      exact ih (k + 1) (by omega) (dr Z) (by rw [hZ]; rfl) _ (nI_1 k)
set_option maxHeartbeats 1000000 in
theorem r_mb_loop2 (d : Nat) (z ky stt bl : Nat) (ct u l : Int32) (v0 v2 v3 : Value) (key S B C : Nat → Int32) (h : e_H) (hD : [z, ky, stt, bl, sa 2].Nodup) (hbb : bs ≤ bl) (E : e_C ⊕ (Option Value × e_H) → Prop)
    (hK : E (.inr (none, wd [z, ky, stt, bl, sa 2] [.inl (3, [v0, .ref ky, v2, v3, .ref stt, .ref bl]), .inr (.inl (8, key)), .inr (.inl (16, S)), .inr (.inl (16, adk B S 16)), .inr (.inl (4, C))] h))) :
    ∀ (n k : Nat), k + n = 16 → ∀ Z, Z = adk B S k → ∀ ki, ki = nI k → ev_E tbs bs sa (d + 2) t_X3_makeBlock E (182, [some (.ref z), some (.int ct), some (.int u), some (.int l), some (.int ki)], [.int 16, .int ki], wd [z, ky, stt, bl, sa 2] [.inl (3, [v0, .ref ky, v2, v3, .ref stt, .ref bl]), .inr (.inl (8, key)), .inr (.inl (16, S)), .inr (.inl (16, Z)), .inr (.inl (4, C))] h) := by
  intro n
  induction n with
  | zero =>
    intro k hk Z hZ ki hki
    have e : k = 16 := by omega
    subst e; subst hZ; subst hki
    refine EV.icm rfl (fun hc => ?_) (fun hc => ?_)
    · refine EV.ret rfl ?_
      exact hK
    · exact absurd (by decide : (16 : Int32) ≤ nI 16) (of_decide_eq_false hc)
  | succ n ih =>
    intro k hk Z hZ ki hki
    subst hki; subst hZ
    refine EV.icm rfl (fun hc => ?_) (fun hc => ?_)
    · exact absurd (of_decide_eq_true hc) (nI_ge (b := 16) (by omega) (by decide))
    · repeat (first | refine EV.s rfl rfl rfl ?_ | refine EW.get 0 hD rfl rfl rfl rfl ?_)
      refine EW.iald 3 k hD rfl rfl rfl rfl (by omega) (by decide) ?_
      repeat (first | refine EV.s rfl rfl rfl ?_ | refine EW.get 0 hD rfl rfl rfl rfl ?_)
      refine EW.iald 2 k hD rfl rfl rfl rfl (by omega) (by decide) ?_
      repeat refine EV.s rfl rfl rfl ?_
      refine EW.iast 3 k hD rfl rfl rfl hbb rfl (by omega) (by decide) ?_
      repeat refine EV.s rfl rfl rfl ?_
      exact ih (k + 1) (by omega) _ (adk_s B S k).symm _ (nI_1 k)
set_option maxHeartbeats 2000000 in
theorem r_makeBlock (d : Nat) (z ky stt bl : Nat) (ct u l : Int32) (v0 v2 v3 : Value) (key S B C : Nat → Int32) (hD : [z, ky, stt, bl, sa 2].Nodup) (hbb : bs ≤ bl) (hbS : bs ≤ stt) :
    CT bs sa (d + 3) 31 [.ref z, .int ct, .int u, .int l] [z, ky, stt, bl, sa 2] [.inl (3, [v0, .ref ky, v2, v3, .ref stt, .ref bl]), .inr (.inl (8, key)), .inr (.inl (16, S)), .inr (.inl (16, B)), .inr (.inl (4, C))]
      (fun rv o => rv = none ∧ ∃ S' B', al B' (cha C key ct u l) ∧ o = [.inl (3, [v0, .ref ky, v2, v3, .ref stt, .ref bl]), .inr (.inl (8, key)), .inr (.inl (16, S')), .inr (.inl (16, B')), .inr (.inl (4, C))]) := by
  refine CT.mk (T := t_X3_makeBlock) rfl (Nat.le_of_ble_eq_true rfl) (fun h => ?_)
  repeat (first | refine EV.s rfl rfl rfl ?_ | refine EW.get 0 hD rfl rfl rfl rfl ?_)
  refine EW.cpy 4 2 0 0 4 hD rfl rfl rfl rfl rfl hbS rfl rfl rfl (by decide) (by decide) (by decide) (by decide) (by decide) ?_
  repeat (first | refine EV.s rfl rfl rfl ?_ | refine EW.get 0 hD rfl rfl rfl rfl ?_)
  refine EW.cpy 1 2 0 4 8 hD rfl rfl rfl rfl rfl hbS rfl rfl rfl (by decide) (by decide) (by decide) (by decide) (by decide) ?_
  repeat (first | refine EV.s rfl rfl rfl ?_ | refine EW.get 0 hD rfl rfl rfl rfl ?_)
  refine EW.iast 2 12 hD rfl rfl rfl hbS rfl (by decide) (by decide) ?_
  repeat (first | refine EV.s rfl rfl rfl ?_ | refine EW.get 0 hD rfl rfl rfl rfl ?_)
  refine EW.iast 2 13 hD rfl rfl rfl hbS rfl (by decide) (by decide) ?_
  repeat (first | refine EV.s rfl rfl rfl ?_ | refine EW.get 0 hD rfl rfl rfl rfl ?_)
  refine EW.iast 2 14 hD rfl rfl rfl hbS rfl (by decide) (by decide) ?_
  repeat (first | refine EV.s rfl rfl rfl ?_ | refine EW.get 0 hD rfl rfl rfl rfl ?_)
  refine EW.iast 2 15 hD rfl rfl rfl hbS rfl (by decide) (by decide) ?_
  repeat (first | refine EV.s rfl rfl rfl ?_ | refine EW.get 0 hD rfl rfl rfl rfl ?_)
  refine EW.cpy 2 3 0 0 16 hD rfl rfl rfl rfl rfl hbb rfl rfl rfl (by decide) (by decide) (by decide) (by decide) (by decide) ?_
  repeat refine EV.s rfl rfl rfl ?_
  refine r_mb_loop1 d z ky stt bl ct u l v0 v2 v3 key (stc C key S ct u l) (va_cpy (stc C key S ct u l) B 0 0 16) C h hD hbb _ (fun ki => ?_) 10 0 rfl _ rfl _ rfl
  repeat refine EV.s rfl rfl rfl ?_
  refine r_mb_loop2 d z ky stt bl ct u l v0 v2 v3 key (stc C key S ct u l) (drs (va_cpy (stc C key S ct u l) B 0 0 16) 10) C h hD hbb _ ?_ 16 0 rfl _ (adk_0 _ _).symm _ rfl
  refine ⟨_, _, rfl, _, ⟨⟨rfl, _, _, ?_, rfl⟩, rfl⟩, rfl⟩
  intro k hk
  have h1 : al (va_cpy (stc C key S ct u l) B 0 0 16) (cst C key ct u l) := fun j hj => by rw [cpy_lo hj, Nat.zero_add]; exact stc_al C key S ct u l j hj
  simp only [adk, cha]
  rw [if_pos hk, drs_al h1 10 k hk, stc_al C key S ct u l k hk]
end BLK
