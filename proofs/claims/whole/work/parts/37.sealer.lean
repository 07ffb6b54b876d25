/-- the stream -/
def sm (C key : Nat → Int32) (u l : Int32) (j : Nat) : Int32 := cha C key (nI (j / 16) + 1) u l (j % 16)
def xk (W : Nat → Int32) (at_ : Nat) (g : Nat → Int32) (q : Nat) : Nat → Int32 := fun j => if at_ ≤ j ∧ j < at_ + q then W j ^^^ g (j - at_) else W j
theorem xk_0 (W : Nat → Int32) (at_ : Nat) (g : Nat → Int32) : xk W at_ g 0 = W := by
  funext j; simp only [xk]; rw [if_neg (by omega)]
theorem xk_s (W : Nat → Int32) (at_ : Nat) (g : Nat → Int32) (q : Nat) (x : Int32) (hx : x = g q) : xk W at_ g (q + 1) = upd (xk W at_ g q) (at_ + q) (xk W at_ g q (at_ + q) ^^^ x) := by
  subst hx
  funext j
  simp only [xk, upd]
  by_cases e : j = at_ + q
  · subst e; rw [if_pos rfl, if_pos (by omega), if_neg (by omega), Nat.add_sub_cancel_left]
  · rw [if_neg e]
    by_cases z : at_ ≤ j ∧ j < at_ + q
    · rw [if_pos z, if_pos (by omega)]
    · rw [if_neg z, if_neg (by omega)]
section SEA
variable {bs : Nat} {sa : Nat → Nat}
set_option maxHeartbeats 1000000 in
theorem r_cov_in (d : Nat) (z ky stt bl w N at_ hf : Nat) (u l : Int32) (v0 v2 v3 : Value) (key S B C W : Nat → Int32) (h : e_H) (hD : [z, ky, stt, bl, sa 2, w].Nodup) (hbw : bs ≤ w) (hat : at_ + 32 ≤ N) (hN : N < 2 ^ 31) (hhf : hf < 2) (g : Nat → Int32) (hB : ∀ k, k < 16 → B k = g (16 * hf + k)) (hi fr : Int32) (hfr : fr = nI (at_ + 16 * hf)) (E : e_C ⊕ (Option Value × e_H) → Prop)
    (hK : ∀ ki, ev_E tbs bs sa (d + 3) t_X3_cover E (62, [some (.ref z), some (.ref w), some (.int (nI at_)), some (.int u), some (.int l), some (.int hi), some (.int fr), some (.int ki)], [], wd [z, ky, stt, bl, sa 2, w] [.inl (3, [v0, .ref ky, v2, v3, .ref stt, .ref bl]), .inr (.inl (8, key)), .inr (.inl (16, S)), .inr (.inl (16, B)), .inr (.inl (4, C)), .inr (.inl (N, xk W at_ g (16 * hf + 16)))] h)) :
    ∀ (n k : Nat), k + n = 16 → ∀ Z, Z = xk W at_ g (16 * hf + k) → ∀ ki, ki = nI k → ev_E tbs bs sa (d + 3) t_X3_cover E (36, [some (.ref z), some (.ref w), some (.int (nI at_)), some (.int u), some (.int l), some (.int hi), some (.int fr), some (.int ki)], [.int 16, .int ki], wd [z, ky, stt, bl, sa 2, w] [.inl (3, [v0, .ref ky, v2, v3, .ref stt, .ref bl]), .inr (.inl (8, key)), .inr (.inl (16, S)), .inr (.inl (16, B)), .inr (.inl (4, C)), .inr (.inl (N, Z))] h) := by
  intro n
  induction n with
  | zero =>
    intro k hk Z hZ ki hki
    have e : k = 16 := by omega
    subst e; subst hZ; subst hki
    refine EV.icm rfl (fun hc => ?_) (fun hc => ?_)
    · exact hK _
    · exact absurd (by decide : (16 : Int32) ≤ nI 16) (of_decide_eq_false hc)
  | succ n ih =>
    intro k hk Z hZ ki hki
    subst hki; subst hZ
    refine EV.icm rfl (fun hc => ?_) (fun hc => ?_)
    · exact absurd (of_decide_eq_true hc) (nI_ge (b := 16) (by omega) (by decide))
    · have hix : fr + nI k = nI (at_ + (16 * hf + k)) := by rw [hfr, nI_add]; congr 1; omega
      repeat refine EV.s rfl rfl rfl ?_
      refine EW.iald 5 (at_ + (16 * hf + k)) hD rfl rfl rfl hix (by omega) hN ?_
      repeat (first | refine EV.s rfl rfl rfl ?_ | refine EW.get 0 hD rfl rfl rfl rfl ?_)
      refine EW.iald 3 k hD rfl rfl rfl rfl (by omega) (by decide) ?_
      repeat refine EV.s rfl rfl rfl ?_
      refine EW.iast 5 (at_ + (16 * hf + k)) hD rfl rfl rfl hbw hix (by omega) hN ?_
      repeat refine EV.s rfl rfl rfl ?_
      exact ih (k + 1) (by omega) _ (xk_s W at_ g (16 * hf + k) (B k) (hB k (by omega))).symm _ (nI_1 k)
set_option maxHeartbeats 1000000 in
theorem r_cov_out (d : Nat) (z ky stt bl w N at_ : Nat) (u l : Int32) (v0 v2 v3 : Value) (key C W : Nat → Int32) (h : e_H) (hD : [z, ky, stt, bl, sa 2, w].Nodup) (hbb : bs ≤ bl) (hbS : bs ≤ stt) (hbw : bs ≤ w) (hat : at_ + 32 ≤ N) (hN : N < 2 ^ 31) (E : e_C ⊕ (Option Value × e_H) → Prop)
    (hK : ∀ S B, E (.inr (none, wd [z, ky, stt, bl, sa 2, w] [.inl (3, [v0, .ref ky, v2, v3, .ref stt, .ref bl]), .inr (.inl (8, key)), .inr (.inl (16, S)), .inr (.inl (16, B)), .inr (.inl (4, C)), .inr (.inl (N, xk W at_ (sm C key u l) 32))] h))) :
    ∀ (n hf : Nat), hf + n = 2 → ∀ S B Z, Z = xk W at_ (sm C key u l) (16 * hf) → ∀ hi, hi = nI hf → ∀ l6 l7, ev_E tbs bs sa (d + 3) t_X3_cover E (6, [some (.ref z), some (.ref w), some (.int (nI at_)), some (.int u), some (.int l), some (.int hi), l6, l7], [.int 2, .int hi], wd [z, ky, stt, bl, sa 2, w] [.inl (3, [v0, .ref ky, v2, v3, .ref stt, .ref bl]), .inr (.inl (8, key)), .inr (.inl (16, S)), .inr (.inl (16, B)), .inr (.inl (4, C)), .inr (.inl (N, Z))] h) := by
  intro n
  induction n with
  | zero =>
    intro hf hk S B Z hZ hi hhi l6 l7
    have e : hf = 2 := by omega
    subst e; subst hZ; subst hhi
    refine EV.icm rfl (fun hc => ?_) (fun hc => ?_)
    · refine EV.ret rfl ?_
      exact hK S B
    · exact absurd (by decide : (2 : Int32) ≤ nI 2) (of_decide_eq_false hc)
  | succ n ih =>
    intro hf hk S B Z hZ hi hhi l6 l7
    subst hhi
    refine EV.icm rfl (fun hc => ?_) (fun hc => ?_)
    · exact absurd (of_decide_eq_true hc) (nI_ge (b := 2) (by omega) (by decide))
    · repeat refine EV.s rfl rfl rfl ?_
      refine EW.cvE 0 [0, 1, 2, 3, 4] hD (r_makeBlock d z ky stt bl (nI hf + 1) u l v0 v2 v3 key S B C (nd_sub hD [0, 1, 2, 3, 4] (by decide) rfl) hbb hbS) rfl rfl rfl rfl rfl (Nat.le_of_ble_eq_true rfl) (Nat.le_of_ble_eq_true rfl) rfl rfl rfl ?_
      rintro rv os2 ⟨rfl, S', B', hal, rfl⟩
      repeat refine EV.s rfl rfl rfl ?_
      refine r_cov_in d z ky stt bl w N at_ hf u l v0 v2 v3 key S' B' C W h hD hbw hat hN (by omega) (sm C key u l) (fun k hk => ?_) (nI hf) _ (by rw [Nat.mul_comm, ← nI_add, ← pk_mul]; rfl) _ (fun ki => ?_) 16 0 rfl Z hZ _ rfl
      · rw [hal k hk]
        simp only [sm]
        rw [show (16 * hf + k) / 16 = hf by omega, show (16 * hf + k) % 16 = k by omega]
      · repeat refine EV.s rfl rfl rfl ?_
        exact ih (hf + 1) (by omega) S' B' _ rfl _ (nI_1 hf) _ _
set_option maxHeartbeats 1000000 in
theorem r_cover (d : Nat) (z ky stt bl w N at_ : Nat) (u l : Int32) (v0 v2 v3 : Value) (key S B C W : Nat → Int32) (hD : [z, ky, stt, bl, sa 2, w].Nodup) (hbb : bs ≤ bl) (hbS : bs ≤ stt) (hbw : bs ≤ w) (hat : at_ + 32 ≤ N) (hN : N < 2 ^ 31) :
    CT bs sa (d + 4) 30 [.ref z, .ref w, .int (nI at_), .int u, .int l] [z, ky, stt, bl, sa 2, w] [.inl (3, [v0, .ref ky, v2, v3, .ref stt, .ref bl]), .inr (.inl (8, key)), .inr (.inl (16, S)), .inr (.inl (16, B)), .inr (.inl (4, C)), .inr (.inl (N, W))]
      (fun rv o => rv = none ∧ ∃ S' B', o = [.inl (3, [v0, .ref ky, v2, v3, .ref stt, .ref bl]), .inr (.inl (8, key)), .inr (.inl (16, S')), .inr (.inl (16, B')), .inr (.inl (4, C)), .inr (.inl (N, xk W at_ (sm C key u l) 32))]) := by
  refine CT.mk (T := t_X3_cover) rfl (Nat.le_of_ble_eq_true rfl) (fun h => ?_)
  repeat refine EV.s rfl rfl rfl ?_
  refine r_cov_out d z ky stt bl w N at_ u l v0 v2 v3 key C W h hD hbb hbS hbw hat hN _ (fun S' B' => ?_) 2 0 rfl S B W (xk_0 _ _ _).symm _ rfl none none
  exact ⟨_, _, rfl, _, ⟨⟨rfl, S', B', rfl⟩, rfl⟩, rfl⟩
/-- HMAC's key words -/
def hk (mark : Nat → Int32) (pad : Int32) (j : Nat) : Int32 := if j < 8 then mark j ^^^ pad else pad
def mbk (mark : Nat → Int32) (pad : Int32) (F : Nat → Int32) (k : Nat) : Nat → Int32 := fun j => if j < k then hk mark pad j else F j
theorem mbk_s (mark : Nat → Int32) (pad : Int32) (F : Nat → Int32) (k : Nat) : mbk mark pad F (k + 1) = upd (mbk mark pad F k) k (hk mark pad k) := by
  funext j
  simp only [mbk, upd]
  by_cases e : j = k
  · subst e; rw [if_pos (by omega), if_pos rfl]
  · rw [if_neg e]
    by_cases z : j < k
    · rw [if_pos z, if_pos (by omega)]
    · rw [if_neg z, if_neg (by omega)]
theorem mbk_0 (mark : Nat → Int32) (pad : Int32) (F : Nat → Int32) : mbk mark pad F 0 = F := by
  funext j; simp only [mbk]; rw [if_neg (by omega)]
set_option maxHeartbeats 1000000 in
theorem r_bwm_loop (d : Nat) (z mk hh ms s t : Nat) (pad : Int32) (v1 v3 v4 v5 : Value) (mark F : Nat → Int32) (h : e_H) (hD : [z, mk, hh, ms].Nodup) (hbh : bs ≤ hh) (hbm : bs ≤ ms) (E : e_C ⊕ (Option Value × e_H) → Prop)
    (hK : E (.inr (none, wd [z, mk, hh, ms] [.inl (3, [.ref hh, v1, .ref mk, v3, v4, v5]), .inr (.inl (8, mark)), .inl (0, [.ref ms, .ref s, .ref t, .int (nI 16)]), .inr (.inl (64, mbk mark pad F 16))] h))) :
    ∀ (n k : Nat), k + n = 16 → ∀ Z, Z = mbk mark pad F k → ∀ ki, ki = nI k → ev_E tbs bs sa (d + 1) t_X3_beginWithMark E (12, [some (.ref z), some (.int pad), some (.int ki)], [.int 16, .int ki], wd [z, mk, hh, ms] [.inl (3, [.ref hh, v1, .ref mk, v3, v4, v5]), .inr (.inl (8, mark)), .inl (0, [.ref ms, .ref s, .ref t, .int (nI k)]), .inr (.inl (64, Z))] h) := by
  intro n
  induction n with
  | zero =>
    intro k hk Z hZ ki hki
    have e : k = 16 := by omega
    subst e; subst hZ; subst hki
    refine EV.icm rfl (fun hc => ?_) (fun hc => ?_)
    · refine EV.ret rfl ?_
      exact hK
    · exact absurd (by decide : (16 : Int32) ≤ nI 16) (of_decide_eq_false hc)
  | succ n ih =>
    intro k hk9 Z hZ ki hki
    subst hki; subst hZ
    have hd2 : [hh, ms].Nodup := nd_sub hD [2, 3] (by decide) rfl
    refine EV.icm rfl (fun hc => ?_) (fun hc => ?_)
    · exact absurd (of_decide_eq_true hc) (nI_ge (b := 16) (by omega) (by decide))
    · repeat (first | refine EV.s rfl rfl rfl ?_ | refine EW.get 0 hD rfl rfl rfl rfl ?_)
      refine EV.icm rfl (fun hc8 => ?_) (fun hc8 => ?_)
      · have h8 : ¬ k < 8 := fun q => absurd (of_decide_eq_true hc8) (nI_ge (b := 8) q (by decide))
        repeat refine EV.s rfl rfl rfl ?_
        refine EW.cv 2 [2, 3] hD rfl (fun h0 => r_add d hh ms k s t pad (mbk mark pad F k) h0 hd2 hbh hbm (by omega)) rfl rfl rfl rfl (Nat.le_of_ble_eq_true rfl) (Nat.le_of_ble_eq_true rfl) rfl rfl rfl rfl ?_
        repeat refine EV.s rfl rfl rfl ?_
        exact ih (k + 1) (by omega) _ (by rw [mbk_s, hk, if_neg h8]) _ (nI_1 k)
      · have h8 : k < 8 := by
          rcases Nat.lt_or_ge k 8 with q | q
          · exact q
          · exact absurd (nI_le (a := 8) q (by omega)) (of_decide_eq_false hc8)
        repeat (first | refine EV.s rfl rfl rfl ?_ | refine EW.get 0 hD rfl rfl rfl rfl ?_)
        refine EW.iald 1 k hD rfl rfl rfl rfl h8 (by decide) ?_
        repeat refine EV.s rfl rfl rfl ?_
        refine EW.cv 2 [2, 3] hD rfl (fun h0 => r_add d hh ms k s t (mark k ^^^ pad) (mbk mark pad F k) h0 hd2 hbh hbm (by omega)) rfl rfl rfl rfl (Nat.le_of_ble_eq_true rfl) (Nat.le_of_ble_eq_true rfl) rfl rfl rfl rfl ?_
        repeat refine EV.s rfl rfl rfl ?_
        exact ih (k + 1) (by omega) _ (by rw [mbk_s, hk, if_pos h8]) _ (nI_1 k)
set_option maxHeartbeats 1000000 in
theorem r_beginWithMark (d : Nat) (z mk hh ms s t : Nat) (pad : Int32) (v1 v3 v4 v5 : Value) (L : Int32) (mark F : Nat → Int32) (h : e_H) (hD : [z, mk, hh, ms].Nodup) (hbh : bs ≤ hh) (hbm : bs ≤ ms) :
    ev_run tbs bs sa (d + 2) 29 [.ref z, .int pad] (wd [z, mk, hh, ms] [.inl (3, [.ref hh, v1, .ref mk, v3, v4, v5]), .inr (.inl (8, mark)), .inl (0, [.ref ms, .ref s, .ref t, .int L]), .inr (.inl (64, F))] h) none (wd [z, mk, hh, ms] [.inl (3, [.ref hh, v1, .ref mk, v3, v4, v5]), .inr (.inl (8, mark)), .inl (0, [.ref ms, .ref s, .ref t, .int (nI 16)]), .inr (.inl (64, mbk mark pad F 16))] h) := by
  refine RUN.mk (T := t_X3_beginWithMark) rfl (Nat.le_of_ble_eq_true rfl) ?_
  repeat (first | refine EV.s rfl rfl rfl ?_ | refine EW.get 0 hD rfl rfl rfl rfl ?_)
  refine EW.cv 2 [2] hD rfl (fun h0 => r_begin d hh (.ref ms) (.ref s) (.ref t) (.int L) rfl h0 (nd_sub hD [2] (by decide) rfl) hbh) rfl rfl rfl rfl (Nat.le_of_ble_eq_true rfl) (Nat.le_of_ble_eq_true rfl) rfl rfl rfl rfl ?_
  repeat refine EV.s rfl rfl rfl ?_
  refine r_bwm_loop d z mk hh ms s t pad v1 v3 v4 v5 mark F h hD hbh hbm _ ?_ 16 0 rfl F (mbk_0 _ _ _).symm _ rfl
  rfl
end SEA
