section CIN
variable {bs : Nat} {sa : Nat → Nat}
set_option maxHeartbeats 2000000 in
set_option maxRecDepth 100000 in
theorem i_sealer (d a z u : Nat) (seed : Int64) (I K : Nat → Int32) (f : Nat → Option e_O) (hD0 : [a, sa 0, sa 1].Nodup) (haz : a < z) (h0z : sa 0 < z) (h1z : sa 1 < z) (hb : bs ≤ a) :
    ∃ rv H', (rv = none ∧ ∃ L gm gs gh, H' = wd [a, sa 0, sa 1, z, z + 1, z + 2, z + 3, z + 4, z + 5, z + 6, z + 7, z + 8] [.inl (3, [.ref z, .ref (z + 4), .ref (z + 5), .ref (z + 6), .ref (z + 7), .ref (z + 8)]), .inr (.inl (8, I)), .inr (.inl (64, K)), .inl (0, [.ref (z + 1), .ref (z + 2), .ref (z + 3), .int L]), .inr (.inl (64, gm)), .inr (.inl (64, gs)), .inr (.inl (8, gh)), .inr (.inl (8, va_cpy (kdf K I seed 1) (fun _ => 0) 0 0 8)), .inr (.inl (8, va_cpy (kdf K I seed 2) (fun _ => 0) 0 0 8)), .inr (.inl (8, fun _ => 0)), .inr (.inl (16, fun _ => 0)), .inr (.inl (16, fun _ => 0))] (f, some (z + 9, u + 196))) ∧ ev_run tbs bs sa (d + 5) 26 [.ref a, .long seed] (wd [a, sa 0, sa 1] [.inl (3, [.null, .null, .null, .null, .null, .null]), .inr (.inl (8, I)), .inr (.inl (64, K))] (f, some (z, u))) rv H' := by
  have h01 : sa 0 ≠ sa 1 := by simp at hD0; omega
  have ha0 : a ≠ sa 0 ∧ a ≠ sa 1 := by simp at hD0; omega
  have hD1 : [a, sa 0, sa 1, z].Nodup := by simp; omega
  have hD4 : [a, sa 0, sa 1, z, z + 1, z + 2, z + 3].Nodup := by simp; omega
  have hD5 : [a, sa 0, sa 1, z, z + 1, z + 2, z + 3, z + 4].Nodup := by simp; omega
  have hD6 : [a, sa 0, sa 1, z, z + 1, z + 2, z + 3, z + 4, z + 5].Nodup := by simp; omega
  have hD7 : [a, sa 0, sa 1, z, z + 1, z + 2, z + 3, z + 4, z + 5, z + 6].Nodup := by simp; omega
  have hD8 : [a, sa 0, sa 1, z, z + 1, z + 2, z + 3, z + 4, z + 5, z + 6, z + 7].Nodup := by simp; omega
  have hD : [a, sa 0, sa 1, z, z + 1, z + 2, z + 3, z + 4, z + 5, z + 6, z + 7, z + 8].Nodup := by simp; omega
  refine RUN.mkE (T := t_X3_init) rfl (Nat.le_of_ble_eq_true rfl) ?_
  repeat refine EV.s rfl rfl rfl ?_
  refine EV.st rfl ?_
  repeat refine EV.s rfl rfl rfl ?_
  refine EI.newO (z + 1) (u + 4) [a, sa 0, sa 1, z] _ (by simp; omega) rfl rfl rfl rfl rfl rfl ?_
  repeat refine EV.s rfl rfl rfl ?_
  refine EI.call (wd [a, sa 0, sa 1, z, z + 1, z + 2, z + 3] [.inl (3, [.null, .null, .null, .null, .null, .null]), .inr (.inl (8, I)), .inr (.inl (64, K)), .inl (0, [.ref (z + 1), .ref (z + 2), .ref (z + 3), .int 0]), .inr (.inl (64, fun _ => 0)), .inr (.inl (64, fun _ => 0)), .inr (.inl (8, fun _ => 0))] (f, some (z + 4, u + 140))) rfl (wd_call (as1 := [z]) (nw := [z + 1, z + 2, z + 3]) (os1 := [.inl (0, [.null, .null, .null, .int 0])]) (os2 := [.inl (0, [.ref (z + 1), .ref (z + 2), .ref (z + 3), .int 0])]) (on := [.inr (.inl (64, fun _ => 0)), .inr (.inl (64, fun _ => 0)), .inr (.inl (8, fun _ => 0))]) [3] hD1 rfl (i_hash (d + 3) z (z + 1) (u + 4) _ (by omega) (by omega)) rfl rfl rfl rfl (by simp; omega)) rfl ?_
  try simp only [setm, List.set_cons_succ, List.set_cons_zero, Option.toList, List.nil_append, List.cons_append]
  refine EW.put 0 hD4 rfl rfl rfl hb (Nat.le_of_ble_eq_true rfl) rfl ?_
  try simp only [setm, List.set_cons_succ, List.set_cons_zero, Option.toList, List.nil_append, List.cons_append]
  repeat refine EV.s rfl rfl rfl ?_
  refine EI.newA 8 (z + 5) (u + 148) [a, sa 0, sa 1, z, z + 1, z + 2, z + 3, z + 4] _ (by simp; omega) rfl rfl rfl (by decide) rfl rfl rfl rfl ?_
  refine EW.put 0 hD5 rfl rfl rfl hb (Nat.le_of_ble_eq_true rfl) rfl ?_
  try simp only [setm, List.set_cons_succ, List.set_cons_zero, Option.toList, List.nil_append, List.cons_append]
  repeat refine EV.s rfl rfl rfl ?_
  refine EI.newA 8 (z + 6) (u + 156) [a, sa 0, sa 1, z, z + 1, z + 2, z + 3, z + 4, z + 5] _ (by simp; omega) rfl rfl rfl (by decide) rfl rfl rfl rfl ?_
  refine EW.put 0 hD6 rfl rfl rfl hb (Nat.le_of_ble_eq_true rfl) rfl ?_
  try simp only [setm, List.set_cons_succ, List.set_cons_zero, Option.toList, List.nil_append, List.cons_append]
  repeat refine EV.s rfl rfl rfl ?_
  refine EI.newA 8 (z + 7) (u + 164) [a, sa 0, sa 1, z, z + 1, z + 2, z + 3, z + 4, z + 5, z + 6] _ (by simp; omega) rfl rfl rfl (by decide) rfl rfl rfl rfl ?_
  refine EW.put 0 hD7 rfl rfl rfl hb (Nat.le_of_ble_eq_true rfl) rfl ?_
  try simp only [setm, List.set_cons_succ, List.set_cons_zero, Option.toList, List.nil_append, List.cons_append]
  repeat refine EV.s rfl rfl rfl ?_
  refine EI.newA 16 (z + 8) (u + 180) [a, sa 0, sa 1, z, z + 1, z + 2, z + 3, z + 4, z + 5, z + 6, z + 7] _ (by simp; omega) rfl rfl rfl (by decide) rfl rfl rfl rfl ?_
  refine EW.put 0 hD8 rfl rfl rfl hb (Nat.le_of_ble_eq_true rfl) rfl ?_
  try simp only [setm, List.set_cons_succ, List.set_cons_zero, Option.toList, List.nil_append, List.cons_append]
  repeat refine EV.s rfl rfl rfl ?_
  refine EI.newA 16 (z + 9) (u + 196) [a, sa 0, sa 1, z, z + 1, z + 2, z + 3, z + 4, z + 5, z + 6, z + 7, z + 8] _ (by simp; omega) rfl rfl rfl (by decide) rfl rfl rfl rfl ?_
  refine EW.put 0 hD rfl rfl rfl hb (Nat.le_of_ble_eq_true rfl) rfl ?_
  try simp only [setm, List.set_cons_succ, List.set_cons_zero, Option.toList, List.nil_append, List.cons_append]
  repeat (first | refine EV.s rfl rfl rfl ?_ | refine EW.get 0 hD rfl rfl rfl rfl ?_)
  refine EW.cvE 0 [0, 3, 4, 5, 6, 1, 2, 7] hD (r_derive d a z (z + 1) (z + 2) (z + 3) (z + 4) (.ref (z + 4)) (.ref (z + 5)) (.ref (z + 6)) (.ref (z + 7)) (.ref (z + 8)) 0 1 seed (fun _ => 0) (fun _ => 0) (fun _ => 0) I K (fun _ => 0) (nd_sub hD [0, 3, 4, 5, 6, 1, 2, 7] (by decide) rfl) (by omega) (by omega) (by omega) (by omega) (by omega)) rfl rfl rfl rfl rfl (Nat.le_of_ble_eq_true rfl) (Nat.le_of_ble_eq_true rfl) rfl rfl rfl ?_
  rintro rv os2 ⟨rfl, F1, G1, H1, T1, rfl, hT1⟩
  subst hT1
  try simp only [setm, List.set_cons_succ, List.set_cons_zero, Option.toList, List.nil_append, List.cons_append]
  repeat (first | refine EV.s rfl rfl rfl ?_ | refine EW.get 0 hD rfl rfl rfl rfl ?_)
  refine EW.cvE 0 [0, 3, 4, 5, 6, 1, 2, 8] hD (r_derive d a z (z + 1) (z + 2) (z + 3) (z + 5) (.ref (z + 4)) (.ref (z + 5)) (.ref (z + 6)) (.ref (z + 7)) (.ref (z + 8)) (nI 3) 2 seed F1 G1 H1 I K (fun _ => 0) (nd_sub hD [0, 3, 4, 5, 6, 1, 2, 8] (by decide) rfl) (by omega) (by omega) (by omega) (by omega) (by omega)) rfl rfl rfl rfl rfl (Nat.le_of_ble_eq_true rfl) (Nat.le_of_ble_eq_true rfl) rfl rfl rfl ?_
  rintro rv os2 ⟨rfl, F2, G2, H2, T2, rfl, hT2⟩
  subst hT2
  try simp only [setm, List.set_cons_succ, List.set_cons_zero, Option.toList, List.nil_append, List.cons_append]
  refine EV.ret rfl ?_
  exact ⟨_, _, rfl, rfl, _, _, _, _, rfl⟩
theorem pg_0' {B : Nat} {F w ms : Nat → Nat → Int32} {h : e_H} : pgH B 0 F w ms h = h := by
  refine Prod.ext ?_ rfl
  funext b
  show (if B + 10 ≤ b ∧ b < B + 10 + 3 * 0 then _ else _) = _
  rw [if_neg (by omega)]
/-- one page more -/
theorem pg_s {B k : Nat} {F w ms : Nat → Nat → Int32} {h : e_H} : wd [B + 10 + 3 * k, B + 11 + 3 * k, B + 12 + 3 * k] [.inl (1, pfs B F k), .inr (.inl (32, w k)), .inr (.inl (8, ms k))] (pgH B k F w ms h) = pgH B (k + 1) F w ms h := by
  rw [wd_cons, wd_cons, wd_cons, wd_nil]
  refine Prod.ext ?_ rfl
  funext b
  rw [ev_up_1, ev_up_1, ev_up_1]
  show _ = if B + 10 ≤ b ∧ b < B + 10 + 3 * (k + 1) then some (pcl B F w ms ((b - (B + 10)) / 3) ((b - (B + 10)) % 3)) else h.1 b
  by_cases e0 : b = B + 10 + 3 * k
  · rw [if_pos e0, if_pos (by omega), show (b - (B + 10)) / 3 = k by omega, show (b - (B + 10)) % 3 = 0 by omega]; rfl
  rw [if_neg e0]
  by_cases e1 : b = B + 11 + 3 * k
  · rw [if_pos e1, if_pos (by omega), show (b - (B + 10)) / 3 = k by omega, show (b - (B + 10)) % 3 = 1 by omega]; rfl
  rw [if_neg e1]
  by_cases e2 : b = B + 12 + 3 * k
  · rw [if_pos e2, if_pos (by omega), show (b - (B + 10)) / 3 = k by omega, show (b - (B + 10)) % 3 = 2 by omega]; rfl
  rw [if_neg e2]
  show (if B + 10 ≤ b ∧ b < B + 10 + 3 * k then some (pcl B F w ms ((b - (B + 10)) / 3) ((b - (B + 10)) % 3)) else h.1 b) = _
  by_cases c : B + 10 ≤ b ∧ b < B + 10 + 3 * k
  · rw [if_pos c, if_pos (by omega)]
  · rw [if_neg c, if_neg (by omega)]
/-- the first state -/
def F00 : Nat → Nat → Int32 := fun i p => if i = 1 then (if p < 40 then -1 else 0) else 0
def w00 : Nat → Nat → Int32 := fun _ _ => 0
def pga (B k : Nat) : Nat → Option Nat := fun j => if j < k then some (B + 10 + 3 * j) else none
def xas (B : Nat) (sa : Nat → Nat) : List Nat := [B, sa 0, sa 1, B + 1, B + 2, B + 3, B + 4, B + 5, B + 6, B + 7, B + 8, B + 9]
def xos (B P : Nat) (sl : Value) (pa : Nat → Option Nat) (I K : Nat → Int32) : List e_O := [.inl (4, [.ref (B + 9), .ref (B + 1), .ref (B + 2), .ref (B + 3), sl, .ref (B + 7), .long 0, .int 0, .int 0, .int 0, .int 0]), .inr (.inl (8, I)), .inr (.inl (64, K)), .inr (.inl (64, fun _ => 0)), .inr (.inl (8, fun _ => 0)), .inl (0, [.ref (B + 4), .ref (B + 5), .ref (B + 6), .int 0]), .inr (.inl (64, fun _ => 0)), .inr (.inl (64, fun _ => 0)), .inr (.inl (8, fun _ => 0)), .inl (2, [.ref (B + 8), .int (-1), .int (-1), .int (-1), .int (-1)]), .inr (.inr (.inr (32, fun _ => none))), .inr (.inr (.inr (P, pa)))]
theorem pga_s (B k : Nat) : va_up (pga B k) k (some (B + 10 + 3 * k)) = pga B (k + 1) := by
  funext j
  simp only [va_up, pga]
  by_cases e : j = k
  · rw [if_pos e, if_pos (by omega), e]
  · rw [if_neg e]
    by_cases c : j < k
    · rw [if_pos c, if_pos (by omega)]
    · rw [if_neg c, if_neg (by omega)]
set_option maxHeartbeats 2000000 in
set_option maxRecDepth 100000 in
theorem i_pages (d B P u : Nat) (hP : P ≤ 40) (I K : Nat → Int32) (f : Nat → Option e_O) (hD : (xas B sa).Nodup) (h0 : sa 0 < B) (h1 : sa 1 < B) (hb : bs ≤ B) (l1 : Option Value) (l2 l3 : Option Value) (E : e_C ⊕ (Option Value × e_H) → Prop)
    (hK : ∀ ki, ev_E tbs bs sa (d + 1) t_X4_init E (101, [some (.ref B), l1, l2, l3, some (.int (nI P)), some (.int ki)], [], wd (xas B sa) (xos B P .null (pga B P) I K) (pgH B P F00 w00 w00 (f, some (B + 10 + 3 * P, u + 48 * P))))) :
    ∀ (c k : Nat), k + c = P → ∀ ki, ki = nI k → ev_E tbs bs sa (d + 1) t_X4_init E (78, [some (.ref B), l1, l2, l3, some (.int (nI P)), some (.int ki)], [.int (nI P), .int ki], wd (xas B sa) (xos B P .null (pga B k) I K) (pgH B k F00 w00 w00 (f, some (B + 10 + 3 * k, u + 48 * k)))) := by
  intro c
  induction c with
  | zero =>
    intro k hk ki hki
    have e : k = P := by omega
    subst e; subst hki
    refine EV.icT rfl (decide_eq_true (nI_le (Nat.le_refl _) (by omega))) ?_
    exact hK _
  | succ c ih =>
    intro k hk ki hki
    subst hki
    have hnz : ∀ j, B + 10 + 3 * k + j ∉ xas B sa := by
      intro j
      simp [xas]; omega
    have hn3 : ∀ a ∈ [B + 11 + 3 * k, B + 12 + 3 * k], a ∉ xas B sa ++ [B + 10 + 3 * k] := by
      intro a ha
      simp [xas] at ha ⊢; omega
    have hD1 : (xas B sa ++ [B + 10 + 3 * k]).Nodup := by
      rw [List.nodup_append]
      refine ⟨hD, by simp, fun a ha b hb e => ?_⟩
      simp at hb
      subst e; subst hb
      exact hnz 0 ha
    refine EV.icF rfl (decide_eq_false (nI_ge (by omega) (by omega))) ?_
    repeat (first | refine EV.s rfl rfl rfl ?_ | refine EW.get 0 hD rfl rfl rfl rfl ?_)
    refine EI.newO (f := (pgH B k F00 w00 w00 (f, some (B + 10 + 3 * k, u + 48 * k))).1) (B + 11 + 3 * k) (u + 48 * k + 8) (xas B sa ++ [B + 10 + 3 * k]) (xos B P .null (pga B k) I K ++ [.inl (1, [.null, .null, .int 0, .int 0, .int 0, .int 0, .int 0, .int 0])]) (hnz 0) rfl rfl rfl rfl (by omega) rfl ?_
    repeat refine EV.s rfl rfl rfl ?_
    have e1 : B + 11 + 3 * k + 2 = B + 10 + 3 * (k + 1) := by omega
    have e2 : u + 48 * k + 8 + 40 = u + 48 * (k + 1) := by omega
    have hD3 : (xas B sa ++ [B + 10 + 3 * k, B + 11 + 3 * k, B + 12 + 3 * k]).Nodup := by
      rw [List.nodup_append]
      refine ⟨hD, by simp, fun a ha b hb e => ?_⟩
      subst e
      simp at hb
      rcases hb with rfl | rfl | rfl
      · exact hnz 0 ha
      · exact hnz 1 (by rw [show B + 10 + 3 * k + 1 = B + 11 + 3 * k by omega]; exact ha)
      · exact hnz 2 (by rw [show B + 10 + 3 * k + 2 = B + 12 + 3 * k by omega]; exact ha)
    refine EI.call (wd (xas B sa ++ [B + 10 + 3 * k, B + 11 + 3 * k, B + 12 + 3 * k]) (xos B P .null (pga B k) I K ++ [.inl (1, [.ref (B + 11 + 3 * k), .ref (B + 12 + 3 * k), .int 0, .int (-1), .int 0, .int 0, .int 0, .int 0]), .inr (.inl (32, fun _ => 0)), .inr (.inl (8, fun _ => 0))]) ((pgH B k F00 w00 w00 (f, some (B + 10 + 3 * k, u + 48 * k))).1, some (B + 10 + 3 * (k + 1), u + 48 * (k + 1)))) rfl (wd_call (as1 := [B + 10 + 3 * k]) (nw := [B + 11 + 3 * k, B + 12 + 3 * k]) (os1 := [.inl (1, [.null, .null, .int 0, .int 0, .int 0, .int 0, .int 0, .int 0])]) (os2 := [.inl (1, [.ref (B + 11 + 3 * k), .ref (B + 12 + 3 * k), .int 0, .int (-1), .int 0, .int 0, .int 0, .int 0])]) (on := [.inr (.inl (32, fun _ => 0)), .inr (.inl (8, fun _ => 0))]) [12] hD1 rfl (RUN.hq (i_page d (B + 10 + 3 * k) (B + 11 + 3 * k) (u + 48 * k + 8) _ (by omega) (by omega)) (by rw [show B + 11 + 3 * k + 1 = B + 12 + 3 * k by omega]; rfl)) rfl rfl rfl rfl hn3) (by rw [e1, e2]; rfl) ?_
    refine EW.aastY 11 k (xos B P .null (va_up (pga B k) k (some (B + 10 + 3 * k))) I K ++ [.inl (1, [.ref (B + 11 + 3 * k), .ref (B + 12 + 3 * k), .int 0, .int (-1), .int 0, .int 0, .int 0, .int 0]), .inr (.inl (32, fun _ => 0)), .inr (.inl (8, fun _ => 0))]) hD3 rfl rfl rfl (wd_at (q := 12) hD3 rfl rfl) (by omega) rfl (by omega) (by omega) (Nat.le_of_ble_eq_true rfl) rfl ?_
    have hf0 : pfs B F00 k = [.ref (B + 11 + 3 * k), .ref (B + 12 + 3 * k), .int 0, .int (-1), .int 0, .int 0, .int 0, .int 0] := by
      simp [pfs, F00]; omega
    rw [pga_s, ← hf0]
    refine EV.cls (wd_app (as1 := xas B sa) rfl) ?_
    have e3 : wd [B + 10 + 3 * k, B + 11 + 3 * k, B + 12 + 3 * k] [.inl (1, pfs B F00 k), .inr (.inl (32, fun _ => 0)), .inr (.inl (8, fun _ => 0))] ((pgH B k F00 w00 w00 (f, some (B + 10 + 3 * k, u + 48 * k))).1, some (B + 10 + 3 * (k + 1), u + 48 * (k + 1))) = pgH B (k + 1) F00 w00 w00 (f, some (B + 10 + 3 * (k + 1), u + 48 * (k + 1))) := pg_s (w := w00) (ms := w00) (h := (f, some (B + 10 + 3 * (k + 1), u + 48 * (k + 1))))
    rw [e3]
    repeat refine EV.s rfl rfl rfl ?_
    exact ih (k + 1) (by omega) _ (nI_1 k)
end CIN
