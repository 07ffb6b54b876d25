/-! The run of a THREAD: what it does (rcp, stp, rnn), and the model's reach, step, run. -/
def fl32 (w : Nat → Nat → Int32) : Nat → Int32 := fun i => w (i / 32) (i % 32)
def fl8 (m : Nat → Nat → Int32) : Nat → Int32 := fun i => m (i / 8) (i % 8)
def upp (w : Nat → Nat → Int32) (p : Nat) (f : Nat → Int32) : Nat → Nat → Int32 := fun q => if q = p then f else w q
theorem fl32_at (w : Nat → Nat → Int32) (p i : Nat) (hi : i < 32) : fl32 w (32 * p + i) = w p i := by
  unfold fl32; rw [show (32 * p + i) / 32 = p by omega, show (32 * p + i) % 32 = i by omega]
theorem fl8_at (w : Nat → Nat → Int32) (p i : Nat) (hi : i < 8) : fl8 w (8 * p + i) = w p i := by
  unfold fl8; rw [show (8 * p + i) / 8 = p by omega, show (8 * p + i) % 8 = i by omega]
theorem fl32_up (w : Nat → Nat → Int32) (p i : Nat) (hi : i < 32) (x : Int32) : upd (fl32 w) (32 * p + i) x = fl32 (upp w p (upd (w p) i x)) := by
  funext j
  simp only [upd, fl32, upp]
  by_cases e : j / 32 = p
  · rw [if_pos e]
    show _ = if j % 32 = i then x else w p (j % 32)
    by_cases e2 : j = 32 * p + i
    · rw [if_pos e2, if_pos (by omega)]
    · rw [if_neg e2, if_neg (by omega), e]
  · rw [if_neg e, if_neg (by omega)]
def rft (a : Int32) : Int32 := if 0 ≤ a ∧ a < nI 1024 then nI (a.toNatClampNeg / 32) else -1
def rcp (P : Nat) (F : Nat → Nat → Int32) (e a rg : Int32) : Option Nat :=
  if 0 ≤ a ∧ a < nI 1024 then (match fat P (F 0) (F 1) (F 2) e (nI (a.toNatClampNeg / 32)) with
    | some p => if F 3 p &&& rg = 0 then none else some p
    | none => none) else none
theorem fsr_some {f : Nat → Bool} {p : Nat} : ∀ {n k : Nat}, fsr f n k = some p → k ≤ p ∧ p < k + n ∧ f p = true
  | 0, k, h => by simp [fsr] at h
  | n + 1, k, h => by
    simp only [fsr] at h
    cases hc : f k with
    | true => rw [hc] at h; simp at h; subst h; exact ⟨Nat.le_refl _, by omega, hc⟩
    | false =>
      rw [hc] at h
      obtain ⟨h1, h2, h3⟩ := fsr_some (n := n) (k := k + 1) h
      exact ⟨by omega, by omega, h3⟩
theorem fat_some {P : Nat} {tp ow ad : Nat → Int32} {e a : Int32} {p : Nat} (h : fat P tp ow ad e a = some p) : p < P ∧ tp p = 3 ∧ ow p = e ∧ ad p = a := by
  obtain ⟨h1, h2, h3⟩ := fsr_some h
  exact ⟨by omega, of_decide_eq_true h3⟩
theorem rcp_some {P : Nat} {F : Nat → Nat → Int32} {e a rg : Int32} {p : Nat} (h : rcp P F e a rg = some p) : ∃ j, j < 1024 ∧ a = nI j ∧ fat P (F 0) (F 1) (F 2) e (nI (j / 32)) = some p ∧ F 3 p &&& rg ≠ 0 := by
  unfold rcp at h
  by_cases c : 0 ≤ a ∧ a < nI 1024
  · rw [if_pos c] at h
    obtain ⟨j, hj, rfl⟩ := in_nI (by decide) c
    rw [nI_clamp (by omega)] at h
    refine ⟨j, hj, rfl, ?_⟩
    cases hf : fat P (F 0) (F 1) (F 2) e (nI (j / 32)) with
    | none => rw [hf] at h; cases h
    | some q =>
      rw [hf] at h
      by_cases z : F 3 q &&& rg = 0
      · simp [z] at h
      · simp [z] at h; subst h; exact ⟨rfl, z⟩
  · rw [if_neg c] at h; cases h
theorem m1_nI {p : Nat} (h : p < 2 ^ 31) : nI p ≠ -1 := by
  intro e
  have := nI_pos (n := p) h
  rw [e] at this
  exact this (by decide)
/-- the model's fields -/
def mf (M P : Nat) (th c0 c1 c2 c3 : Int32) (lg : Int64) (pc mk en gv ft : Int32) : List Value := [.int th, .int (nI P), .ref (M + 1), .ref (M + 2), .ref (M + 3), .ref (M + 4), .ref (M + 5), .ref (M + 6), .ref (M + 7), .ref (M + 8), .ref (M + 9), .ref (M + 10), .ref (M + 11), .int c0, .int c1, .int c2, .int c3, .long lg, .ref (M + 12), .ref (M + 13), .ref (M + 14), .ref (M + 15), .ref (M + 16), .ref (M + 17), .ref (M + 18), .int pc, .int mk, .int en, .int gv, .int ft]
section EVX
variable {bs : Nat} {sa : Nat → Nat} {d : Nat} {T : e_M} {E : e_C ⊕ (Option Value × e_H) → Prop}
variable {pc nx x1 x2 idx : Nat} {v w : Value} {ts : List Nat} {lo : e_L} {r : List Value} {h : e_H} {as : List Nat} {os : List e_O}
theorem EW.putX {a : Nat} {fs : List Value} (q : Nat) (fs' : List Value) (hD : as.Nodup) (hf : ev_fnd T.2 pc = some (.putfield idx, nx, x1, x2, v, ts)) (h1 : as[q]? = some a) (h2 : os[q]? = some (.inl (x1, fs))) (hb : bs ≤ a) (hl : x2 < fs.length) (hk : ev_kd w = ev_kd v) (he : fs.set x2 w = fs') (k : ev_E tbs bs sa d T E (nx, lo, r, wd as (os.set q (.inl (x1, fs'))) h)) : ev_E tbs bs sa d T E (pc, lo, w :: .ref a :: r, wd as os h) := by
  subst he
  exact EW.put q hD hf h1 h2 hb hl hk k
theorem EV.tsw {df : Nat} {tg : List Nat} {x : Int32} (j : Nat) (hf : ∃ i, ev_fnd T.2 pc = some (i, nx, x1, x2, v, df :: tg) ∧ ∀ lo sk h, ev_ins bs sa T.1.2.2.2.2 nx x1 x2 v (df :: tg) lo sk h i = ev_tss (df :: tg) lo sk h) (hx : x = nI j) (hj : j < 2 ^ 31) (k : ev_E tbs bs sa d T E (tg.getD j df, lo, r, h)) : ev_E tbs bs sa d T E (pc, lo, .int x :: r, h) := by
  obtain ⟨i, hf, hi⟩ := hf
  refine EV.st ?_ k
  simp only [ev_stp, hf, hi, ev_tss, ev_go]
  subst hx
  have e : ev_tsw (df :: tg) (nI j) = tg.getD j df := by
    unfold ev_tsw
    rw [nI_toInt hj]
    simp only []
    by_cases c : j < tg.length
    · rw [if_pos ⟨by omega, by omega⟩]; simp
    · rw [if_neg (fun z => by omega)]
      simp [List.getD, List.getElem?_eq_none (by omega : tg.length ≤ j)]
  rw [e]
end EVX
section MRU
variable {bs : Nat} {sa : Nat → Nat}
set_option maxHeartbeats 1000000 in
set_option maxRecDepth 100000 in
theorem r_mreachS (d M P : Nat) (th c0 c1 c2 c3 : Int32) (lg : Int64) (pc mk en gv ft : Int32) (hP : P ≤ 40) (F : Nat → Nat → Int32) (e a rg : Int32) (p : Nat) (hr : rcp P F e a rg = some p) (h : e_H) (hD : [M, M + 1, M + 2, M + 3, M + 4].Nodup) :
    ev_run tbs bs sa (d + 2) 95 [.ref M, .int e, .int a, .int rg] (wd [M, M + 1, M + 2, M + 3, M + 4] [.inl (5, mf M P th c0 c1 c2 c3 lg pc mk en gv ft), .inr (.inl (40, F 0)), .inr (.inl (40, F 1)), .inr (.inl (40, F 2)), .inr (.inl (40, F 3))] h) (some (.int (nI (32 * p + a.toNatClampNeg % 32)))) (wd [M, M + 1, M + 2, M + 3, M + 4] [.inl (5, mf M P th c0 c1 c2 c3 lg pc mk en gv ft), .inr (.inl (40, F 0)), .inr (.inl (40, F 1)), .inr (.inl (40, F 2)), .inr (.inl (40, F 3))] h) := by
  obtain ⟨j, hj, rfl, hf, hz⟩ := rcp_some hr
  obtain ⟨hp, -⟩ := fat_some hf
  have e32 : nI j / 32 = nI (j / 32) := pk_div (d := 32) (by omega) (by omega) (by omega)
  have er : nI j - nI j / 32 * 32 = nI (j % 32) := pk_rem (d := 32) (by omega) (by omega) (by omega)
  have em : (32 : Int32) * nI p = nI (32 * p) := pk_mul 32 p
  refine RUN.mk (T := t_X5_reach) rfl (Nat.le_of_ble_eq_true rfl) ?_
  repeat refine EV.s rfl rfl rfl ?_
  refine EV.ifc rfl (fun hc => ?_) (fun hc => ?_)
  · exact absurd (of_decide_eq_true hc) (nI_pos (by omega))
  repeat refine EV.s rfl rfl rfl ?_
  refine EV.icm rfl (fun hc => ?_) (fun hc => ?_)
  · repeat refine EV.s rfl rfl rfl ?_
    refine EW.cv 0 [0, 1, 2, 3] hD rfl (fun h0 => r_mat d M P hP _ rfl rfl rfl rfl e (nI j / 32) (F 0) (F 1) (F 2) h0 (nd_sub hD [0, 1, 2, 3] (by decide) rfl)) rfl rfl rfl rfl (Nat.le_of_ble_eq_true rfl) (Nat.le_of_ble_eq_true rfl) rfl rfl rfl rfl ?_
    try simp only [setm, List.set_cons_succ, List.set_cons_zero, Option.toList, List.nil_append, List.cons_append]
    rw [e32, hf, fatI]
    repeat refine EV.s rfl rfl rfl ?_
    refine EV.icm rfl (fun hb => ?_) (fun hb => ?_)
    · exact absurd (of_decide_eq_true hb) (m1_nI (by omega))
    · repeat (first | refine EV.s rfl rfl rfl ?_ | refine EW.get 0 hD rfl rfl rfl rfl ?_)
      refine EW.iald 4 p hD rfl rfl rfl rfl (by omega) (by decide) ?_
      repeat refine EV.s rfl rfl rfl ?_
      refine EV.ifc rfl (fun hb => ?_) (fun hb => ?_)
      · exact absurd (of_decide_eq_true hb) hz
      · repeat refine EV.s rfl rfl rfl ?_
        refine EV.ri rfl rfl ?_
        simp only [er, em, cond_false, nI_add]
        rw [nI_clamp (by omega)]
  · exact absurd (nI_le (a := j) (b := 1023) (by omega) (by decide)) (of_decide_eq_false hc)
theorem rcp_none {P : Nat} {F : Nat → Nat → Int32} {e a rg : Int32} (h : rcp P F e a rg = none) : (¬ (0 ≤ a ∧ a < nI 1024) ∧ rft a = -1) ∨ ∃ j, j < 1024 ∧ a = nI j ∧ rft a = nI (j / 32) ∧ ∀ p, fat P (F 0) (F 1) (F 2) e (nI (j / 32)) = some p → F 3 p &&& rg = 0 := by
  unfold rcp at h
  by_cases c : 0 ≤ a ∧ a < nI 1024
  · rw [if_pos c] at h
    have h2 : rft a = nI (a.toNatClampNeg / 32) := by unfold rft; rw [if_pos c]
    obtain ⟨j, hj, rfl⟩ := in_nI (by decide) c
    rw [nI_clamp (by omega)] at h h2
    refine Or.inr ⟨j, hj, rfl, h2, ?_⟩
    intro p hf
    rw [hf] at h
    by_cases z : F 3 p &&& rg = 0
    · exact z
    · simp [z] at h
  · exact Or.inl ⟨c, by unfold rft; rw [if_neg c]⟩
set_option maxHeartbeats 1000000 in
set_option maxRecDepth 100000 in
theorem r_mreachN (d M P : Nat) (th c0 c1 c2 c3 : Int32) (lg : Int64) (pc mk en gv ft : Int32) (hP : P ≤ 40) (F : Nat → Nat → Int32) (e a rg : Int32) (hr : rcp P F e a rg = none) (h : e_H) (hD : [M, M + 1, M + 2, M + 3, M + 4].Nodup) (hbs : bs ≤ M) :
    ev_run tbs bs sa (d + 2) 95 [.ref M, .int e, .int a, .int rg] (wd [M, M + 1, M + 2, M + 3, M + 4] [.inl (5, mf M P th c0 c1 c2 c3 lg pc mk en gv ft), .inr (.inl (40, F 0)), .inr (.inl (40, F 1)), .inr (.inl (40, F 2)), .inr (.inl (40, F 3))] h) (some (.int (-1))) (wd [M, M + 1, M + 2, M + 3, M + 4] [.inl (5, mf M P th c0 c1 c2 c3 lg pc mk 1 gv (rft a)), .inr (.inl (40, F 0)), .inr (.inl (40, F 1)), .inr (.inl (40, F 2)), .inr (.inl (40, F 3))] h) := by
  refine RUN.mk (T := t_X5_reach) rfl (Nat.le_of_ble_eq_true rfl) ?_
  have go : ∀ l4, ev_E tbs bs sa (d + 1) t_X5_reach (fun x => x = .inr (some (.int (-1)), wd [M, M + 1, M + 2, M + 3, M + 4] [.inl (5, mf M P th c0 c1 c2 c3 lg pc mk 1 gv (rft a)), .inr (.inl (40, F 0)), .inr (.inl (40, F 1)), .inr (.inl (40, F 2)), .inr (.inl (40, F 3))] h)) (55, [some (.ref M), some (.int e), some (.int a), some (.int rg), some (.int l4)], [], wd [M, M + 1, M + 2, M + 3, M + 4] [.inl (5, mf M P th c0 c1 c2 c3 lg pc mk en gv ft), .inr (.inl (40, F 0)), .inr (.inl (40, F 1)), .inr (.inl (40, F 2)), .inr (.inl (40, F 3))] h) := by
    intro l4
    repeat refine EV.s rfl rfl rfl ?_
    refine EW.putX 0 (mf M P th c0 c1 c2 c3 lg pc mk 1 gv ft) hD rfl rfl rfl hbs (Nat.le_of_ble_eq_true rfl) rfl rfl ?_
    try simp only [setm, List.set_cons_succ, List.set_cons_zero, Option.toList, List.nil_append, List.cons_append]
    have fin : ∀ x : Int32, x = rft a → ev_E tbs bs sa (d + 1) t_X5_reach (fun x => x = .inr (some (.int (-1)), wd [M, M + 1, M + 2, M + 3, M + 4] [.inl (5, mf M P th c0 c1 c2 c3 lg pc mk 1 gv (rft a)), .inr (.inl (40, F 0)), .inr (.inl (40, F 1)), .inr (.inl (40, F 2)), .inr (.inl (40, F 3))] h)) (80, [some (.ref M), some (.int e), some (.int a), some (.int rg), some (.int l4)], [.int x, .ref M], wd [M, M + 1, M + 2, M + 3, M + 4] [.inl (5, mf M P th c0 c1 c2 c3 lg pc mk 1 gv ft), .inr (.inl (40, F 0)), .inr (.inl (40, F 1)), .inr (.inl (40, F 2)), .inr (.inl (40, F 3))] h) := by
      intro x hx
      subst hx
      refine EW.putX 0 (mf M P th c0 c1 c2 c3 lg pc mk 1 gv (rft a)) hD rfl rfl rfl hbs (Nat.le_of_ble_eq_true rfl) rfl rfl ?_
      try simp only [setm, List.set_cons_succ, List.set_cons_zero, Option.toList, List.nil_append, List.cons_append]
      repeat refine EV.s rfl rfl rfl ?_
      refine EV.ri rfl rfl ?_
      rfl
    repeat refine EV.s rfl rfl rfl ?_
    refine EV.ifc rfl (fun hc => ?_) (fun hc => ?_)
    · have hc : a < 0 := of_decide_eq_true hc
      repeat refine EV.s rfl rfl rfl ?_
      refine fin _ ?_
      unfold rft; rw [if_neg (fun z => Int32.not_le.mpr hc z.1)]
    · have hc : ¬ a < 0 := of_decide_eq_false hc
      repeat refine EV.s rfl rfl rfl ?_
      refine EV.icm rfl (fun hb => ?_) (fun hb => ?_)
      · have hb : a ≤ nI 1023 := of_decide_eq_true hb
        obtain ⟨j, hj, rfl⟩ := nI_of2 (n := 1023) rfl hc hb
        repeat refine EV.s rfl rfl rfl ?_
        refine fin _ ?_
        have e32 : nI j / 32 = nI (j / 32) := pk_div (d := 32) (by omega) (by omega) (by omega)
        rw [e32, cond_true]
        unfold rft; rw [if_pos ⟨Int32.not_lt.mp hc, nI_lt (by omega) (by decide)⟩, nI_clamp (by omega)]
      · have hb : ¬ a ≤ nI 1023 := of_decide_eq_false hb
        repeat refine EV.s rfl rfl rfl ?_
        refine fin _ ?_
        unfold rft; rw [if_neg]
        intro z
        obtain ⟨j, hj, rfl⟩ := in_nI (by decide) z
        exact hb (nI_le (by omega) (by decide))
  rcases rcp_none hr with ⟨hn, -⟩ | ⟨j, hj, rfl, -, hf⟩
  · repeat refine EV.s rfl rfl rfl ?_
    refine EV.ifc rfl (fun hc => ?_) (fun hc => ?_)
    · repeat refine EV.s rfl rfl rfl ?_
      refine EV.icm rfl (fun hb => ?_) (fun hb => ?_)
      · exact go _
      · exact absurd hb (by decide)
    · have hc : ¬ a < 0 := of_decide_eq_false hc
      repeat refine EV.s rfl rfl rfl ?_
      refine EV.icm rfl (fun hb => ?_) (fun hb => ?_)
      · have hb : a ≤ nI 1023 := of_decide_eq_true hb
        obtain ⟨j, hj, rfl⟩ := nI_of2 (n := 1023) rfl hc hb
        exact absurd ⟨Int32.not_lt.mp hc, nI_lt (by omega) (by decide)⟩ hn
      · repeat refine EV.s rfl rfl rfl ?_
        refine EV.icm rfl (fun hb => ?_) (fun hb => ?_)
        · exact go _
        · exact absurd hb (by decide)
  · have e32 : nI j / 32 = nI (j / 32) := pk_div (d := 32) (by omega) (by omega) (by omega)
    repeat refine EV.s rfl rfl rfl ?_
    refine EV.ifc rfl (fun hc => ?_) (fun hc => ?_)
    · exact absurd (of_decide_eq_true hc) (nI_pos (by omega))
    repeat refine EV.s rfl rfl rfl ?_
    refine EV.icm rfl (fun hc => ?_) (fun hc => ?_)
    · repeat refine EV.s rfl rfl rfl ?_
      refine EW.cv 0 [0, 1, 2, 3] hD rfl (fun h0 => r_mat d M P hP _ rfl rfl rfl rfl e (nI j / 32) (F 0) (F 1) (F 2) h0 (nd_sub hD [0, 1, 2, 3] (by decide) rfl)) rfl rfl rfl rfl (Nat.le_of_ble_eq_true rfl) (Nat.le_of_ble_eq_true rfl) rfl rfl rfl rfl ?_
      try simp only [setm, List.set_cons_succ, List.set_cons_zero, Option.toList, List.nil_append, List.cons_append]
      rw [e32]
      cases hq : fat P (F 0) (F 1) (F 2) e (nI (j / 32)) with
      | none =>
        simp only [fatI]
        repeat refine EV.s rfl rfl rfl ?_
        refine EV.icm rfl (fun hb => ?_) (fun hb => ?_)
        · exact go _
        · exact absurd hb (by decide)
      | some p =>
        obtain ⟨hp, -⟩ := fat_some hq
        simp only [fatI]
        repeat refine EV.s rfl rfl rfl ?_
        refine EV.icm rfl (fun hb => ?_) (fun hb => ?_)
        · exact absurd (of_decide_eq_true hb) (m1_nI (by omega))
        · repeat (first | refine EV.s rfl rfl rfl ?_ | refine EW.get 0 hD rfl rfl rfl rfl ?_)
          refine EW.iald 4 p hD rfl rfl rfl rfl (by omega) (by decide) ?_
          repeat refine EV.s rfl rfl rfl ?_
          refine EV.ifc rfl (fun hb => ?_) (fun hb => ?_)
          · exact go _
          · exact absurd (hf p hq) (of_decide_eq_false hb)
    · exact absurd (nI_le (a := j) (b := 1023) (by omega) (by decide)) (of_decide_eq_false hc)
end MRU
