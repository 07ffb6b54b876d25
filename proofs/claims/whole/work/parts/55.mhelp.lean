/-- is page p of this TYPE -/
def iso (P : Nat) (tp : Nat → Int32) (p t : Int32) : Int32 := if 0 ≤ p ∧ p < nI P ∧ tp p.toNatClampNeg = t then 1 else 0
def cnt (f : Nat → Int32) (e : Int32) : Nat → Int32
  | 0 => 0
  | k + 1 => cnt f e k + (if f k = e then 1 else 0)
/-- the first from k on, among n -/
def fsr (f : Nat → Bool) : Nat → Nat → Option Nat
  | 0, _ => none
  | n + 1, k => cond (f k) (some k) (fsr f n (k + 1))
def fat (P : Nat) (tp ow ad : Nat → Int32) (e a : Int32) : Option Nat := fsr (fun k => decide (tp k = 3 ∧ ow k = e ∧ ad k = a)) P 0
def fatI (o : Option Nat) : Int32 := match o with
  | some k => nI k
  | none => -1
section MHL
variable {bs : Nat} {sa : Nat → Nat}
theorem r_misOf (d M P : Nat) (hP : P ≤ 40) (fs : List Value) (h1 : fs[1]? = some (.int (nI P))) (h2 : fs[2]? = some (.ref (M + 1))) (p t : Int32) (tp : Nat → Int32) (h : e_H) (hD : [M, M + 1].Nodup) :
    ev_run tbs bs sa (d + 1) 78 [.ref M, .int p, .int t] (wd [M, M + 1] [.inl (5, fs), .inr (.inl (40, tp))] h) (some (.int (iso P tp p t))) (wd [M, M + 1] [.inl (5, fs), .inr (.inl (40, tp))] h) := by
  refine RUN.mk (T := t_X5_isOf) rfl (Nat.le_of_ble_eq_true rfl) ?_
  repeat refine EV.s rfl rfl rfl ?_
  refine EV.ifc rfl (fun hc => ?_) (fun hc => ?_)
  · have hc : p < 0 := of_decide_eq_true hc
    repeat refine EV.s rfl rfl rfl ?_
    refine EV.ret rfl ?_
    rw [iso, if_neg (fun q => Int32.not_le.mpr hc q.1)]
  · have hc : ¬ p < 0 := of_decide_eq_false hc
    repeat (first | refine EV.s rfl rfl rfl ?_ | refine EW.get 0 hD rfl rfl rfl h1 ?_)
    refine EV.icm rfl (fun hb => ?_) (fun hb => ?_)
    · have hb : nI P ≤ p := of_decide_eq_true hb
      repeat refine EV.s rfl rfl rfl ?_
      refine EV.ret rfl ?_
      rw [iso, if_neg (fun q => Int32.not_lt.mpr hb q.2.1)]
    · have hb : ¬ nI P ≤ p := of_decide_eq_false hb
      obtain ⟨j, hj, rfl⟩ := in_nI (by omega) ⟨Int32.not_lt.mp hc, Int32.not_le.mp hb⟩
      repeat (first | refine EV.s rfl rfl rfl ?_ | refine EW.get 0 hD rfl rfl rfl h2 ?_)
      refine EW.iald 1 j hD rfl rfl rfl rfl (by omega) (by decide) ?_
      repeat refine EV.s rfl rfl rfl ?_
      refine EV.icm rfl (fun ht => ?_) (fun ht => ?_)
      · have ht : tp j ≠ t := of_decide_eq_true ht
        repeat refine EV.s rfl rfl rfl ?_
        refine EV.ret rfl ?_
        rw [iso, nI_clamp (by omega), if_neg (fun q => ht q.2.2)]
      · have ht : tp j = t := Decidable.of_not_not (of_decide_eq_false ht)
        repeat refine EV.s rfl rfl rfl ?_
        refine EV.ret rfl ?_
        rw [iso, nI_clamp (by omega), if_pos ⟨Int32.not_lt.mp hc, Int32.not_le.mp hb, ht⟩]
theorem r_mowned_loop (d M P : Nat) (hP : P ≤ 40) (fs : List Value) (h1 : fs[1]? = some (.int (nI P))) (h3 : fs[3]? = some (.ref (M + 2))) (e : Int32) (ow : Nat → Int32) (h : e_H) (hD : [M, M + 2].Nodup) (E : e_C ⊕ (Option Value × e_H) → Prop)
    (hK : E (.inr (some (.int (cnt ow e P)), wd [M, M + 2] [.inl (5, fs), .inr (.inl (40, ow))] h))) :
    ∀ (c k : Nat), k + c = P → ∀ n, n = cnt ow e k → ∀ ki, ki = nI k → ev_E tbs bs sa d t_X5_owned E (9, [some (.ref M), some (.int e), some (.int n), some (.int ki)], [.int (nI P), .int ki], wd [M, M + 2] [.inl (5, fs), .inr (.inl (40, ow))] h) := by
  intro c
  induction c with
  | zero =>
    intro k hk n hn ki hki
    have e : k = P := by omega
    subst e; subst hn; subst hki
    refine EV.icm rfl (fun hc => ?_) (fun hc => ?_)
    · repeat refine EV.s rfl rfl rfl ?_
      refine EV.ri rfl rfl ?_
      exact hK
    · exact absurd (nI_le (Nat.le_refl _) (by omega)) (of_decide_eq_false hc)
  | succ c ih =>
    intro k hk n hn ki hki
    subst hki; subst hn
    refine EV.icm rfl (fun hc => ?_) (fun hc => ?_)
    · exact absurd (of_decide_eq_true hc) (nI_ge (by omega) (by omega))
    · repeat (first | refine EV.s rfl rfl rfl ?_ | refine EW.get 0 hD rfl rfl rfl h3 ?_)
      refine EW.iald 1 k hD rfl rfl rfl rfl (by omega) (by decide) ?_
      repeat refine EV.s rfl rfl rfl ?_
      refine EV.icm rfl (fun ht => ?_) (fun ht => ?_)
      · have ht : ow k ≠ e := of_decide_eq_true ht
        repeat (first | refine EV.s rfl rfl rfl ?_ | refine EW.get 0 hD rfl rfl rfl h1 ?_)
        exact ih (k + 1) (by omega) _ (by simp only [cnt]; rw [if_neg ht]) _ (nI_1 k)
      · have ht : ow k = e := Decidable.of_not_not (of_decide_eq_false ht)
        repeat (first | refine EV.s rfl rfl rfl ?_ | refine EW.get 0 hD rfl rfl rfl h1 ?_)
        exact ih (k + 1) (by omega) _ (by simp only [cnt]; rw [if_pos ht]) _ (nI_1 k)
theorem r_mowned (d M P : Nat) (hP : P ≤ 40) (fs : List Value) (h1 : fs[1]? = some (.int (nI P))) (h3 : fs[3]? = some (.ref (M + 2))) (e : Int32) (ow : Nat → Int32) (h : e_H) (hD : [M, M + 2].Nodup) :
    ev_run tbs bs sa (d + 1) 79 [.ref M, .int e] (wd [M, M + 2] [.inl (5, fs), .inr (.inl (40, ow))] h) (some (.int (cnt ow e P))) (wd [M, M + 2] [.inl (5, fs), .inr (.inl (40, ow))] h) := by
  refine RUN.mk (T := t_X5_owned) rfl (Nat.le_of_ble_eq_true rfl) ?_
  repeat (first | refine EV.s rfl rfl rfl ?_ | refine EW.get 0 hD rfl rfl rfl h1 ?_)
  refine r_mowned_loop d M P hP fs h1 h3 e ow h hD _ ?_ P 0 (by omega) _ rfl _ rfl
  rfl
theorem r_mat_loop (d M P : Nat) (hP : P ≤ 40) (fs : List Value) (h1 : fs[1]? = some (.int (nI P))) (h2 : fs[2]? = some (.ref (M + 1))) (h3 : fs[3]? = some (.ref (M + 2))) (h4 : fs[4]? = some (.ref (M + 3))) (e a : Int32) (tp ow ad : Nat → Int32) (h : e_H) (hD : [M, M + 1, M + 2, M + 3].Nodup) (E : e_C ⊕ (Option Value × e_H) → Prop) (r : Option Nat)
    (hK : E (.inr (some (.int (fatI r)), wd [M, M + 1, M + 2, M + 3] [.inl (5, fs), .inr (.inl (40, tp)), .inr (.inl (40, ow)), .inr (.inl (40, ad))] h))) :
    ∀ (c k : Nat), k + c = P → fsr (fun k => decide (tp k = 3 ∧ ow k = e ∧ ad k = a)) c k = r → ∀ ki, ki = nI k → ev_E tbs bs sa d t_X5_at E (7, [some (.ref M), some (.int e), some (.int a), some (.int ki)], [.int (nI P), .int ki], wd [M, M + 1, M + 2, M + 3] [.inl (5, fs), .inr (.inl (40, tp)), .inr (.inl (40, ow)), .inr (.inl (40, ad))] h) := by
  intro c
  induction c with
  | zero =>
    intro k hk hr ki hki
    have e : k = P := by omega
    subst e; subst hki
    have hr : r = none := hr.symm
    subst hr
    refine EV.icm rfl (fun hc => ?_) (fun hc => ?_)
    · repeat refine EV.s rfl rfl rfl ?_
      refine EV.ri rfl rfl ?_
      exact hK
    · exact absurd (nI_le (Nat.le_refl _) (by omega)) (of_decide_eq_false hc)
  | succ c ih =>
    intro k hk hr ki hki
    subst hki
    simp only [fsr] at hr
    have go : ¬ (tp k = 3 ∧ ow k = e ∧ ad k = a) → ev_E tbs bs sa d t_X5_at E (42, [some (.ref M), some (.int e), some (.int a), some (.int (nI k))], [], wd [M, M + 1, M + 2, M + 3] [.inl (5, fs), .inr (.inl (40, tp)), .inr (.inl (40, ow)), .inr (.inl (40, ad))] h) := by
      intro hne
      rw [decide_eq_false hne] at hr
      repeat (first | refine EV.s rfl rfl rfl ?_ | refine EW.get 0 hD rfl rfl rfl h1 ?_)
      exact ih (k + 1) (by omega) hr _ (nI_1 k)
    refine EV.icm rfl (fun hc => ?_) (fun hc => ?_)
    · exact absurd (of_decide_eq_true hc) (nI_ge (by omega) (by omega))
    · repeat (first | refine EV.s rfl rfl rfl ?_ | refine EW.get 0 hD rfl rfl rfl h2 ?_)
      refine EW.iald 1 k hD rfl rfl rfl rfl (by omega) (by decide) ?_
      repeat refine EV.s rfl rfl rfl ?_
      refine EV.icm rfl (fun ht => ?_) (fun ht => ?_)
      · have ht : tp k ≠ 3 := of_decide_eq_true ht
        exact go (fun q => ht q.1)
      · have ht : tp k = 3 := Decidable.of_not_not (of_decide_eq_false ht)
        repeat (first | refine EV.s rfl rfl rfl ?_ | refine EW.get 0 hD rfl rfl rfl h3 ?_)
        refine EW.iald 2 k hD rfl rfl rfl rfl (by omega) (by decide) ?_
        repeat refine EV.s rfl rfl rfl ?_
        refine EV.icm rfl (fun ho => ?_) (fun ho => ?_)
        · have ho : ow k ≠ e := of_decide_eq_true ho
          exact go (fun q => ho q.2.1)
        · have ho : ow k = e := Decidable.of_not_not (of_decide_eq_false ho)
          repeat (first | refine EV.s rfl rfl rfl ?_ | refine EW.get 0 hD rfl rfl rfl h4 ?_)
          refine EW.iald 3 k hD rfl rfl rfl rfl (by omega) (by decide) ?_
          repeat refine EV.s rfl rfl rfl ?_
          refine EV.icm rfl (fun ha => ?_) (fun ha => ?_)
          · have ha : ad k ≠ a := of_decide_eq_true ha
            exact go (fun q => ha q.2.2)
          · have ha : ad k = a := Decidable.of_not_not (of_decide_eq_false ha)
            rw [decide_eq_true ⟨ht, ho, ha⟩] at hr
            have hr : r = some k := hr.symm
            subst hr
            repeat refine EV.s rfl rfl rfl ?_
            refine EV.ri rfl rfl ?_
            exact hK
theorem r_mat (d M P : Nat) (hP : P ≤ 40) (fs : List Value) (h1 : fs[1]? = some (.int (nI P))) (h2 : fs[2]? = some (.ref (M + 1))) (h3 : fs[3]? = some (.ref (M + 2))) (h4 : fs[4]? = some (.ref (M + 3))) (e a : Int32) (tp ow ad : Nat → Int32) (h : e_H) (hD : [M, M + 1, M + 2, M + 3].Nodup) :
    ev_run tbs bs sa (d + 1) 86 [.ref M, .int e, .int a] (wd [M, M + 1, M + 2, M + 3] [.inl (5, fs), .inr (.inl (40, tp)), .inr (.inl (40, ow)), .inr (.inl (40, ad))] h) (some (.int (fatI (fat P tp ow ad e a)))) (wd [M, M + 1, M + 2, M + 3] [.inl (5, fs), .inr (.inl (40, tp)), .inr (.inl (40, ow)), .inr (.inl (40, ad))] h) := by
  refine RUN.mk (T := t_X5_at) rfl (Nat.le_of_ble_eq_true rfl) ?_
  repeat (first | refine EV.s rfl rfl rfl ?_ | refine EW.get 0 hD rfl rfl rfl h1 ?_)
  refine r_mat_loop d M P hP fs h1 h2 h3 h4 e a tp ow ad h hD _ (fat P tp ow ad e a) ?_ P 0 (by omega) rfl _ rfl
  rfl
theorem r_inSlot (d M v s : Nat) (fs : List Value) (h8 : fs[8]? = some (.ref (M + 7))) (hv : v < 40) (hs : s < 16) (W : Nat → Int32) (h : e_H) (hD : [M, M + 7].Nodup) :
    ev_run tbs bs sa (d + 1) 98 [.ref M, .int (nI v), .int (nI s)] (wd [M, M + 7] [.inl (5, fs), .inr (.inl (1280, W))] h) (some (.long (jn (W (32 * v + 2 * s)) (W (32 * v + 2 * s + 1))))) (wd [M, M + 7] [.inl (5, fs), .inr (.inl (1280, W))] h) := by
  have e1 : (32 : Int32) * nI v + 2 * nI s = nI (32 * v + 2 * s) := by
    have a1 : (32 : Int32) * nI v = nI (32 * v) := pk_mul 32 v
    have a2 : (2 : Int32) * nI s = nI (2 * s) := pk_mul 2 s
    rw [a1, a2, nI_add]
  refine RUN.mk (T := t_X5_inSlot) rfl (Nat.le_of_ble_eq_true rfl) ?_
  repeat (first | refine EV.s rfl rfl rfl ?_ | refine EW.get 0 hD rfl rfl rfl h8 ?_)
  refine EW.iald 1 (32 * v + 2 * s) hD rfl rfl rfl e1 (by omega) (by decide) ?_
  repeat (first | refine EV.s rfl rfl rfl ?_ | refine EW.get 0 hD rfl rfl rfl h8 ?_)
  refine EW.iald 1 (32 * v + 2 * s + 1) hD rfl rfl rfl (by rw [← nI_1, ← e1]) (by omega) (by decide) ?_
  repeat refine EV.s rfl rfl rfl ?_
  refine EV.rl rfl rfl ?_
  rfl
def ua64 (x : Int64) : Int32 := (x >>> ((32 : Int32).toInt64 &&& 63)).toInt32
theorem r_setSlot (d M v s : Nat) (x : Int64) (fs : List Value) (h8 : fs[8]? = some (.ref (M + 7))) (hv : v < 40) (hs : s < 16) (W : Nat → Int32) (h : e_H) (hD : [M, M + 7].Nodup) (hb : bs ≤ M) :
    ev_run tbs bs sa (d + 1) 99 [.ref M, .int (nI v), .int (nI s), .long x] (wd [M, M + 7] [.inl (5, fs), .inr (.inl (1280, W))] h) none (wd [M, M + 7] [.inl (5, fs), .inr (.inl (1280, upd (upd W (32 * v + 2 * s) (ua64 x)) (32 * v + 2 * s + 1) x.toInt32))] h) := by
  have e1 : (32 : Int32) * nI v + 2 * nI s = nI (32 * v + 2 * s) := by
    have a1 : (32 : Int32) * nI v = nI (32 * v) := pk_mul 32 v
    have a2 : (2 : Int32) * nI s = nI (2 * s) := pk_mul 2 s
    rw [a1, a2, nI_add]
  refine RUN.mk (T := t_X5_setSlot) rfl (Nat.le_of_ble_eq_true rfl) ?_
  repeat (first | refine EV.s rfl rfl rfl ?_ | refine EW.get 0 hD rfl rfl rfl h8 ?_)
  refine EW.iast 1 (32 * v + 2 * s) hD rfl rfl rfl (by omega) e1 (by omega) (by decide) ?_
  repeat (first | refine EV.s rfl rfl rfl ?_ | refine EW.get 0 hD rfl rfl rfl h8 ?_)
  refine EW.iast 1 (32 * v + 2 * s + 1) hD rfl rfl rfl (by omega) (by rw [← nI_1, ← e1]) (by omega) (by decide) ?_
  refine EV.ret rfl ?_
  rfl
end MHL
