def ev_smp : Instr → Bool
  | .if_icmp _ _ => false
  | .ifCond _ _ => false
  | .tableswitch _ _ _ _ => false
  | .getfield _ => false
  | .putfield _ => false
  | .iaload => false
  | .iastore => false
  | .laload => false
  | .lastore => false
  | .aaload => false
  | .aastore => false
  | .arraylength => false
  | .new _ => false
  | .newarray _ => false
  | .anewarray _ => false
  | .invokestatic _ => false
  | .invokespecial _ => false
  | .invokevirtual _ => false
  | .ireturn => false
  | .lreturn => false
  | .areturn => false
  | .return_ => false
  | _ => true
def setm : List e_O → List Nat → List e_O → List e_O
  | os, p :: ps, x :: xs => (setm os ps xs).set p x
  | os, _, _ => os
theorem setm_len : ∀ (os : List e_O) (ps : List Nat) (xs : List e_O), (setm os ps xs).length = os.length
  | os, [], xs => by simp [setm]
  | os, p :: ps, [] => by simp [setm]
  | os, p :: ps, x :: xs => by simp only [setm, List.length_set]; exact setm_len os ps xs
theorem wd_cons (a : Nat) (as : List Nat) (o : e_O) (os : List e_O) (h : e_H) : wd (a :: as) (o :: os) h = ev_up (wd as os h) a o := by
  refine Prod.ext ?_ rfl
  funext b
  rw [ev_up_1]
  by_cases e : b = a
  · subst e; simp [wd, ev_lk]
  · rw [if_neg e]; simp [wd, ev_lk, beq_ne e]
theorem wd_nil (h : e_H) : wd [] [] h = h := by
  refine Prod.ext ?_ rfl
  funext b
  simp [wd, ev_lk]
theorem up_same {h : e_H} {a : Nat} {o : e_O} (hh : h.1 a = some o) : ev_up h a o = h := by
  refine Prod.ext ?_ rfl
  funext b
  rw [ev_up_1]
  by_cases e : b = a
  · rw [if_pos e, e, hh]
  · rw [if_neg e]
/-- a callee's world inside a caller's -/
theorem wd_in {as : List Nat} {os : List e_O} {h : e_H} (hD : as.Nodup) : ∀ {ps as1 : List Nat} {os1 : List e_O}, ps.map (fun p => as[p]?) = as1.map some → ps.map (fun p => os[p]?) = os1.map some → wd as1 os1 (wd as os h) = wd as os h
  | [], as1, os1, h1, h2 => by
    have e1 : as1 = [] := by simpa using h1.symm
    have e2 : os1 = [] := by simpa using h2.symm
    subst e1; subst e2; exact wd_nil _
  | p :: ps, [], os1, h1, h2 => by simp at h1
  | p :: ps, a :: as1, [], h1, h2 => by simp at h2
  | p :: ps, a :: as1, o :: os1, h1, h2 => by
    simp only [List.map_cons, List.cons.injEq] at h1 h2
    rw [wd_cons, wd_in hD h1.2 h2.2]
    exact up_same (wd_at hD h1.1 h2.1)
theorem wd_out2 {as : List Nat} {os : List e_O} {h : e_H} (hD : as.Nodup) (hl : as.length = os.length) : ∀ {ps as1 : List Nat} {os1 : List e_O}, ps.map (fun p => as[p]?) = as1.map some → os1.length = ps.length → wd as1 os1 (wd as os h) = wd as (setm os ps os1) h
  | [], as1, os1, h1, h2 => by
    have e1 : as1 = [] := by simpa using h1.symm
    have e2 : os1 = [] := List.length_eq_zero_iff.mp h2
    subst e1; subst e2; rw [wd_nil]; rfl
  | p :: ps, [], os1, h1, h2 => by simp at h1
  | p :: ps, a :: as1, [], h1, h2 => by simp at h2
  | p :: ps, a :: as1, o :: os1, h1, h2 => by
    simp only [List.map_cons, List.cons.injEq] at h1
    rw [wd_cons, wd_out2 hD hl h1.2 (by simpa using h2)]
    exact wd_up hD h1.1 (by rw [setm_len, ← hl]; exact (List.getElem?_eq_some_iff.mp h1.1).1)
section EVZ
variable {bs : Nat} {sa : Nat → Nat} {d : Nat} {T : e_M} {E : e_C ⊕ (Option Value × e_H) → Prop}
variable {pc nx x1 x2 idx : Nat} {v w : Value} {ts : List Nat} {lo : e_L} {r : List Value} {h : e_H} {as : List Nat} {os : List e_O}
theorem EV.s {i : Instr} {cf' : e_C} {sk : List Value} (hf : ev_fnd T.2 pc = some (i, nx, x1, x2, v, ts)) (hi : ev_smp i = true) (hs : ev_ins bs sa T.1.2.2.2.2 nx x1 x2 v ts lo sk h i = some (.inl cf')) (k : ev_E tbs bs sa d T E cf') : ev_E tbs bs sa d T E (pc, lo, sk, h) := by
  refine EV.st ?_ k
  simp only [ev_stp, hf]; exact hs
theorem EV.cv {ci b : Nat} {fs : List Value} {sk : List Value} {rv : Option Value} {h' : e_H} (hf : ev_fnd T.2 pc = some (.invokevirtual idx, nx, x1, x2, v, [ci])) (hdr : sk.drop x2 = .ref b :: r) (ho : h.1 b = some (.inl (ci, fs))) (hlen : x2 ≤ sk.length) (hsum : ev_sum r ≤ 8) (hr : ev_run tbs bs sa d x1 (.ref b :: (sk.take x2).reverse) h rv h') (k : ev_E tbs bs sa d T E (nx, lo, rv.toList ++ r, h')) : ev_E tbs bs sa d T E (pc, lo, sk, h) := by
  refine EV.call (y := x1) (as := .ref b :: (sk.take x2).reverse) ?_ hr k
  have h1 : Nat.ble x2 sk.length = true := Nat.ble_eq_true_of_le hlen
  have h2 : Nat.ble (ev_sum r) 8 = true := Nat.ble_eq_true_of_le hsum
  simp [ev_stp, hf, ev_ins, ev_callV, hdr, ev_obj, ho, h1, h2]
theorem EW.cv {ci b : Nat} {fs : List Value} {sk avs : List Value} {rv : Option Value} {as1 : List Nat} {os1 os2 : List e_O} (q : Nat) (ps : List Nat) (hD : as.Nodup) (hl : as.length = os.length) (hr : ∀ h0, ev_run tbs bs sa d x1 avs (wd as1 os1 h0) rv (wd as1 os2 h0)) (hf : ev_fnd T.2 pc = some (.invokevirtual idx, nx, x1, x2, v, [ci])) (hdr : sk.drop x2 = .ref b :: r) (hq : as[q]? = some b) (ho : os[q]? = some (.inl (ci, fs))) (hlen : x2 ≤ sk.length) (hsum : ev_sum r ≤ 8) (ha : avs = .ref b :: (sk.take x2).reverse) (h1 : ps.map (fun p => as[p]?) = as1.map some) (h2 : ps.map (fun p => os[p]?) = os1.map some) (h3 : os2.length = ps.length)
    (k : ev_E tbs bs sa d T E (nx, lo, rv.toList ++ r, wd as (setm os ps os2) h)) : ev_E tbs bs sa d T E (pc, lo, sk, wd as os h) := by
  subst ha
  have hr := hr (wd as os h)
  rw [wd_in hD h1 h2, wd_out2 hD hl h1 h3] at hr
  exact EV.cv hf hdr (wd_at hD hq ho) hlen hsum hr k
theorem EW.cs {sk avs : List Value} {rv : Option Value} {as1 : List Nat} {os1 os2 : List e_O} (ps : List Nat) (hD : as.Nodup) (hl : as.length = os.length) (hr : ∀ h0, ev_run tbs bs sa d x1 avs (wd as1 os1 h0) rv (wd as1 os2 h0)) (hf : ev_fnd T.2 pc = some (.invokestatic idx, nx, x1, x2, v, ts)) (hne : x1 ≠ 1001) (hlen : x2 ≤ sk.length) (hsum : ev_sum (sk.drop x2) ≤ 8) (ha : avs = (sk.take x2).reverse) (h1 : ps.map (fun p => as[p]?) = as1.map some) (h2 : ps.map (fun p => os[p]?) = os1.map some) (h3 : os2.length = ps.length)
    (k : ev_E tbs bs sa d T E (nx, lo, rv.toList ++ sk.drop x2, wd as (setm os ps os2) h)) : ev_E tbs bs sa d T E (pc, lo, sk, wd as os h) := by
  subst ha
  have hr := hr (wd as os h)
  rw [wd_in hD h1 h2, wd_out2 hD hl h1 h3] at hr
  refine EV.call (y := x1) (as := (sk.take x2).reverse) ?_ hr k
  have g1 : Nat.ble x2 sk.length = true := Nat.ble_eq_true_of_le hlen
  have g2 : Nat.ble (ev_sum (sk.drop x2)) 8 = true := Nat.ble_eq_true_of_le hsum
  simp [ev_stp, hf, ev_ins, hne, ev_callS, g1, g2]
theorem EW.cpy {a a0 n0 n1 : Nat} {f g : Nat → Int32} {i0 i1 i2 : Int32} (q0 q1 sp dp n : Nat) (hD : as.Nodup) (hf : ev_fnd T.2 pc = some (.invokestatic idx, nx, 1001, x2, v, ts)) (h1 : as[q0]? = some a0) (h2 : os[q0]? = some (.inr (.inl (n0, f)))) (h3 : as[q1]? = some a) (h4 : os[q1]? = some (.inr (.inl (n1, g)))) (hb : bs ≤ a) (hs : i0 = nI sp) (hd : i1 = nI dp) (hn : i2 = nI n) (l0 : sp + n ≤ n0) (l1 : dp + n ≤ n1) (m0 : n0 < 2 ^ 31) (m1 : n1 < 2 ^ 31) (hsum : ev_sum r ≤ 8)
    (k : ev_E tbs bs sa d T E (nx, lo, r, wd as (os.set q1 (.inr (.inl (n1, va_cpy f g sp dp n)))) h)) : ev_E tbs bs sa d T E (pc, lo, .int i2 :: .int i1 :: .ref a :: .int i0 :: .ref a0 :: r, wd as os h) := by
  subst hs; subst hd; subst hn
  have e0 : (nI sp).toNatClampNeg = sp := nI_clamp (by omega)
  have e1 : (nI dp).toNatClampNeg = dp := nI_clamp (by omega)
  have e2 : (nI n).toNatClampNeg = n := nI_clamp (by omega)
  have p0 : ¬ nI sp < 0 := nI_pos (by omega)
  have p1 : ¬ nI dp < 0 := nI_pos (by omega)
  have p2 : ¬ nI n < 0 := nI_pos (by omega)
  have b0 : Nat.ble bs a = true := Nat.ble_eq_true_of_le hb
  have b1 : Nat.ble (ev_sum r) 8 = true := Nat.ble_eq_true_of_le hsum
  have b2 : Nat.ble (sp + n) n0 = true := Nat.ble_eq_true_of_le l0
  have b3 : Nat.ble (dp + n) n1 = true := Nat.ble_eq_true_of_le l1
  rw [← wd_up hD h3 (List.getElem?_eq_some_iff.mp h4).1] at k
  refine EV.st ?_ k
  simp [ev_stp, hf, ev_ins, ev_cpy, ev_ia, wd_at hD h1 h2, wd_at hD h3 h4, e0, e1, e2, p0, p1, p2, b0, b1, b2, b3, ev_go]
end EVZ
theorem EV.ri {bs : Nat} {sa : Nat → Nat} {d : Nat} {T : e_M} {E : e_C ⊕ (Option Value × e_H) → Prop} {pc nx x1 x2 : Nat} {v : Value} {ts : List Nat} {lo : e_L} {h : e_H} {x : Int32} (hf : ev_fnd T.2 pc = some (.ireturn, nx, x1, x2, v, ts)) (hr : T.1.2.2.2.2 = some .int) (k : E (.inr (some (.int x), h))) : ev_E tbs bs sa d T E (pc, lo, [.int x], h) := by
  refine EV.ret (v := some (.int x)) ?_ k
  simp [ev_stp, hf, ev_ins, ev_ret, hr, ev_kd, ev_rk, narrow]
theorem EV.rl {bs : Nat} {sa : Nat → Nat} {d : Nat} {T : e_M} {E : e_C ⊕ (Option Value × e_H) → Prop} {pc nx x1 x2 : Nat} {v : Value} {ts : List Nat} {lo : e_L} {h : e_H} {x : Int64} (hf : ev_fnd T.2 pc = some (.lreturn, nx, x1, x2, v, ts)) (hr : T.1.2.2.2.2 = some .long) (k : E (.inr (some (.long x), h))) : ev_E tbs bs sa d T E (pc, lo, [.long x], h) := by
  refine EV.ret (v := some (.long x)) ?_ k
  simp [ev_stp, hf, ev_ins, ev_ret, hr, ev_kd, ev_rk, narrow]
theorem rch_some {bs : Nat} {sa : Nat → Nat} {K : Nat → List Value → e_H → Option Value → e_H → Prop} {T : e_M} {Q : Option Value → e_H → Prop} : ∀ (n : Nat) (cf : e_C), ev_rch bs sa K T (fun x => ∃ v h', x = .inr (v, h') ∧ Q v h') n cf → ∃ v h', Q v h' ∧ ev_rch bs sa K T (fun x => x = .inr (v, h')) n cf := by
  intro n
  induction n with
  | zero => intro cf h; obtain ⟨v, h', e, -⟩ := h; cases e
  | succ n ih =>
    intro cf h
    rcases h with h | h
    · obtain ⟨v, h', e, -⟩ := h; cases e
    · split at h
      · rename_i cf' hs
        obtain ⟨v, h', hq, hr⟩ := ih _ h
        exact ⟨v, h', hq, Or.inr (by rw [hs]; exact hr)⟩
      · rename_i v hs
        obtain ⟨v', h', e, hq⟩ := h
        exact ⟨v', h', hq, Or.inr (by rw [hs]; exact e)⟩
      · rename_i y as nx lo r hs
        obtain ⟨v, h1, hk, hr⟩ := h
        obtain ⟨v', h', hq, hr⟩ := ih _ hr
        exact ⟨v', h', hq, Or.inr (by rw [hs]; exact ⟨v, h1, hk, hr⟩)⟩
      · exact h.elim
theorem RUN.mkE {bs : Nat} {sa : Nat → Nat} {d : Nat} {T : e_M} {y : Nat} {as : List Value} {h : e_H} {Q : Option Value → e_H → Prop} (hT : tbs y = some T) (hl : (ev_args as).length ≤ T.1.2.2.2.1) (k : ev_E tbs bs sa d T (fun x => ∃ v h', x = .inr (v, h') ∧ Q v h') (0, ev_loc T.1.2.2.2.1 as, [], h)) : ∃ v h', Q v h' ∧ ev_run tbs bs sa (d + 1) y as h v h' := by
  obtain ⟨n, hn⟩ := k
  obtain ⟨v, h', hq, hr⟩ := rch_some n _ hn
  exact ⟨v, h', hq, ⟨T, n, hT, hl, hr⟩⟩
/-- a contract: over any heap, with the world os1 at as1, the method y ends with an answer and a world of Q -/
def CT (bs : Nat) (sa : Nat → Nat) (d y : Nat) (avs : List Value) (as1 : List Nat) (os1 : List e_O) (Q : Option Value → List e_O → Prop) : Prop := ∀ h0, ∃ rv os2, (Q rv os2 ∧ os2.length = as1.length) ∧ ev_run tbs bs sa d y avs (wd as1 os1 h0) rv (wd as1 os2 h0)
theorem CT.mk {bs : Nat} {sa : Nat → Nat} {d : Nat} {T : e_M} {y : Nat} {avs : List Value} {as1 : List Nat} {os1 : List e_O} {Q : Option Value → List e_O → Prop} (hT : tbs y = some T) (hl : (ev_args avs).length ≤ T.1.2.2.2.1) (k : ∀ h, ev_E tbs bs sa d T (fun x => ∃ v h', x = .inr (v, h') ∧ ∃ os2, (Q v os2 ∧ os2.length = as1.length) ∧ h' = wd as1 os2 h) (0, ev_loc T.1.2.2.2.1 avs, [], wd as1 os1 h)) : CT bs sa (d + 1) y avs as1 os1 Q := by
  intro h0
  obtain ⟨v, h', ⟨os2, hq, rfl⟩, hr⟩ := RUN.mkE hT hl (k h0)
  exact ⟨v, os2, hq, hr⟩
theorem CT.le {bs : Nat} {sa : Nat → Nat} {d d' : Nat} {y : Nat} {avs : List Value} {as1 : List Nat} {os1 : List e_O} {Q : Option Value → List e_O → Prop} (hd : d ≤ d') (h : CT bs sa d y avs as1 os1 Q) : CT bs sa d' y avs as1 os1 Q := by
  intro h0
  obtain ⟨rv, os2, hq, hr⟩ := h h0
  exact ⟨rv, os2, hq, RUN.le hd hr⟩
theorem CT.of {bs : Nat} {sa : Nat → Nat} {d : Nat} {y : Nat} {avs : List Value} {as1 : List Nat} {os1 os2 : List e_O} {rv : Option Value} (hl : os2.length = as1.length) (h : ∀ h0, ev_run tbs bs sa d y avs (wd as1 os1 h0) rv (wd as1 os2 h0)) : CT bs sa d y avs as1 os1 (fun v o => v = rv ∧ o = os2) := fun h0 => ⟨rv, os2, ⟨⟨rfl, rfl⟩, hl⟩, h h0⟩
section EVZ2
variable {bs : Nat} {sa : Nat → Nat} {d : Nat} {T : e_M} {E : e_C ⊕ (Option Value × e_H) → Prop}
variable {pc nx x1 x2 idx : Nat} {v w : Value} {ts : List Nat} {lo : e_L} {r : List Value} {h : e_H} {as : List Nat} {os : List e_O}
theorem EW.cvE {ci b : Nat} {fs : List Value} {sk avs : List Value} {as1 : List Nat} {os1 : List e_O} {Q : Option Value → List e_O → Prop} (q : Nat) (ps : List Nat) (hD : as.Nodup) (hr : CT bs sa d x1 avs as1 os1 Q) (hf : ev_fnd T.2 pc = some (.invokevirtual idx, nx, x1, x2, v, [ci])) (hl : as.length = os.length) (hdr : sk.drop x2 = .ref b :: r) (hq : as[q]? = some b) (ho : os[q]? = some (.inl (ci, fs))) (hlen : x2 ≤ sk.length) (hsum : ev_sum r ≤ 8) (ha : avs = .ref b :: (sk.take x2).reverse) (h1 : ps.map (fun p => as[p]?) = as1.map some) (h2 : ps.map (fun p => os[p]?) = os1.map some)
    (k : ∀ rv os2, Q rv os2 → ev_E tbs bs sa d T E (nx, lo, rv.toList ++ r, wd as (setm os ps os2) h)) : ev_E tbs bs sa d T E (pc, lo, sk, wd as os h) := by
  subst ha
  obtain ⟨rv, os2, ⟨hQ, hl2⟩, hr⟩ := hr (wd as os h)
  have h3 : os2.length = ps.length := by rw [hl2]; have := congrArg List.length h1; simpa using this.symm
  rw [wd_in hD h1 h2, wd_out2 hD hl h1 h3] at hr
  exact EV.cv hf hdr (wd_at hD hq ho) hlen hsum hr (k rv os2 hQ)
theorem EW.csE {sk avs : List Value} {as1 : List Nat} {os1 : List e_O} {Q : Option Value → List e_O → Prop} (ps : List Nat) (hD : as.Nodup) (hr : CT bs sa d x1 avs as1 os1 Q) (hf : ev_fnd T.2 pc = some (.invokestatic idx, nx, x1, x2, v, ts)) (hl : as.length = os.length) (hne : x1 ≠ 1001) (hlen : x2 ≤ sk.length) (hsum : ev_sum (sk.drop x2) ≤ 8) (ha : avs = (sk.take x2).reverse) (h1 : ps.map (fun p => as[p]?) = as1.map some) (h2 : ps.map (fun p => os[p]?) = os1.map some)
    (k : ∀ rv os2, Q rv os2 → ev_E tbs bs sa d T E (nx, lo, rv.toList ++ sk.drop x2, wd as (setm os ps os2) h)) : ev_E tbs bs sa d T E (pc, lo, sk, wd as os h) := by
  subst ha
  obtain ⟨rv, os2, ⟨hQ, hl2⟩, hr⟩ := hr (wd as os h)
  have h3 : os2.length = ps.length := by rw [hl2]; have := congrArg List.length h1; simpa using this.symm
  rw [wd_in hD h1 h2, wd_out2 hD hl h1 h3] at hr
  refine EV.call (y := x1) (as := (sk.take x2).reverse) ?_ hr (k rv os2 hQ)
  have g1 : Nat.ble x2 sk.length = true := Nat.ble_eq_true_of_le hlen
  have g2 : Nat.ble (ev_sum (sk.drop x2)) 8 = true := Nat.ble_eq_true_of_le hsum
  simp [ev_stp, hf, ev_ins, hne, ev_callS, g1, g2]
end EVZ2
theorem EV.alen {bs : Nat} {sa : Nat → Nat} {d : Nat} {T : e_M} {E : e_C ⊕ (Option Value × e_H) → Prop} {pc nx x1 x2 : Nat} {v : Value} {ts : List Nat} {lo : e_L} {r : List Value} {h : e_H} {a n : Nat} (hf : ev_fnd T.2 pc = some (.arraylength, nx, x1, x2, v, ts)) (ho : ev_len h a = some n) (k : ev_E tbs bs sa d T E (nx, lo, .int (nI n) :: r, h)) : ev_E tbs bs sa d T E (pc, lo, .ref a :: r, h) := by
  refine EV.st ?_ k
  simp [ev_stp, hf, ev_ins, ev_alen, ho, ev_go, nI]
theorem EW.alenR {bs : Nat} {sa : Nat → Nat} {d : Nat} {T : e_M} {E : e_C ⊕ (Option Value × e_H) → Prop} {pc nx x1 x2 : Nat} {v : Value} {ts : List Nat} {lo : e_L} {r : List Value} {h : e_H} {a n : Nat} {as : List Nat} {os : List e_O} {f : Nat → Option Nat} (q : Nat) (hD : as.Nodup) (hf : ev_fnd T.2 pc = some (.arraylength, nx, x1, x2, v, ts)) (h1 : as[q]? = some a) (h2 : os[q]? = some (.inr (.inr (.inr (n, f))))) (k : ev_E tbs bs sa d T E (nx, lo, .int (nI n) :: r, wd as os h)) : ev_E tbs bs sa d T E (pc, lo, .ref a :: r, wd as os h) := EV.alen hf (by simp [ev_len, wd_at hD h1 h2]) k
theorem EW.alenI {bs : Nat} {sa : Nat → Nat} {d : Nat} {T : e_M} {E : e_C ⊕ (Option Value × e_H) → Prop} {pc nx x1 x2 : Nat} {v : Value} {ts : List Nat} {lo : e_L} {r : List Value} {h : e_H} {a n : Nat} {as : List Nat} {os : List e_O} {f : Nat → Int32} (q : Nat) (hD : as.Nodup) (hf : ev_fnd T.2 pc = some (.arraylength, nx, x1, x2, v, ts)) (h1 : as[q]? = some a) (h2 : os[q]? = some (.inr (.inl (n, f)))) (k : ev_E tbs bs sa d T E (nx, lo, .int (nI n) :: r, wd as os h)) : ev_E tbs bs sa d T E (pc, lo, .ref a :: r, wd as os h) := EV.alen hf (by simp [ev_len, wd_at hD h1 h2]) k
theorem EV.aast {bs : Nat} {sa : Nat → Nat} {d : Nat} {T : e_M} {E : e_C ⊕ (Option Value × e_H) → Prop} {pc nx x1 x2 : Nat} {v : Value} {ts : List Nat} {lo : e_L} {r : List Value} {h : e_H} {a b n j : Nat} {f : Nat → Option Nat} {fs : List Value} {i : Int32} (hf : ev_fnd T.2 pc = some (.aastore, nx, x1, x2, v, ts)) (ho : h.1 a = some (.inr (.inr (.inr (n, f))))) (hp : h.1 b = some (.inl (1, fs))) (hb : bs ≤ a) (hi : i = nI j) (hj : j < n) (hn : n < 2 ^ 31) (k : ev_E tbs bs sa d T E (nx, lo, r, ev_up h a (.inr (.inr (.inr (n, va_up f j (some b))))))) : ev_E tbs bs sa d T E (pc, lo, .ref b :: .int i :: .ref a :: r, h) := by
  refine EV.st ?_ k
  obtain ⟨h1, h2⟩ := ev_inN hi hj hn
  have h3 : Nat.ble bs a = true := Nat.ble_eq_true_of_le hb
  simp [ev_stp, hf, ev_ins, ev_aast, ev_ra, ev_obj, ho, hp, ev_go, h1, h2, h3]
theorem EV.aastN {bs : Nat} {sa : Nat → Nat} {d : Nat} {T : e_M} {E : e_C ⊕ (Option Value × e_H) → Prop} {pc nx x1 x2 : Nat} {v : Value} {ts : List Nat} {lo : e_L} {r : List Value} {h : e_H} {a n j : Nat} {f : Nat → Option Nat} {i : Int32} (hf : ev_fnd T.2 pc = some (.aastore, nx, x1, x2, v, ts)) (ho : h.1 a = some (.inr (.inr (.inr (n, f))))) (hb : bs ≤ a) (hi : i = nI j) (hj : j < n) (hn : n < 2 ^ 31) (k : ev_E tbs bs sa d T E (nx, lo, r, ev_up h a (.inr (.inr (.inr (n, va_up f j none)))))) : ev_E tbs bs sa d T E (pc, lo, .null :: .int i :: .ref a :: r, h) := by
  refine EV.st ?_ k
  obtain ⟨h1, h2⟩ := ev_inN hi hj hn
  have h3 : Nat.ble bs a = true := Nat.ble_eq_true_of_le hb
  simp [ev_stp, hf, ev_ins, ev_aast, ev_ra, ho, ev_go, h1, h2, h3]
