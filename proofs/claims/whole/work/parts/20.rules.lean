/-! Rules for runs of the evaluator, goal first. -/
section EVQ
variable {bs : Nat} {sa : Nat → Nat} {d : Nat} {T : e_M} {E : e_C ⊕ (Option Value × e_H) → Prop}
theorem EV.fin {cf : e_C} (h : E (.inl cf)) : ev_E tbs bs sa d T E cf := ⟨0, h⟩
theorem EV.st {cf cf' : e_C} (hs : ev_stp bs sa T cf = some (.inl cf')) (k : ev_E tbs bs sa d T E cf') : ev_E tbs bs sa d T E cf := by
  obtain ⟨n, hn⟩ := k
  refine ⟨n + 1, Or.inr ?_⟩
  rw [hs]; exact hn
theorem EV.ret {cf : e_C} {v : Option Value} (hs : ev_stp bs sa T cf = some (.inr (.inl v))) (k : E (.inr (v, cf.2.2.2))) : ev_E tbs bs sa d T E cf := by
  refine ⟨1, Or.inr ?_⟩
  rw [hs]; exact k
theorem EV.call {cf : e_C} {y nx : Nat} {as r : List Value} {lo : e_L} {v : Option Value} {h' : e_H} (hs : ev_stp bs sa T cf = some (.inr (.inr (y, as, nx, lo, r)))) (hr : ev_run tbs bs sa d y as cf.2.2.2 v h') (k : ev_E tbs bs sa d T E (nx, lo, v.toList ++ r, h')) : ev_E tbs bs sa d T E cf := by
  obtain ⟨n, hn⟩ := k
  refine ⟨n + 1, Or.inr ?_⟩
  rw [hs]; exact ⟨v, h', hr, hn⟩
theorem RUN.mk {y : Nat} {as : List Value} {h h' : e_H} {v : Option Value} (hT : tbs y = some T) (hl : (ev_args as).length ≤ T.1.2.2.2.1) (k : ev_E tbs bs sa d T (fun x => x = .inr (v, h')) (0, ev_loc T.1.2.2.2.1 as, [], h)) : ev_run tbs bs sa (d + 1) y as h v h' := by
  obtain ⟨n, hn⟩ := k
  exact ⟨T, n, hT, hl, hn⟩
theorem ev_rch_K {K K' : Nat → List Value → e_H → Option Value → e_H → Prop} (hK : ∀ y as h v h', K y as h v h' → K' y as h v h') {E : e_C ⊕ (Option Value × e_H) → Prop} : ∀ (n : Nat) (cf : e_C), ev_rch bs sa K T E n cf → ev_rch bs sa K' T E n cf := by
  intro n
  induction n with
  | zero => intro cf h; exact h
  | succ n ih =>
    intro cf h
    rcases h with h | h
    · exact Or.inl h
    · refine Or.inr ?_
      split at h
      · exact ih _ h
      · exact h
      · obtain ⟨v, h', hk, hr⟩ := h
        exact ⟨v, h', hK _ _ _ _ _ hk, ih _ hr⟩
      · exact h
theorem RUN.up {tb : Nat → Option e_M} : ∀ (d y : Nat) (as : List Value) (h : e_H) (v : Option Value) (h' : e_H), ev_run tb bs sa d y as h v h' → ev_run tb bs sa (d + 1) y as h v h' := by
  intro d
  induction d with
  | zero => intro y as h v h' q; exact q.elim
  | succ d ih =>
    intro y as h v h' q
    obtain ⟨T, n, h1, h2, h3⟩ := q
    exact ⟨T, n, h1, h2, ev_rch_K ih n _ h3⟩
theorem RUN.le {tb : Nat → Option e_M} {d d' y : Nat} {as : List Value} {h h' : e_H} {v : Option Value} (hd : d ≤ d') (q : ev_run tb bs sa d y as h v h') : ev_run tb bs sa d' y as h v h' := by
  induction hd with
  | refl => exact q
  | step _ ih => exact RUN.up _ _ _ _ _ _ ih
/-- a world: cells as at the addresses os, over a heap -/
def ev_lk : List Nat → List e_O → Nat → Option e_O
  | a :: as, o :: os, b => cond (Nat.beq b a) (some o) (ev_lk as os b)
  | _, _, _ => none
def wd (as : List Nat) (os : List e_O) (h : e_H) : e_H := (fun b => match ev_lk as os b with
  | some o => some o
  | none => h.1 b, h.2)
theorem beq_ne {a b : Nat} (h : a ≠ b) : Nat.beq a b = false := by
  cases hq : Nat.beq a b with
  | false => rfl
  | true => exact absurd (Nat.eq_of_beq_eq_true hq) h
theorem beq_rf (a : Nat) : Nat.beq a a = true := by simp
theorem lk_at : ∀ {as : List Nat} {os : List e_O} {q a : Nat} {o : e_O}, as.Nodup → as[q]? = some a → os[q]? = some o → ev_lk as os a = some o
  | [], _, q, a, o, _, h, _ => by simp at h
  | b :: as, [], q, a, o, _, _, h => by simp at h
  | b :: as, x :: os, 0, a, o, _, h1, h2 => by
    simp at h1 h2; subst h1; subst h2; simp [ev_lk]
  | b :: as, x :: os, q + 1, a, o, hn, h1, h2 => by
    simp at h1 h2
    obtain ⟨n1, n2⟩ := List.nodup_cons.mp hn
    have hne : a ≠ b := fun e => n1 (by rw [← e]; exact List.mem_of_getElem? h1)
    simp only [ev_lk, beq_ne hne, cond_false]
    exact lk_at n2 h1 h2
theorem lk_out : ∀ {as : List Nat} {os : List e_O} {a : Nat}, a ∉ as → ev_lk as os a = none
  | [], _, a, _ => by simp [ev_lk]
  | b :: as, [], a, _ => by simp [ev_lk]
  | b :: as, x :: os, a, h => by
    have h1 : a ≠ b := fun e => h (by rw [e]; exact List.mem_cons_self)
    simp only [ev_lk, beq_ne h1, cond_false]
    exact lk_out (fun q => h (List.mem_cons_of_mem _ q))
theorem wd_at {as : List Nat} {os : List e_O} {h : e_H} {q a : Nat} {o : e_O} (hn : as.Nodup) (h1 : as[q]? = some a) (h2 : os[q]? = some o) : (wd as os h).1 a = some o := by
  simp [wd, lk_at hn h1 h2]
theorem wd_out {as : List Nat} {os : List e_O} {h : e_H} {a : Nat} (hn : a ∉ as) : (wd as os h).1 a = h.1 a := by
  simp [wd, lk_out hn]
theorem lk_set : ∀ {as : List Nat} {os : List e_O} {q a : Nat} {o : e_O} (b : Nat), as.Nodup → as[q]? = some a → q < os.length → ev_lk as (os.set q o) b = if b = a then some o else ev_lk as os b
  | [], _, q, a, o, b, _, h, _ => by simp at h
  | c :: as, [], q, a, o, b, _, _, h => by simp at h
  | c :: as, x :: os, 0, a, o, b, _, h1, h2 => by
    simp at h1; subst h1
    by_cases e : b = c
    · subst e; simp [ev_lk]
    · simp [ev_lk, beq_ne e, e]
  | c :: as, x :: os, q + 1, a, o, b, hn, h1, h2 => by
    simp at h1 h2
    obtain ⟨n1, n2⟩ := List.nodup_cons.mp hn
    have hne : a ≠ c := fun e => n1 (by rw [← e]; exact List.mem_of_getElem? h1)
    rw [List.set_cons_succ]
    by_cases e : b = c
    · subst e
      simp only [ev_lk, beq_rf, cond_true]
      rw [if_neg (fun z => hne z.symm)]
    · simp only [ev_lk, beq_ne e, cond_false]
      exact lk_set b n2 h1 h2
theorem wd_up {as : List Nat} {os : List e_O} {h : e_H} {q a : Nat} {o : e_O} (hn : as.Nodup) (h1 : as[q]? = some a) (h2 : q < os.length) : ev_up (wd as os h) a o = wd as (os.set q o) h := by
  refine Prod.ext ?_ rfl
  funext b
  rw [ev_up_1]
  show _ = match ev_lk as (os.set q o) b with | some o => some o | none => h.1 b
  rw [lk_set b hn h1 h2]
  by_cases e : b = a
  · rw [if_pos e, if_pos e]
  · rw [if_neg e, if_neg e]; rfl
/-- the same heap, seen as a world -/
theorem wd_self {as : List Nat} {os : List e_O} {h : e_H} (hn : as.Nodup) (hl : as.length = os.length) (hh : ∀ (q a : Nat) (o : e_O), as[q]? = some a → os[q]? = some o → h.1 a = some o) : wd as os h = h := by
  refine Prod.ext ?_ rfl
  funext b
  by_cases hb : b ∈ as
  · obtain ⟨q, hq⟩ := List.getElem?_of_mem hb
    have hlt : q < os.length := by rw [← hl]; exact (List.getElem?_eq_some_iff.mp hq).1
    have ho : os[q]? = some os[q] := List.getElem?_eq_getElem hlt
    rw [wd_at hn hq ho]
    exact (hh q b _ hq ho).symm
  · rw [wd_out hb]
variable {pc nx x1 x2 idx : Nat} {v w : Value} {ts : List Nat} {lo : e_L} {r : List Value} {h : e_H}
theorem EV.get {a : Nat} {fs : List Value} (hf : ev_fnd T.2 pc = some (.getfield idx, nx, x1, x2, v, ts)) (ho : h.1 a = some (.inl (x1, fs))) (hv : fs[x2]? = some w) (k : ev_E tbs bs sa d T E (nx, lo, w :: r, h)) : ev_E tbs bs sa d T E (pc, lo, .ref a :: r, h) := by
  refine EV.st ?_ k
  simp [ev_stp, hf, ev_ins, ev_get, ev_obj, ho, hv, ev_go]
theorem EV.put {a : Nat} {fs : List Value} (hf : ev_fnd T.2 pc = some (.putfield idx, nx, x1, x2, v, ts)) (ho : h.1 a = some (.inl (x1, fs))) (hb : bs ≤ a) (hl : x2 < fs.length) (hk : ev_kd w = ev_kd v) (k : ev_E tbs bs sa d T E (nx, lo, r, ev_up h a (.inl (x1, fs.set x2 w)))) : ev_E tbs bs sa d T E (pc, lo, w :: .ref a :: r, h) := by
  refine EV.st ?_ k
  have h1 : Nat.ble bs a = true := Nat.ble_eq_true_of_le hb
  have h2 : Nat.blt x2 fs.length = true := Nat.ble_eq_true_of_le hl
  simp [ev_stp, hf, ev_ins, ev_put, ev_obj, ho, ev_go, h1, h2, hk]
theorem ev_inN {i : Int32} {j n : Nat} (hi : i = nI j) (hj : j < n) (hn : n < 2 ^ 31) : ev_in i n = true ∧ i.toNatClampNeg = j := by
  subst hi
  have h1 : (nI j).toNatClampNeg = j := nI_clamp (by omega)
  refine ⟨?_, h1⟩
  unfold ev_in
  rw [h1, Bool.and_eq_true]
  exact ⟨decide_eq_true (nI_pos (by omega)), Nat.ble_eq_true_of_le hj⟩
theorem EV.iald {a n j : Nat} {f : Nat → Int32} {i : Int32} (hf : ev_fnd T.2 pc = some (.iaload, nx, x1, x2, v, ts)) (ho : h.1 a = some (.inr (.inl (n, f)))) (hi : i = nI j) (hj : j < n) (hn : n < 2 ^ 31) (k : ev_E tbs bs sa d T E (nx, lo, .int (f j) :: r, h)) : ev_E tbs bs sa d T E (pc, lo, .int i :: .ref a :: r, h) := by
  refine EV.st ?_ k
  obtain ⟨h1, h2⟩ := ev_inN hi hj hn
  simp [ev_stp, hf, ev_ins, ev_iald, ev_ia, ho, ev_go, h1, h2]
theorem EV.iast {a n j : Nat} {f : Nat → Int32} {i x : Int32} (hf : ev_fnd T.2 pc = some (.iastore, nx, x1, x2, v, ts)) (ho : h.1 a = some (.inr (.inl (n, f)))) (hb : bs ≤ a) (hi : i = nI j) (hj : j < n) (hn : n < 2 ^ 31) (k : ev_E tbs bs sa d T E (nx, lo, r, ev_up h a (.inr (.inl (n, upd f j x))))) : ev_E tbs bs sa d T E (pc, lo, .int x :: .int i :: .ref a :: r, h) := by
  refine EV.st ?_ k
  obtain ⟨h1, h2⟩ := ev_inN hi hj hn
  have h3 : Nat.ble bs a = true := Nat.ble_eq_true_of_le hb
  simp [ev_stp, hf, ev_ins, ev_iast, ev_ia, ho, ev_go, h1, h2, h3]
theorem EV.aald {a n j : Nat} {f : Nat → Option Nat} {i : Int32} (hf : ev_fnd T.2 pc = some (.aaload, nx, x1, x2, v, ts)) (ho : h.1 a = some (.inr (.inr (.inr (n, f))))) (hi : i = nI j) (hj : j < n) (hn : n < 2 ^ 31) (k : ev_E tbs bs sa d T E (nx, lo, va_rf (f j) :: r, h)) : ev_E tbs bs sa d T E (pc, lo, .int i :: .ref a :: r, h) := by
  refine EV.st ?_ k
  obtain ⟨h1, h2⟩ := ev_inN hi hj hn
  simp [ev_stp, hf, ev_ins, ev_aald, ev_ra, ho, ev_go, h1, h2]
theorem EV.icm {x y : Int32} {c : ClassFile.Cond} {off : Int} (hf : ev_fnd T.2 pc = some (.if_icmp c off, nx, x1, x2, v, ts)) (kt : ev_cmp c x y = true → ev_E tbs bs sa d T E (x1, lo, r, h)) (kf : ev_cmp c x y = false → ev_E tbs bs sa d T E (nx, lo, r, h)) : ev_E tbs bs sa d T E (pc, lo, .int y :: .int x :: r, h) := by
  cases hc : ev_cmp c x y with
  | true => exact EV.st (by simp [ev_stp, hf, ev_ins, ev_icm, ev_go, hc]) (kt hc)
  | false => exact EV.st (by simp [ev_stp, hf, ev_ins, ev_icm, ev_go, hc]) (kf hc)
theorem EV.ifc {x : Int32} {c : ClassFile.Cond} {off : Int} (hf : ev_fnd T.2 pc = some (.ifCond c off, nx, x1, x2, v, ts)) (kt : ev_cmp c x 0 = true → ev_E tbs bs sa d T E (x1, lo, r, h)) (kf : ev_cmp c x 0 = false → ev_E tbs bs sa d T E (nx, lo, r, h)) : ev_E tbs bs sa d T E (pc, lo, .int x :: r, h) := by
  cases hc : ev_cmp c x 0 with
  | true => exact EV.st (by simp [ev_stp, hf, ev_ins, ev_ifc, ev_go, hc]) (kt hc)
  | false => exact EV.st (by simp [ev_stp, hf, ev_ins, ev_ifc, ev_go, hc]) (kf hc)
end EVQ
