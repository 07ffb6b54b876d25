section EVC
variable {bs : Nat} {sa : Nat → Nat} {d : Nat} {T : e_M} {E : e_C ⊕ (Option Value × e_H) → Prop}
variable {pc nx x1 x2 : Nat} {v : Value} {ts : List Nat} {lo : e_L} {r : List Value} {h : e_H}
theorem EV.ifT {x : Int32} {c : ClassFile.Cond} {off : Int} (hf : ev_fnd T.2 pc = some (.ifCond c off, nx, x1, x2, v, ts)) (hc : ev_cmp c x 0 = true) (k : ev_E tbs bs sa d T E (x1, lo, r, h)) : ev_E tbs bs sa d T E (pc, lo, .int x :: r, h) :=
  EV.ifc hf (fun _ => k) (fun z => absurd (hc.symm.trans z) (by decide))
theorem EV.ifF {x : Int32} {c : ClassFile.Cond} {off : Int} (hf : ev_fnd T.2 pc = some (.ifCond c off, nx, x1, x2, v, ts)) (hc : ev_cmp c x 0 = false) (k : ev_E tbs bs sa d T E (nx, lo, r, h)) : ev_E tbs bs sa d T E (pc, lo, .int x :: r, h) :=
  EV.ifc hf (fun z => absurd (z.symm.trans hc) (by decide)) (fun _ => k)
theorem EV.icT {x y : Int32} {c : ClassFile.Cond} {off : Int} (hf : ev_fnd T.2 pc = some (.if_icmp c off, nx, x1, x2, v, ts)) (hc : ev_cmp c x y = true) (k : ev_E tbs bs sa d T E (x1, lo, r, h)) : ev_E tbs bs sa d T E (pc, lo, .int y :: .int x :: r, h) :=
  EV.icm hf (fun _ => k) (fun z => absurd (hc.symm.trans z) (by decide))
theorem EV.icF {x y : Int32} {c : ClassFile.Cond} {off : Int} (hf : ev_fnd T.2 pc = some (.if_icmp c off, nx, x1, x2, v, ts)) (hc : ev_cmp c x y = false) (k : ev_E tbs bs sa d T E (nx, lo, r, h)) : ev_E tbs bs sa d T E (pc, lo, .int y :: .int x :: r, h) :=
  EV.icm hf (fun z => absurd (z.symm.trans hc) (by decide)) (fun _ => k)
end EVC
theorem mfin {Q : Option Value → List e_O → Prop} {rv : Option Value} {os2 : List e_O} {as : List Nat} {h : e_H} (hq : Q rv os2) (hl : os2.length = as.length) : ∃ v h', (Sum.inr (rv, wd as os2 h) : e_C ⊕ (Option Value × e_H)) = .inr (v, h') ∧ ∃ os2, (Q v os2 ∧ os2.length = as.length) ∧ h' = wd as os2 h := ⟨_, _, rfl, _, ⟨hq, hl⟩, rfl⟩
theorem iso_y {P : Nat} {F : Nat → Nat → Int32} {p t : Int32} (h : ty P F p t) : iso P (F 0) p t = 1 := if_pos h
theorem iso_n {P : Nat} {F : Nat → Nat → Int32} {p t : Int32} (h : ¬ ty P F p t) : iso P (F 0) p t = 0 := if_neg h
theorem ty_j {P : Nat} {F : Nat → Nat → Int32} {p t : Int32} (hP : P ≤ 40) (h : ty P F p t) : ∃ j, j < P ∧ p = nI j ∧ F 0 j = t := by
  obtain ⟨j, hj, rfl⟩ := in_nI (by omega) ⟨h.1, h.2.1⟩
  refine ⟨j, hj, rfl, ?_⟩
  have := h.2.2
  rwa [cn, nI_clamp (by omega)] at this
theorem upd_self {f : Nat → Int32} {p : Nat} {x : Int32} (h : f p = x) : upd f p x = f := by
  funext j
  simp only [upd]
  by_cases e : j = p
  · rw [if_pos e, e, h]
  · rw [if_neg e]
theorem upd_upd (f : Nat → Int32) (p : Nat) (x y : Int32) : upd (upd f p x) p y = upd f p y := by
  funext j
  simp only [upd]
  by_cases e : j = p
  · rw [if_pos e, if_pos e]
  · rw [if_neg e, if_neg e, if_neg e]
theorem cnI {j : Nat} (h : j < 2 ^ 31) : cn (nI j) = j := nI_clamp h
theorem zf32 {w : Nat → Nat → Int32} {p : Nat} (h : ∀ i, i < 32 → w p i = 0) : zf (fl32 w) (32 * p) (32 * p + 32) = fl32 w := by
  funext j
  simp only [zf, fl32]
  by_cases e : 32 * p ≤ j ∧ j < 32 * p + 32
  · rw [if_pos e, show j / 32 = p by omega, h _ (by omega)]
  · rw [if_neg e]
theorem zf8 {w : Nat → Nat → Int32} {p : Nat} (h : ∀ i, i < 8 → w p i = 0) : zf (fl8 w) (8 * p) (8 * p + 8) = fl8 w := by
  funext j
  simp only [zf, fl8]
  by_cases e : 8 * p ≤ j ∧ j < 8 * p + 8
  · rw [if_pos e, show j / 8 = p by omega, h _ (by omega)]
  · rw [if_neg e]
theorem zf32c (w : Nat → Nat → Int32) (p : Nat) : zf (fl32 w) (32 * p) (32 * p + 32) = fl32 (upp w p (zf (w p) 0 32)) := by
  funext j
  simp only [zf, fl32, upp]
  by_cases e : 32 * p ≤ j ∧ j < 32 * p + 32
  · rw [if_pos e, if_pos (show j / 32 = p by omega)]; exact (if_pos ⟨Nat.zero_le _, by omega⟩).symm
  · rw [if_neg e, if_neg (show ¬ j / 32 = p by omega)]
theorem zf8c (w : Nat → Nat → Int32) (p : Nat) : zf (fl8 w) (8 * p) (8 * p + 8) = fl8 (upp w p (zf (w p) 0 8)) := by
  funext j
  simp only [zf, fl8, upp]
  by_cases e : 8 * p ≤ j ∧ j < 8 * p + 8
  · rw [if_pos e, if_pos (show j / 8 = p by omega)]; exact (if_pos ⟨Nat.zero_le _, by omega⟩).symm
  · rw [if_neg e, if_neg (show ¬ j / 8 = p by omega)]
section MPB
variable {bs : Nat} {sa : Nat → Nat}
/-- a FREE page becomes of a TYPE -/
theorem r_becF (d M p : Nat) (t : Int32) (fs : List Value) (h2 : fs[2]? = some (.ref (M + 1))) (h3 : fs[3]? = some (.ref (M + 2))) (h4 : fs[4]? = some (.ref (M + 3))) (h5 : fs[5]? = some (.ref (M + 4))) (h6 : fs[6]? = some (.ref (M + 5))) (h7 : fs[7]? = some (.ref (M + 6))) (h8 : fs[8]? = some (.ref (M + 7))) (h9 : fs[9]? = some (.ref (M + 8))) (hp : p < 40) (F w ms : Nat → Nat → Int32) (g1 : F 1 p = -1) (g2 : F 2 p = 0) (g3 : F 3 p = 0) (g4 : F 4 p = 0) (g5 : F 5 p = 0) (gw : ∀ i, i < 32 → w p i = 0) (gm : ∀ i, i < 8 → ms p i = 0) (h : e_H) (hD : [M, M + 1, M + 2, M + 3, M + 4, M + 5, M + 6, M + 7, M + 8].Nodup) (hb : bs ≤ M) :
    ev_run tbs bs sa (d + 1) 80 [.ref M, .int (nI p), .int t] (wd [M, M + 1, M + 2, M + 3, M + 4, M + 5, M + 6, M + 7, M + 8] [.inl (5, fs), .inr (.inl (40, F 0)), .inr (.inl (40, F 1)), .inr (.inl (40, F 2)), .inr (.inl (40, F 3)), .inr (.inl (40, F 4)), .inr (.inl (40, F 5)), .inr (.inl (1280, fl32 w)), .inr (.inl (320, fl8 ms))] h) none
      (wd [M, M + 1, M + 2, M + 3, M + 4, M + 5, M + 6, M + 7, M + 8] [.inl (5, fs), .inr (.inl (40, upd (F 0) p t)), .inr (.inl (40, F 1)), .inr (.inl (40, F 2)), .inr (.inl (40, F 3)), .inr (.inl (40, F 4)), .inr (.inl (40, F 5)), .inr (.inl (1280, fl32 w)), .inr (.inl (320, fl8 ms))] h) := by
  have q := r_becomes (bs := bs) (sa := sa) d M p t fs h2 h3 h4 h5 h6 h7 h8 h9 hp (F 0) (F 1) (F 2) (F 3) (F 4) (F 5) (fl32 w) (fl8 ms) h hD hb
  rw [upd_self g1, upd_self g2, upd_self g3, upd_self g4, upd_self g5, zf32 gw, zf8 gm] at q
  exact q
/-- what is known of a FREE page -/
theorem Iv.free {P : Nat} {F w ms : Nat → Nat → Int32} {z} (hI : Iv P (F, w, ms, z)) {p : Nat} (hp : p < P) (h : F 0 p = 0) : F 1 p = -1 ∧ F 2 p = 0 ∧ F 3 p = 0 ∧ F 4 p = 0 ∧ F 5 p = 0 ∧ (∀ i, i < 32 → w p i = 0) ∧ (∀ i, i < 8 → ms p i = 0) := by
  obtain ⟨h1, -, -, h4, h5, h6⟩ := hI p hp
  obtain ⟨a, b, c, e⟩ := h1 h
  have n1 : F 0 p ≠ 1 := by rw [h]; decide
  have n2 : F 0 p ≠ 2 := by rw [h]; decide
  have n3 : F 0 p ≠ 3 := by rw [h]; decide
  exact ⟨h4 n2 n3, a, h5 n3, h6 n1, b, c, e⟩
set_option maxHeartbeats 1000000 in
set_option maxRecDepth 100000 in
theorem m_create (d M P : Nat) (hP : P ≤ 40) (key mark I K : Nat → Int32) (hbs : bs ≤ M) (hD : (mas M sa).Nodup) (s : zS) (hI : Iv P s) (o : List e_O) (ho : mS M P key mark I K s o) (p : Int32) :
    CT bs sa (d + 2) 83 [.ref M, .int p] (mas M sa) o (fun rv o' => rv = some (.int (q_create P p s).1) ∧ mS M P key mark I K (q_create P p s).2 o') := by
  obtain ⟨F, w, ms, B, lg, ⟨c0, c1, c2, c3⟩, ⟨en, gv, ft, mk⟩⟩ := s
  obtain ⟨th, pc, A, H, G, T, S, St, r, rfl⟩ := ho
  refine CT.mk (T := t_X5_create) rfl (Nat.le_of_ble_eq_true rfl) (fun h => ?_)
  repeat refine EV.s rfl rfl rfl ?_
  refine EW.putY 0 (mo M P 0 c0 c1 c2 c3 lg pc mk en gv ft F w ms B key mark A H G T S St r I K) hD rfl rfl rfl hbs (Nat.le_of_ble_eq_true rfl) rfl rfl ?_
  repeat refine EV.s rfl rfl rfl ?_
  refine EW.cvY 0 [0, 1] (mo M P 0 c0 c1 c2 c3 lg pc mk en gv ft F w ms B key mark A H G T S St r I K) hD (fun h0 => r_misOf d M P hP _ rfl rfl p 0 (F 0) h0 (nd_sub hD [0, 1] (by decide) rfl)) rfl rfl rfl rfl rfl (Nat.le_of_ble_eq_true rfl) (Nat.le_of_ble_eq_true rfl) rfl rfl rfl rfl rfl ?_
  by_cases hp : ty P F p 0
  · rw [iso_y hp]
    refine EV.ifT rfl (by decide) ?_
    have hq : q_create P p (F, w, ms, B, lg, (c0, c1, c2, c3), (en, gv, ft, mk)) = _ := if_pos hp
    rw [hq]
    obtain ⟨j, hj, rfl, ht⟩ := ty_j hP hp
    obtain ⟨g1, g2, g3, g4, g5, gw, gm⟩ := hI.free hj ht
    rw [cnI (by omega)]
    repeat refine EV.s rfl rfl rfl ?_
    refine EW.cvY 0 [0, 1, 2, 3, 4, 5, 6, 7, 8] (mo M P 0 c0 c1 c2 c3 lg pc mk en gv ft (uF F 0 j 1) w ms B key mark A H G T S St r I K) hD (fun h0 => r_becF d M j 1 _ rfl rfl rfl rfl rfl rfl rfl rfl (by omega) F w ms g1 g2 g3 g4 g5 gw gm h0 (nd_sub hD [0, 1, 2, 3, 4, 5, 6, 7, 8] (by decide) rfl) hbs) rfl rfl rfl rfl rfl (Nat.le_of_ble_eq_true rfl) (Nat.le_of_ble_eq_true rfl) rfl rfl rfl rfl rfl ?_
    repeat (first | refine EV.s rfl rfl rfl ?_ | refine EW.get 0 hD rfl rfl rfl rfl ?_)
    refine EW.putY 0 (mo M P 0 (c0 + 1) c1 c2 c3 lg pc mk en gv ft (uF F 0 j 1) w ms B key mark A H G T S St r I K) hD rfl rfl rfl hbs (Nat.le_of_ble_eq_true rfl) rfl rfl ?_
    repeat (first | refine EV.s rfl rfl rfl ?_ | refine EW.get 0 hD rfl rfl rfl rfl ?_)
    refine EW.iastY 5 (j) (mo M P 0 (c0 + 1) c1 c2 c3 lg pc mk en gv ft (uF (uF F 0 j 1) 4 j (c0 + 1)) w ms B key mark A H G T S St r I K) hD rfl rfl rfl (by omega) (rfl) (by omega) (by decide) (rfl) ?_
    repeat refine EV.s rfl rfl rfl ?_
    refine EV.ri rfl rfl ?_
    refine mfin ⟨rfl, ?_⟩ rfl
    refine ⟨0, pc, A, H, G, T, S, St, r, ?_⟩
    have e5 : uF (uF (uF F 0 j 1) 5 j 0) 4 j (c0 + 1) = uF (uF F 0 j 1) 4 j (c0 + 1) := by
      have : uF (uF F 0 j 1) 5 j 0 = uF F 0 j 1 := by
        funext k
        simp only [uF, upp]
        by_cases e : k = 5
        · subst e; rw [if_pos rfl]; simp only [if_neg (show ¬ (5 : Nat) = 0 by decide)]; exact upd_self g5
        · rw [if_neg e]
      rw [this]
    rw [e5]
  · rw [iso_n hp]
    refine EV.ifF rfl (by decide) ?_
    repeat refine EV.s rfl rfl rfl ?_
    refine EV.ri rfl rfl ?_
    have hq : q_create P p (F, w, ms, B, lg, (c0, c1, c2, c3), (en, gv, ft, mk)) = _ := if_neg hp
    rw [hq]
    exact mfin ⟨rfl, 0, pc, A, H, G, T, S, St, r, rfl⟩ rfl
end MPB
