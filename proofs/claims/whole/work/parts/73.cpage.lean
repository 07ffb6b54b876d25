theorem pfs_uF (B : Nat) (F : Nat → Nat → Int32) (k : Nat) (x : Int32) : ∀ {i : Nat}, i < 6 → (pfs B F k).set (i + 2) (.int x) = pfs B (uF F i k x) k
  | 0, _ => by simp [pfs, uF, upp, upd]
  | 1, _ => by simp [pfs, uF, upp, upd]
  | 2, _ => by simp [pfs, uF, upp, upd]
  | 3, _ => by simp [pfs, uF, upp, upd]
  | 4, _ => by simp [pfs, uF, upp, upd]
  | 5, _ => by simp [pfs, uF, upp, upd]
  | n + 6, h => by omega
def cOK (bs B P z : Nat) (sa : Nat → Nat) : Prop := (cas B z sa).Nodup ∧ (∀ a, B + 10 ≤ a → a < B + 10 + 3 * P → a ∉ cas B z sa) ∧ bs ≤ B ∧ bs ≤ z
section CPG
variable {bs : Nat} {sa : Nat → Nat} {d : Nat} {T : e_M} {E : e_C ⊕ (Option Value × e_H) → Prop}
variable {pc nx x1 x2 idx : Nat} {v : Value} {ts : List Nat} {lo : e_L} {r : List Value} {h : e_H} {as : List Nat} {os : List e_O} {B P k : Nat} {F w ms : Nat → Nat → Int32}
theorem EP.get {vv : Value} (hn : B + 10 + 3 * k ∉ as) (hk : k < P) (hf : ev_fnd T.2 pc = some (.getfield idx, nx, 1, x2, v, ts)) (hv : (pfs B F k)[x2]? = some vv) (kk : ev_E tbs bs sa d T E (nx, lo, vv :: r, wd as os (pgH B P F w ms h))) : ev_E tbs bs sa d T E (pc, lo, .ref (B + 10 + 3 * k) :: r, wd as os (pgH B P F w ms h)) :=
  EV.get hf ((wd_out hn).trans (pg_0 hk)) hv kk
theorem EP.put {x : Int32} (i : Nat) (hn : B + 10 + 3 * k ∉ as) (hk : k < P) (hb : bs ≤ B) (hf : ev_fnd T.2 pc = some (.putfield idx, nx, 1, i + 2, v, ts)) (hi : i < 6) (hv : ev_kd v = 0) (kk : ev_E tbs bs sa d T E (nx, lo, r, wd as os (pgH B P (uF F i k x) w ms h))) : ev_E tbs bs sa d T E (pc, lo, .int x :: .ref (B + 10 + 3 * k) :: r, wd as os (pgH B P F w ms h)) := by
  refine EV.put hf ((wd_out hn).trans (pg_0 hk)) (by omega) (by show i + 2 < 8; omega) (by rw [hv]; rfl) ?_
  rw [wd_upo hn, pfs_uF B F k x hi, pg_u0 hk uF_ne rfl]
  exact kk
theorem EP.ld {x : Int32} (j : Nat) (hn : B + 11 + 3 * k ∉ as) (hk : k < P) (hf : ev_fnd T.2 pc = some (.iaload, nx, x1, x2, v, ts)) (hi : x = nI j) (hj : j < 32) (kk : ev_E tbs bs sa d T E (nx, lo, .int (w k j) :: r, wd as os (pgH B P F w ms h))) : ev_E tbs bs sa d T E (pc, lo, .int x :: .ref (B + 11 + 3 * k) :: r, wd as os (pgH B P F w ms h)) :=
  EV.iald hf ((wd_out hn).trans (pg_1 hk)) hi hj (by decide) kk
theorem EP.ldm {x : Int32} (j : Nat) (hn : B + 12 + 3 * k ∉ as) (hk : k < P) (hf : ev_fnd T.2 pc = some (.iaload, nx, x1, x2, v, ts)) (hi : x = nI j) (hj : j < 8) (kk : ev_E tbs bs sa d T E (nx, lo, .int (ms k j) :: r, wd as os (pgH B P F w ms h))) : ev_E tbs bs sa d T E (pc, lo, .int x :: .ref (B + 12 + 3 * k) :: r, wd as os (pgH B P F w ms h)) :=
  EV.iald hf ((wd_out hn).trans (pg_2 hk)) hi hj (by decide) kk
theorem EP.st {x y : Int32} (j : Nat) (hn : B + 11 + 3 * k ∉ as) (hk : k < P) (hb : bs ≤ B) (hf : ev_fnd T.2 pc = some (.iastore, nx, x1, x2, v, ts)) (hi : x = nI j) (hj : j < 32) (kk : ev_E tbs bs sa d T E (nx, lo, r, wd as os (pgH B P F (upp w k (upd (w k) j y)) ms h))) : ev_E tbs bs sa d T E (pc, lo, .int y :: .int x :: .ref (B + 11 + 3 * k) :: r, wd as os (pgH B P F w ms h)) := by
  refine EV.iast hf ((wd_out hn).trans (pg_1 hk)) (by omega) hi hj (by decide) ?_
  rw [wd_upo hn, pg_u1 hk]
  exact kk
theorem c_clear (n0 : B + 10 + 3 * k ∉ as) (n1 : B + 11 + 3 * k ∉ as) (n2 : B + 12 + 3 * k ∉ as) (hk : k < P) (hb : bs ≤ B) : ev_run tbs bs sa (d + 1) 11 [.ref (B + 10 + 3 * k)] (wd as os (pgH B P F w ms h)) none (wd as os (pgH B P (clF F k) (upp w k (zf (w k) 0 32)) (upp ms k (zf (ms k) 0 8)) h)) := by
  have hnd : [B + 10 + 3 * k, B + 11 + 3 * k, B + 12 + 3 * k].Nodup := by simp
  refine RUN.to (as1 := [B + 10 + 3 * k, B + 11 + 3 * k, B + 12 + 3 * k]) (os1 := [.inl (1, pfs B F k), .inr (.inl (32, w k)), .inr (.inl (8, ms k))]) (os2 := [.inl (1, pfs B (clF F k) k), .inr (.inl (32, zf (w k) 0 32)), .inr (.inl (8, zf (ms k) 0 8))]) (fun h0 => ?_) hnd ?_ ?_
  · have e : pfs B (clF F k) k = [.ref (B + 11 + 3 * k), .ref (B + 12 + 3 * k), .int 0, .int (-1), .int 0, .int 0, .int 0, .int 0] := by simp [pfs, clF, uF, upp, upd]
    rw [e]
    exact r_clear d _ _ _ _ _ _ _ _ _ _ _ h0 hnd (by omega) (by omega) (by omega)
  · simp [wd_out n0, wd_out n1, wd_out n2, pg_0 hk, pg_1 hk, pg_2 hk]
  · rw [wd_cons, wd_cons, wd_cons, wd_nil, wd_upo n2, pg_u2 hk, wd_upo n1, pg_u1 hk, wd_upo n0, pg_u0 (F' := clF F k) hk ?_ rfl]
    intro i q hq
    unfold clF
    rw [uF_ne _ _ hq, uF_ne _ _ hq, uF_ne _ _ hq, uF_ne _ _ hq, uF_ne _ _ hq, uF_ne _ _ hq]
theorem c_own (n0 : B + 10 + 3 * k ∉ as) (hk : k < P) (hb : bs ≤ B) (t e : Int32) : ev_run tbs bs sa (d + 1) 10 [.ref (B + 10 + 3 * k), .int t, .int e] (wd as os (pgH B P F w ms h)) none (wd as os (pgH B P (uF (uF F 0 k t) 1 k e) w ms h)) := by
  refine RUN.to (as1 := [B + 10 + 3 * k]) (os1 := [.inl (1, pfs B F k)]) (os2 := [.inl (1, pfs B (uF (uF F 0 k t) 1 k e) k)]) (fun h0 => ?_) (by simp) ?_ ?_
  · have ep : pfs B (uF (uF F 0 k t) 1 k e) k = [.ref (B + 11 + 3 * k), .ref (B + 12 + 3 * k), .int t, .int e, .int (F 2 k), .int (F 3 k), .int (F 4 k), .int (F 5 k)] := by simp [pfs, uF, upp, upd]
    rw [ep]
    exact r_own d _ _ _ _ _ _ _ _ _ _ _ h0 (by simp) (by omega)
  · simp [wd_out n0, pg_0 hk]
  · rw [wd_cons, wd_nil, wd_upo n0, pg_u0 (F' := uF (uF F 0 k t) 1 k e) hk ?_ rfl]
    intro i q hq
    rw [uF_ne _ _ hq, uF_ne _ _ hq]
theorem c_setNumber (n0 : B + 10 + 3 * k ∉ as) (n1 : B + 11 + 3 * k ∉ as) (hk : k < P) (hb : bs ≤ B) (j : Nat) (hj : j < 16) (x : Int64) : ev_run tbs bs sa (d + 2) 15 [.ref (B + 10 + 3 * k), .int (nI j), .long x] (wd as os (pgH B P F w ms h)) none (wd as os (pgH B P F (svW w k j x) ms h)) := by
  refine RUN.to (as1 := [B + 10 + 3 * k, B + 11 + 3 * k]) (os1 := [.inl (1, pfs B F k), .inr (.inl (32, w k))]) (os2 := [.inl (1, pfs B F k), .inr (.inl (32, upd (upd (w k) (2 * j) (up64 x)) (2 * j + 1) x.toInt32))]) (fun h0 => r_setNumber d _ _ j x _ _ _ h0 (nd2 (by omega)) (by omega) hj) (nd2 (by omega)) ?_ ?_
  · simp [wd_out n0, wd_out n1, pg_0 hk, pg_1 hk]
  · rw [wd_cons, wd_cons, wd_nil, wd_upo n1, pg_u1 hk, wd_upo n0, pg_u0 (F' := F) hk (fun _ _ _ => rfl) rfl]; rfl
end CPG
/-- the class's state: junk hidden -/
def cS (B P z : Nat) (sa : Nat → Nat) (key mark I K : Nat → Int32) (s : zS) (h H : e_H) : Prop := match s with
  | (F, w, ms, Bf, lg, (c0, c1, c2, c3), (en, gv, ft, m)) => ∃ o0 o1 o2 o3 D L hm hs hh sp L2 gm gs gh X S Bk, H = wd (cas B z sa) (cos B P z c0 c1 c2 c3 lg o0 o1 o2 o3 Bf D L hm hs hh sp L2 gm gs gh key mark X S Bk I K) (pgH B P F w ms h) ∧ if en = -1 then o0 = -1 ∧ o1 = -1 ∧ o2 = -1 ∧ o3 = -1 else o0 = en ∧ o1 = gv ∧ o2 = ft ∧ o3 = m
theorem cR_of {bs B P z : Nat} {sa : Nat → Nat} (hO : cOK bs B P z sa) {F w ms : Nat → Nat → Int32} {h : e_H} {c0 c1 c2 c3 : Int32} {lg : Int64} {o0 o1 o2 o3 : Int32} {Bf D : Nat → Int32} {L : Int32} {hm hs hh : Nat → Int32} {sp : Nat → Option Nat} {L2 : Int32} {gm gs gh key mark X S Bk I K : Nat → Int32} : cR B P F (wd (cas B z sa) (cos B P z c0 c1 c2 c3 lg o0 o1 o2 o3 Bf D L hm hs hh sp L2 gm gs gh key mark X S Bk I K) (pgH B P F w ms h)) :=
  ⟨⟨_, wd_at (q := 0) hO.1 rfl rfl⟩, wd_at (q := 9) hO.1 rfl rfl, fun k hk => (wd_out (hO.2.1 _ (by omega) (by omega))).trans (pg_0 hk)⟩
theorem cW_of {bs B P z : Nat} {sa : Nat → Nat} (hO : cOK bs B P z sa) {F w ms : Nat → Nat → Int32} {h : e_H} {os : List e_O} : cW B P w (wd (cas B z sa) os (pgH B P F w ms h)) :=
  fun k hk => (wd_out (hO.2.1 _ (by omega) (by omega))).trans (pg_1 hk)
