section EVY
variable {bs : Nat} {sa : Nat → Nat} {d : Nat} {T : e_M} {E : e_C ⊕ (Option Value × e_H) → Prop}
variable {pc nx x1 x2 idx : Nat} {v w : Value} {ts : List Nat} {lo : e_L} {r : List Value} {h : e_H} {as : List Nat} {os : List e_O}
theorem EW.putY {a : Nat} {fs : List Value} (q : Nat) (os' : List e_O) (hD : as.Nodup) (hf : ev_fnd T.2 pc = some (.putfield idx, nx, x1, x2, v, ts)) (h1 : as[q]? = some a) (h2 : os[q]? = some (.inl (x1, fs))) (hb : bs ≤ a) (hl : x2 < fs.length) (hk : ev_kd w = ev_kd v) (he : os.set q (.inl (x1, fs.set x2 w)) = os') (k : ev_E tbs bs sa d T E (nx, lo, r, wd as os' h)) : ev_E tbs bs sa d T E (pc, lo, w :: .ref a :: r, wd as os h) := by
  subst he
  exact EW.put q hD hf h1 h2 hb hl hk k
theorem EW.iastY {a n : Nat} {f : Nat → Int32} {i x : Int32} (q j : Nat) (os' : List e_O) (hD : as.Nodup) (hf : ev_fnd T.2 pc = some (.iastore, nx, x1, x2, v, ts)) (h1 : as[q]? = some a) (h2 : os[q]? = some (.inr (.inl (n, f)))) (hb : bs ≤ a) (hi : i = nI j) (hj : j < n) (hn : n < 2 ^ 31) (he : os.set q (.inr (.inl (n, upd f j x))) = os') (k : ev_E tbs bs sa d T E (nx, lo, r, wd as os' h)) : ev_E tbs bs sa d T E (pc, lo, .int x :: .int i :: .ref a :: r, wd as os h) := by
  subst he
  exact EW.iast q j hD hf h1 h2 hb hi hj hn k
theorem EW.cvY {ci b : Nat} {fs : List Value} {sk avs : List Value} {rv : Option Value} {as1 : List Nat} {os1 os2 : List e_O} (q : Nat) (ps : List Nat) (os' : List e_O) (hD : as.Nodup) (hr : ∀ h0, ev_run tbs bs sa d x1 avs (wd as1 os1 h0) rv (wd as1 os2 h0)) (hf : ev_fnd T.2 pc = some (.invokevirtual idx, nx, x1, x2, v, [ci])) (hl : as.length = os.length) (hdr : sk.drop x2 = .ref b :: r) (hq : as[q]? = some b) (ho : os[q]? = some (.inl (ci, fs))) (hlen : x2 ≤ sk.length) (hsum : ev_sum r ≤ 8) (ha : avs = .ref b :: (sk.take x2).reverse) (h1 : ps.map (fun p => as[p]?) = as1.map some) (h2 : ps.map (fun p => os[p]?) = os1.map some) (h3 : os2.length = ps.length) (he : setm os ps os2 = os')
    (k : ev_E tbs bs sa d T E (nx, lo, rv.toList ++ r, wd as os' h)) : ev_E tbs bs sa d T E (pc, lo, sk, wd as os h) := by
  subst he
  exact EW.cv q ps hD hl hr hf hdr hq ho hlen hsum ha h1 h2 h3 k
end EVY
def opc (x : Int32) : Nat := x.toBitVec.toNat / 2 ^ 24
def ra (x : Int32) : Nat := x.toBitVec.toNat / 2 ^ 16 % 2 ^ 3
def rb (x : Int32) : Nat := x.toBitVec.toNat / 2 ^ 8 % 2 ^ 3
def rc (x : Int32) : Nat := x.toBitVec.toNat % 2 ^ 3
def shu (x y : Int32) : Int32 := (x.toUInt32 >>> (y.toUInt32 &&& Int32.toUInt32 31)).toInt32
theorem opc_lt (x : Int32) : opc x < 256 := by unfold opc; have := x.toBitVec.isLt; omega
theorem ra_lt (x : Int32) : ra x < 8 := Nat.mod_lt _ (by decide)
theorem rb_lt (x : Int32) : rb x < 8 := Nat.mod_lt _ (by decide)
theorem rc_lt (x : Int32) : rc x < 8 := Nat.mod_lt _ (by decide)
theorem rc_eq (x : Int32) : x &&& 7 = nI (rc x) := pk_and x 3 (by decide)
theorem shu_nat (x : Int32) (y : Int32) (k : Nat) (hk : (y.toUInt32 &&& Int32.toUInt32 31).toNat = k) (h32 : k < 32) : (shu x y).toBitVec.toNat = x.toBitVec.toNat / 2 ^ k := by
  unfold shu
  have : ((x.toUInt32 >>> (y.toUInt32 &&& Int32.toUInt32 31)).toInt32).toBitVec.toNat = (x.toUInt32 >>> (y.toUInt32 &&& Int32.toUInt32 31)).toNat := rfl
  rw [this, UInt32.toNat_shiftRight, hk, Nat.mod_eq_of_lt h32, Nat.shiftRight_eq_div_pow]
  rfl
theorem nI_bits (x : Int32) : x = nI x.toBitVec.toNat := by
  apply Int32.toBitVec_inj.mp
  apply BitVec.eq_of_toNat_eq
  simp [nI]
theorem opc_eq (x : Int32) : shu x 24 = nI (opc x) := by
  rw [nI_bits (shu x 24), shu_nat x 24 24 (by decide) (by decide)]; rfl
theorem ra_u (x : Int32) : shu x 16 &&& 7 = nI (ra x) := by
  rw [pk_and _ 3 (by decide), shu_nat x 16 16 (by decide) (by decide)]; rfl
theorem rb_u (x : Int32) : shu x 8 &&& 7 = nI (rb x) := by
  rw [pk_and _ 3 (by decide), shu_nat x 8 8 (by decide) (by decide)]; rfl
theorem ra_a (x : Int32) : (x >>> ((16 : Int32) &&& 31)) &&& 7 = nI (ra x) := by
  rw [pk_and _ 3 (by decide)]
  have h := pk_shr x ((16 : Int32) &&& 31) 16 (by decide)
  have h1 : (x >>> ((16 : Int32) &&& 31)).toInt = (x >>> ((16 : Int32) &&& 31)).toBitVec.toInt := rfl
  have h2 : x.toInt = x.toBitVec.toInt := rfl
  rw [h1, h2, BitVec.toInt_eq_toNat_cond, BitVec.toInt_eq_toNat_cond, Int.shiftRight_eq_div_pow] at h
  have l1 := (x >>> ((16 : Int32) &&& 31)).toBitVec.isLt
  have l2 := x.toBitVec.isLt
  unfold ra
  congr 1
  generalize (x >>> ((16 : Int32) &&& 31)).toBitVec.toNat = A at h l1 ⊢
  generalize x.toBitVec.toNat = C at h l2 ⊢
  split at h <;> split at h <;> omega
theorem rb_a (x : Int32) : (x >>> ((8 : Int32) &&& 31)) &&& 7 = nI (rb x) := by
  rw [pk_and _ 3 (by decide)]
  have h := pk_shr x ((8 : Int32) &&& 31) 8 (by decide)
  have h1 : (x >>> ((8 : Int32) &&& 31)).toInt = (x >>> ((8 : Int32) &&& 31)).toBitVec.toInt := rfl
  have h2 : x.toInt = x.toBitVec.toInt := rfl
  rw [h1, h2, BitVec.toInt_eq_toNat_cond, BitVec.toInt_eq_toNat_cond, Int.shiftRight_eq_div_pow] at h
  have l1 := (x >>> ((8 : Int32) &&& 31)).toBitVec.isLt
  have l2 := x.toBitVec.isLt
  unfold rb
  congr 1
  generalize (x >>> ((8 : Int32) &&& 31)).toBitVec.toNat = A at h l1 ⊢
  generalize x.toBitVec.toNat = C at h l2 ⊢
  split at h <;> split at h <;> omega
theorem low31 (x : Int32) : x &&& 255 &&& 31 = x &&& 31 := by
  rw [Int32.and_assoc]; rfl
/-- what the word x does: how it goes on (-1), or ends; words, registers, pc, what it gave, where it faulted -/
def stx (P : Nat) (F ms : Nat → Nat → Int32) (e : Nat) (w : Nat → Nat → Int32) (r : Nat → Int32) (pc gv ft x : Int32) : Int32 × (Nat → Nat → Int32) × (Nat → Int32) × Int32 × Int32 × Int32 := match opc x with
  | 0 => (0, w, r, pc, r (ra x), ft)
  | 1 => (-1, w, upd r (ra x) x.toInt16.toInt32, pc + 1, gv, ft)
  | 2 => (-1, w, upd r (ra x) (r (rb x) + r (rc x)), pc + 1, gv, ft)
  | 3 => (-1, w, upd r (ra x) (r (rb x) ^^^ r (rc x)), pc + 1, gv, ft)
  | 4 => (-1, w, upd r (ra x) (r (rb x) * r (rc x)), pc + 1, gv, ft)
  | 5 => match rcp P F (nI e) (r (rb x) + (x &&& 255)) 1 with
    | none => (1, w, r, pc, gv, rft (r (rb x) + (x &&& 255)))
    | some q => (-1, w, upd r (ra x) (w q ((r (rb x) + (x &&& 255)).toNatClampNeg % 32)), pc + 1, gv, ft)
  | 6 => match rcp P F (nI e) (r (rb x) + (x &&& 255)) 2 with
    | none => (1, w, r, pc, gv, rft (r (rb x) + (x &&& 255)))
    | some q => (-1, upp w q (upd (w q) ((r (rb x) + (x &&& 255)).toNatClampNeg % 32) (r (ra x))), r, pc + 1, gv, ft)
  | 7 => (-1, w, r, if r (ra x) = 0 then pc + 1 else pc + x.toInt16.toInt32, gv, ft)
  | 8 => (-1, w, upd r (ra x) (shu (r (rb x)) (x &&& 31)), pc + 1, gv, ft)
  | 9 => (-1, w, upd r (ra x) (ms e (rc x)), pc + 1, gv, ft)
  | _ => (3, w, r, pc, gv, ft)
def stp (P : Nat) (F ms : Nat → Nat → Int32) (e : Nat) (w : Nat → Nat → Int32) (r : Nat → Int32) (pc gv ft : Int32) : Int32 × (Nat → Nat → Int32) × (Nat → Int32) × Int32 × Int32 × Int32 := match rcp P F (nI e) pc 4 with
  | none => (1, w, r, pc, gv, rft pc)
  | some q => stx P F ms e w r pc gv ft (w q (pc.toNatClampNeg % 32))
/-- the run's world in the model -/
def mra (M : Nat) : List Nat := [M, M + 1, M + 2, M + 3, M + 4, M + 7, M + 8, M + 18]
def mro (M P : Nat) (th c0 c1 c2 c3 : Int32) (lg : Int64) (pc mk en gv ft : Int32) (F w ms : Nat → Nat → Int32) (r : Nat → Int32) : List e_O := [.inl (5, (mf M P th c0 c1 c2 c3 lg pc mk en gv ft)), .inr (.inl (40, F 0)), .inr (.inl (40, F 1)), .inr (.inl (40, F 2)), .inr (.inl (40, F 3)), .inr (.inl (1280, fl32 w)), .inr (.inl (320, fl8 ms)), .inr (.inl (8, r))]
section MST
variable {bs : Nat} {sa : Nat → Nat}
set_option maxHeartbeats 4000000 in
set_option maxRecDepth 100000 in
theorem r_mst_c (d M P : Nat) (th c0 c1 c2 c3 : Int32) (lg : Int64) (pc mk gv ft : Int32) (F w ms : Nat → Nat → Int32) (r : Nat → Int32) (e : Nat) (h : e_H) (hD : (mra M).Nodup) (hbs : bs ≤ M) (l2 x l9 : Int32) (l10 : Option Value) (E : e_C ⊕ (Option Value × e_H) → Prop)
    (hE : E (.inr (none, wd (mra M) (mro M P th c0 c1 c2 c3 lg l9 (mk + 1) (-1) gv ft F w ms r) h))) :
    ev_E tbs bs sa d t_X5_step E (394, [some (.ref M), some (.int (nI e)), some (.int l2), some (.int x), some (.int (nI (ra x))), some (.int (nI (rb x))), some (.int (nI (rc x))), some (.int (x &&& 255)), some (.int x.toInt16.toInt32), some (.int l9), l10], [.ref M, .ref M], wd (mra M) (mro M P th c0 c1 c2 c3 lg pc mk (-1) gv ft F w ms r) h) := by
  repeat (first | refine EV.s rfl rfl rfl ?_ | refine EW.get 0 hD rfl rfl rfl rfl ?_)
  refine EW.putY 0 (mro M P th c0 c1 c2 c3 lg pc (mk + 1) (-1) gv ft F w ms r) hD rfl rfl rfl hbs (Nat.le_of_ble_eq_true rfl) rfl rfl ?_
  repeat (first | refine EV.s rfl rfl rfl ?_ | refine EW.get 0 hD rfl rfl rfl rfl ?_)
  refine EV.ifc rfl (fun hb => ?_) (fun hb => ?_)
  · exact absurd hb (by decide)
  · repeat refine EV.s rfl rfl rfl ?_
    refine EW.putY 0 (mro M P th c0 c1 c2 c3 lg l9 (mk + 1) (-1) gv ft F w ms r) hD rfl rfl rfl hbs (Nat.le_of_ble_eq_true rfl) rfl rfl ?_
    refine EV.ret rfl ?_
    exact hE
set_option maxHeartbeats 4000000 in
set_option maxRecDepth 100000 in
theorem r_mst_x (d M P : Nat) (th c0 c1 c2 c3 : Int32) (lg : Int64) (pc mk gv ft : Int32) (hP : P ≤ 40) (F w ms : Nat → Nat → Int32) (r : Nat → Int32) (e : Nat) (he : e < 40) (h : e_H) (hD : (mra M).Nodup) (hbs : bs ≤ M) (x l2 : Int32) (hw : Int32) (w' : Nat → Nat → Int32) (r' : Nat → Int32) (pc' gv' ft' : Int32) (hs : stx P F ms e w r pc gv ft x = (hw, w', r', pc', gv', ft')) (o : Int32) (ho : o = nI (opc x)) (E : e_C ⊕ (Option Value × e_H) → Prop) (hE : E (.inr (none, wd (mra M) (mro M P th c0 c1 c2 c3 lg pc' (if hw = -1 ∨ hw = 0 then mk + 1 else mk) hw gv' ft' F w' ms r') h))) :
    ev_E tbs bs sa (d + 2) t_X5_step E (71, [some (.ref M), some (.int (nI e)), some (.int l2), some (.int x), some (.int (nI (ra x))), some (.int (nI (rb x))), some (.int (nI (rc x))), some (.int (x &&& 255)), some (.int x.toInt16.toInt32), some (.int (pc + 1)), none], [.int o], wd (mra M) (mro M P th c0 c1 c2 c3 lg pc mk (-1) gv ft F w ms r) h) := by
  have hra := ra_lt x
  have hrb := rb_lt x
  have hrc := rc_lt x
  rw [stx] at hs
  have hk : opc x = 0 ∨ opc x = 1 ∨ opc x = 2 ∨ opc x = 3 ∨ opc x = 4 ∨ opc x = 5 ∨ opc x = 6 ∨ opc x = 7 ∨ opc x = 8 ∨ opc x = 9 ∨ ∃ n, opc x = n + 10 := by
    by_cases c : opc x < 10
    · omega
    · exact Or.inr (Or.inr (Or.inr (Or.inr (Or.inr (Or.inr (Or.inr (Or.inr (Or.inr (Or.inr ⟨opc x - 10, by omega⟩)))))))))
  rcases hk with k | k | k | k | k | k | k | k | k | k | ⟨n, k⟩
  · rw [k] at hs ho
    cases hs
    refine EV.tsw 0 ⟨_, rfl, fun _ _ _ => rfl⟩ ho (by decide) ?_
    repeat refine EV.s rfl rfl rfl ?_
    refine EW.putY 0 (mro M P th c0 c1 c2 c3 lg pc mk 0 gv ft F w ms r) hD rfl rfl rfl hbs (Nat.le_of_ble_eq_true rfl) rfl rfl ?_
    repeat (first | refine EV.s rfl rfl rfl ?_ | refine EW.get 0 hD rfl rfl rfl rfl ?_)
    refine EW.iald 7 (ra x) hD rfl rfl rfl rfl hra (by decide) ?_
    refine EW.putY 0 (mro M P th c0 c1 c2 c3 lg pc mk 0 (r (ra x)) ft F w ms r) hD rfl rfl rfl hbs (Nat.le_of_ble_eq_true rfl) rfl rfl ?_
    repeat (first | refine EV.s rfl rfl rfl ?_ | refine EW.get 0 hD rfl rfl rfl rfl ?_)
    refine EW.putY 0 (mro M P th c0 c1 c2 c3 lg pc (mk + 1) 0 (r (ra x)) ft F w ms r) hD rfl rfl rfl hbs (Nat.le_of_ble_eq_true rfl) rfl rfl ?_
    repeat (first | refine EV.s rfl rfl rfl ?_ | refine EW.get 0 hD rfl rfl rfl rfl ?_)
    refine EV.ifc rfl (fun hb => ?_) (fun hb => ?_)
    · refine EV.ret rfl ?_
      exact hE
    · exact absurd hb (by decide)
  · rw [k] at hs ho
    cases hs
    refine EV.tsw 1 ⟨_, rfl, fun _ _ _ => rfl⟩ ho (by decide) ?_
    repeat (first | refine EV.s rfl rfl rfl ?_ | refine EW.get 0 hD rfl rfl rfl rfl ?_)
    refine EW.iastY 7 (ra x) (mro M P th c0 c1 c2 c3 lg pc mk (-1) gv ft F w ms (upd r (ra x) x.toInt16.toInt32)) hD rfl rfl rfl (by omega) rfl hra (by decide) rfl ?_
    repeat refine EV.s rfl rfl rfl ?_
    exact r_mst_c (d + 2) M P th c0 c1 c2 c3 lg pc mk gv ft F w ms _ e h hD hbs _ x _ _ _ hE
  · rw [k] at hs ho
    cases hs
    refine EV.tsw 2 ⟨_, rfl, fun _ _ _ => rfl⟩ ho (by decide) ?_
    repeat (first | refine EV.s rfl rfl rfl ?_ | refine EW.get 0 hD rfl rfl rfl rfl ?_)
    refine EW.iald 7 (rb x) hD rfl rfl rfl rfl hrb (by decide) ?_
    repeat (first | refine EV.s rfl rfl rfl ?_ | refine EW.get 0 hD rfl rfl rfl rfl ?_)
    refine EW.iald 7 (rc x) hD rfl rfl rfl rfl hrc (by decide) ?_
    repeat refine EV.s rfl rfl rfl ?_
    refine EW.iastY 7 (ra x) (mro M P th c0 c1 c2 c3 lg pc mk (-1) gv ft F w ms (upd r (ra x) (r (rb x) + r (rc x)))) hD rfl rfl rfl (by omega) rfl hra (by decide) rfl ?_
    repeat refine EV.s rfl rfl rfl ?_
    exact r_mst_c (d + 2) M P th c0 c1 c2 c3 lg pc mk gv ft F w ms _ e h hD hbs _ x _ _ _ hE
  · rw [k] at hs ho
    cases hs
    refine EV.tsw 3 ⟨_, rfl, fun _ _ _ => rfl⟩ ho (by decide) ?_
    repeat (first | refine EV.s rfl rfl rfl ?_ | refine EW.get 0 hD rfl rfl rfl rfl ?_)
    refine EW.iald 7 (rb x) hD rfl rfl rfl rfl hrb (by decide) ?_
    repeat (first | refine EV.s rfl rfl rfl ?_ | refine EW.get 0 hD rfl rfl rfl rfl ?_)
    refine EW.iald 7 (rc x) hD rfl rfl rfl rfl hrc (by decide) ?_
    repeat refine EV.s rfl rfl rfl ?_
    refine EW.iastY 7 (ra x) (mro M P th c0 c1 c2 c3 lg pc mk (-1) gv ft F w ms (upd r (ra x) (r (rb x) ^^^ r (rc x)))) hD rfl rfl rfl (by omega) rfl hra (by decide) rfl ?_
    repeat refine EV.s rfl rfl rfl ?_
    exact r_mst_c (d + 2) M P th c0 c1 c2 c3 lg pc mk gv ft F w ms _ e h hD hbs _ x _ _ _ hE
  · rw [k] at hs ho
    cases hs
    refine EV.tsw 4 ⟨_, rfl, fun _ _ _ => rfl⟩ ho (by decide) ?_
    repeat (first | refine EV.s rfl rfl rfl ?_ | refine EW.get 0 hD rfl rfl rfl rfl ?_)
    refine EW.iald 7 (rb x) hD rfl rfl rfl rfl hrb (by decide) ?_
    repeat (first | refine EV.s rfl rfl rfl ?_ | refine EW.get 0 hD rfl rfl rfl rfl ?_)
    refine EW.iald 7 (rc x) hD rfl rfl rfl rfl hrc (by decide) ?_
    repeat refine EV.s rfl rfl rfl ?_
    refine EW.iastY 7 (ra x) (mro M P th c0 c1 c2 c3 lg pc mk (-1) gv ft F w ms (upd r (ra x) (r (rb x) * r (rc x)))) hD rfl rfl rfl (by omega) rfl hra (by decide) rfl ?_
    repeat refine EV.s rfl rfl rfl ?_
    exact r_mst_c (d + 2) M P th c0 c1 c2 c3 lg pc mk gv ft F w ms _ e h hD hbs _ x _ _ _ hE
  · rw [k] at hs ho
    refine EV.tsw 5 ⟨_, rfl, fun _ _ _ => rfl⟩ ho (by decide) ?_
    repeat (first | refine EV.s rfl rfl rfl ?_ | refine EW.get 0 hD rfl rfl rfl rfl ?_)
    refine EW.iald 7 (rb x) hD rfl rfl rfl rfl hrb (by decide) ?_
    repeat refine EV.s rfl rfl rfl ?_
    cases hq : rcp P F (nI e) (r (rb x) + (x &&& 255)) 1 with
    | none =>
      simp only [hq] at hs
      cases hs
      refine EW.cvY 0 [0, 1, 2, 3, 4] (mro M P th c0 c1 c2 c3 lg pc mk 1 gv (rft (r (rb x) + (x &&& 255))) F w ms r) hD (fun h0 => r_mreachN d M P th c0 c1 c2 c3 lg pc mk (-1) gv ft hP F (nI e) (r (rb x) + (x &&& 255)) 1 hq h0 (nd_sub hD [0, 1, 2, 3, 4] (by decide) rfl) hbs) rfl rfl rfl rfl rfl (Nat.le_of_ble_eq_true rfl) (Nat.le_of_ble_eq_true rfl) rfl rfl rfl rfl rfl ?_
      repeat refine EV.s rfl rfl rfl ?_
      refine EV.icm rfl (fun hb => ?_) (fun hb => ?_)
      · exact absurd hb (by decide)
      · refine EV.ret rfl ?_
        exact hE
    | some q =>
      simp only [hq] at hs
      cases hs
      obtain ⟨j, hj, hpc, hfat, -⟩ := rcp_some hq
      obtain ⟨hqP, -⟩ := fat_some hfat
      refine EW.cvY 0 [0, 1, 2, 3, 4] (mro M P th c0 c1 c2 c3 lg pc mk (-1) gv ft F w ms r) hD (fun h0 => r_mreachS d M P th c0 c1 c2 c3 lg pc mk (-1) gv ft hP F (nI e) (r (rb x) + (x &&& 255)) 1 q hq h0 (nd_sub hD [0, 1, 2, 3, 4] (by decide) rfl)) rfl rfl rfl rfl rfl (Nat.le_of_ble_eq_true rfl) (Nat.le_of_ble_eq_true rfl) rfl rfl rfl rfl rfl ?_
      repeat refine EV.s rfl rfl rfl ?_
      refine EV.icm rfl (fun hb => ?_) (fun hb => ?_)
      rotate_left
      · exact absurd (of_decide_eq_false hb) (fun z => z (m1_nI (by omega)))
      repeat (first | refine EV.s rfl rfl rfl ?_ | refine EW.get 0 hD rfl rfl rfl rfl ?_)
      refine EW.iald 5 (32 * q + (r (rb x) + (x &&& 255)).toNatClampNeg % 32) hD rfl rfl rfl rfl (by omega) (by decide) ?_
      rw [fl32_at w q _ (by omega)]
      refine EW.iastY 7 (ra x) (mro M P th c0 c1 c2 c3 lg pc mk (-1) gv ft F w ms (upd r (ra x) (w q ((r (rb x) + (x &&& 255)).toNatClampNeg % 32)))) hD rfl rfl rfl (by omega) rfl hra (by decide) rfl ?_
      repeat refine EV.s rfl rfl rfl ?_
      exact r_mst_c (d + 2) M P th c0 c1 c2 c3 lg pc mk gv ft F w ms _ e h hD hbs _ x _ _ _ hE
  · rw [k] at hs ho
    refine EV.tsw 6 ⟨_, rfl, fun _ _ _ => rfl⟩ ho (by decide) ?_
    repeat (first | refine EV.s rfl rfl rfl ?_ | refine EW.get 0 hD rfl rfl rfl rfl ?_)
    refine EW.iald 7 (rb x) hD rfl rfl rfl rfl hrb (by decide) ?_
    repeat refine EV.s rfl rfl rfl ?_
    cases hq : rcp P F (nI e) (r (rb x) + (x &&& 255)) 2 with
    | none =>
      simp only [hq] at hs
      cases hs
      refine EW.cvY 0 [0, 1, 2, 3, 4] (mro M P th c0 c1 c2 c3 lg pc mk 1 gv (rft (r (rb x) + (x &&& 255))) F w ms r) hD (fun h0 => r_mreachN d M P th c0 c1 c2 c3 lg pc mk (-1) gv ft hP F (nI e) (r (rb x) + (x &&& 255)) 2 hq h0 (nd_sub hD [0, 1, 2, 3, 4] (by decide) rfl) hbs) rfl rfl rfl rfl rfl (Nat.le_of_ble_eq_true rfl) (Nat.le_of_ble_eq_true rfl) rfl rfl rfl rfl rfl ?_
      repeat refine EV.s rfl rfl rfl ?_
      refine EV.icm rfl (fun hb => ?_) (fun hb => ?_)
      · exact absurd hb (by decide)
      · refine EV.ret rfl ?_
        exact hE
    | some q =>
      simp only [hq] at hs
      cases hs
      obtain ⟨j, hj, hpc, hfat, -⟩ := rcp_some hq
      obtain ⟨hqP, -⟩ := fat_some hfat
      refine EW.cvY 0 [0, 1, 2, 3, 4] (mro M P th c0 c1 c2 c3 lg pc mk (-1) gv ft F w ms r) hD (fun h0 => r_mreachS d M P th c0 c1 c2 c3 lg pc mk (-1) gv ft hP F (nI e) (r (rb x) + (x &&& 255)) 2 q hq h0 (nd_sub hD [0, 1, 2, 3, 4] (by decide) rfl)) rfl rfl rfl rfl rfl (Nat.le_of_ble_eq_true rfl) (Nat.le_of_ble_eq_true rfl) rfl rfl rfl rfl rfl ?_
      repeat refine EV.s rfl rfl rfl ?_
      refine EV.icm rfl (fun hb => ?_) (fun hb => ?_)
      rotate_left
      · exact absurd (of_decide_eq_false hb) (fun z => z (m1_nI (by omega)))
      repeat (first | refine EV.s rfl rfl rfl ?_ | refine EW.get 0 hD rfl rfl rfl rfl ?_)
      refine EW.iald 7 (ra x) hD rfl rfl rfl rfl hra (by decide) ?_
      refine EW.iastY 5 (32 * q + (r (rb x) + (x &&& 255)).toNatClampNeg % 32) (mro M P th c0 c1 c2 c3 lg pc mk (-1) gv ft F (upp w q (upd (w q) ((r (rb x) + (x &&& 255)).toNatClampNeg % 32) (r (ra x)))) ms r) hD rfl rfl rfl (by omega) rfl (by omega) (by decide) (by rw [fl32_up w q _ (by omega)]; rfl) ?_
      repeat refine EV.s rfl rfl rfl ?_
      exact r_mst_c (d + 2) M P th c0 c1 c2 c3 lg pc mk gv ft F _ ms _ e h hD hbs _ x _ _ _ hE
  · rw [k] at hs ho
    cases hs
    refine EV.tsw 7 ⟨_, rfl, fun _ _ _ => rfl⟩ ho (by decide) ?_
    repeat (first | refine EV.s rfl rfl rfl ?_ | refine EW.get 0 hD rfl rfl rfl rfl ?_)
    refine EW.iald 7 (ra x) hD rfl rfl rfl rfl hra (by decide) ?_
    refine EV.ifc rfl (fun hb => ?_) (fun hb => ?_)
    · have hb : r (ra x) = 0 := of_decide_eq_true hb
      rw [if_pos hb] at hE
      repeat refine EV.s rfl rfl rfl ?_
      exact r_mst_c (d + 2) M P th c0 c1 c2 c3 lg pc mk gv ft F w ms _ e h hD hbs _ x _ _ _ hE
    · have hb : ¬ r (ra x) = 0 := of_decide_eq_false hb
      rw [if_neg hb] at hE
      repeat refine EV.s rfl rfl rfl ?_
      refine EW.get 0 hD rfl rfl rfl rfl ?_
      repeat refine EV.s rfl rfl rfl ?_
      exact r_mst_c (d + 2) M P th c0 c1 c2 c3 lg pc mk gv ft F w ms _ e h hD hbs _ x _ _ _ hE
  · rw [k] at hs ho
    cases hs
    rw [← low31] at hE
    refine EV.tsw 8 ⟨_, rfl, fun _ _ _ => rfl⟩ ho (by decide) ?_
    repeat (first | refine EV.s rfl rfl rfl ?_ | refine EW.get 0 hD rfl rfl rfl rfl ?_)
    refine EW.iald 7 (rb x) hD rfl rfl rfl rfl hrb (by decide) ?_
    repeat refine EV.s rfl rfl rfl ?_
    refine EW.iastY 7 (ra x) (mro M P th c0 c1 c2 c3 lg pc mk (-1) gv ft F w ms (upd r (ra x) (shu (r (rb x)) (x &&& 255 &&& 31)))) hD rfl rfl rfl (by omega) rfl hra (by decide) rfl ?_
    repeat refine EV.s rfl rfl rfl ?_
    exact r_mst_c (d + 2) M P th c0 c1 c2 c3 lg pc mk gv ft F w ms _ e h hD hbs _ x _ _ _ hE
  · rw [k] at hs ho
    cases hs
    have e8 : (8 : Int32) * nI e + nI (rc x) = nI (8 * e + rc x) := by
      have a1 : (8 : Int32) * nI e = nI (8 * e) := pk_mul 8 e
      rw [a1, nI_add]
    refine EV.tsw 9 ⟨_, rfl, fun _ _ _ => rfl⟩ ho (by decide) ?_
    repeat (first | refine EV.s rfl rfl rfl ?_ | refine EW.get 0 hD rfl rfl rfl rfl ?_)
    refine EW.iald 6 (8 * e + rc x) hD rfl rfl rfl e8 (by omega) (by decide) ?_
    rw [fl8_at ms e _ hrc]
    refine EW.iastY 7 (ra x) (mro M P th c0 c1 c2 c3 lg pc mk (-1) gv ft F w ms (upd r (ra x) (ms e (rc x)))) hD rfl rfl rfl (by omega) rfl hra (by decide) rfl ?_
    repeat refine EV.s rfl rfl rfl ?_
    exact r_mst_c (d + 2) M P th c0 c1 c2 c3 lg pc mk gv ft F w ms _ e h hD hbs _ x _ _ _ hE
  · have hlt := opc_lt x
    rw [k] at hs ho
    cases hs
    refine EV.tsw (n + 10) ⟨_, rfl, fun _ _ _ => rfl⟩ ho (by omega) ?_
    simp only [List.getD, List.getElem?_cons_succ, List.getElem?_nil, Option.getD_none]
    repeat refine EV.s rfl rfl rfl ?_
    refine EW.putY 0 (mro M P th c0 c1 c2 c3 lg pc mk 3 gv ft F w ms r) hD rfl rfl rfl hbs (Nat.le_of_ble_eq_true rfl) rfl rfl ?_
    refine EV.ret rfl ?_
    exact hE
set_option maxHeartbeats 4000000 in
set_option maxRecDepth 100000 in
theorem r_mstep (d M P : Nat) (th c0 c1 c2 c3 : Int32) (lg : Int64) (pc mk gv ft : Int32) (hP : P ≤ 40) (F w ms : Nat → Nat → Int32) (r : Nat → Int32) (e : Nat) (he : e < 40) (h : e_H) (hD : (mra M).Nodup) (hbs : bs ≤ M) (hw : Int32) (w' : Nat → Nat → Int32) (r' : Nat → Int32) (pc' gv' ft' : Int32) (hs : stp P F ms e w r pc gv ft = (hw, w', r', pc', gv', ft')) :
    ev_run tbs bs sa (d + 3) 96 [.ref M, .int (nI e)] (wd (mra M) (mro M P th c0 c1 c2 c3 lg pc mk (-1) gv ft F w ms r) h) none (wd (mra M) (mro M P th c0 c1 c2 c3 lg pc' (if hw = -1 ∨ hw = 0 then mk + 1 else mk) hw gv' ft' F w' ms r') h) := by
  rw [stp] at hs
  refine RUN.mk (T := t_X5_step) rfl (Nat.le_of_ble_eq_true rfl) ?_
  repeat (first | refine EV.s rfl rfl rfl ?_ | refine EW.get 0 hD rfl rfl rfl rfl ?_)
  cases hq : rcp P F (nI e) pc 4 with
  | none =>
    rw [hq] at hs
    cases hs
    refine EW.cvY 0 [0, 1, 2, 3, 4] (mro M P th c0 c1 c2 c3 lg pc mk 1 gv (rft pc) F w ms r) hD (fun h0 => r_mreachN d M P th c0 c1 c2 c3 lg pc mk (-1) gv ft hP F (nI e) pc 4 hq h0 (nd_sub hD [0, 1, 2, 3, 4] (by decide) rfl) hbs) rfl rfl rfl rfl rfl (Nat.le_of_ble_eq_true rfl) (Nat.le_of_ble_eq_true rfl) rfl rfl rfl rfl rfl ?_
    repeat refine EV.s rfl rfl rfl ?_
    refine EV.icm rfl (fun hb => ?_) (fun hb => ?_)
    · exact absurd hb (by decide)
    · refine EV.ret rfl ?_
      rfl
  | some q =>
    simp only [hq] at hs
    obtain ⟨j, hj, hpc, hfat, -⟩ := rcp_some hq
    obtain ⟨hqP, -⟩ := fat_some hfat
    refine EW.cvY 0 [0, 1, 2, 3, 4] (mro M P th c0 c1 c2 c3 lg pc mk (-1) gv ft F w ms r) hD (fun h0 => r_mreachS d M P th c0 c1 c2 c3 lg pc mk (-1) gv ft hP F (nI e) pc 4 q hq h0 (nd_sub hD [0, 1, 2, 3, 4] (by decide) rfl)) rfl rfl rfl rfl rfl (Nat.le_of_ble_eq_true rfl) (Nat.le_of_ble_eq_true rfl) rfl rfl rfl rfl rfl ?_
    repeat refine EV.s rfl rfl rfl ?_
    refine EV.icm rfl (fun hb => ?_) (fun hb => ?_)
    rotate_left
    · exact absurd (of_decide_eq_false hb) (fun z => z (m1_nI (by omega)))
    have hx : fl32 w (32 * q + pc.toNatClampNeg % 32) = w q (pc.toNatClampNeg % 32) := fl32_at w q _ (by omega)
    repeat (first | refine EV.s rfl rfl rfl ?_ | refine EW.get 0 hD rfl rfl rfl rfl ?_)
    refine EW.iald 5 (32 * q + pc.toNatClampNeg % 32) hD rfl rfl rfl rfl (by omega) (by decide) ?_
    rw [hx]
    generalize hxx : w q (pc.toNatClampNeg % 32) = x at hs
    clear hx
    repeat (first | refine EV.s rfl rfl rfl ?_ | refine EW.get 0 hD rfl rfl rfl rfl ?_)
    have key : ∀ (A B C : Int32), A = nI (ra x) → B = nI (rb x) → C = nI (rc x) → ∀ l2 o, o = nI (opc x) → ev_E tbs bs sa (d + 2) t_X5_step (fun y => y = .inr (none, wd (mra M) (mro M P th c0 c1 c2 c3 lg pc' (if hw = -1 ∨ hw = 0 then mk + 1 else mk) hw gv' ft' F w' ms r') h)) (71, [some (.ref M), some (.int (nI e)), some (.int l2), some (.int x), some (.int A), some (.int B), some (.int C), some (.int (x &&& 255)), some (.int x.toInt16.toInt32), some (.int (pc + 1)), none], [.int o], wd (mra M) (mro M P th c0 c1 c2 c3 lg pc mk (-1) gv ft F w ms r) h) := by
      intro A B C hA hB hC l2 o ho
      subst hA; subst hB; subst hC
      exact r_mst_x d M P th c0 c1 c2 c3 lg pc mk gv ft hP F w ms r e he h hD hbs x l2 hw w' r' pc' gv' ft' hs o ho _ rfl
    exact key _ _ _ (ra_a x) (rb_a x) (rc_eq x) _ _ (opc_eq x)
end MST
