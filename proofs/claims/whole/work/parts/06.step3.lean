theorem ev_nat {z : Int32} (hz : ¬ z < 0) : z.toInt = (z.toNatClampNeg : Int) := by
  have hz0 : (0 : Int) ≤ z.toInt := by
    have := Int32.not_lt.mp hz
    simpa using Int32.le_iff_toInt_le.mp this
  show z.toInt = ((z.toInt.toNat : Nat) : Int)
  omega
theorem ev_nfw : nativeFrameWords "java/lang/System" "arraycopy" 5 ≤ 21 := by decide +kernel
theorem ev_cnew {h h' : e_H} {o : e_O} {n z : Nat} (hn : ev_new h o n = some (z, h')) : ev_cn h' = ev_cn h + 1 ∧ ev_sn h' = ev_sn h + n := by
  unfold ev_new at hn
  split at hn
  · rename_i w u hw
    simp only [Option.some.injEq, Prod.mk.injEq] at hn
    obtain ⟨rfl, rfl⟩ := hn
    exact ⟨by simp [ev_cn, hw], by simp [ev_sn, hw]⟩
  · cases hn
section EVU
variable {p : Program} {l : Launch} {e : Env} {R : Room} {s : State} {m : MethodId} {args : Array Value} {below : List Frame} {meth : Method} {c : Code} {D : va_G} {bs : Nat} {sa : Nat → Nat} {T : e_M} {d c0 s0 : Nat} {Q : State → Prop} {tb : Nat → Option e_M}
variable {pc nx x1 x2 : Nat} {v : Value} {ts : List Nat} {lo : e_L} {sk : List Value} {h : e_H} {cf' : e_C}
theorem ev_s_new {idx : Nat} (X : ev_X p R s m args meth c D bs sa T d) (hd : decode T.1.2.2.1 pc = .ok (.new idx, 3)) (hn : nx = pc + 3) (hc : c0 ≤ ev_cn h) (hs0 : s0 ≤ ev_sn h) (hcap : ev_cn cf'.2.2.2 - c0 ≤ R.cells ∧ ev_sn cf'.2.2.2 - s0 ≤ R.slots)
    (hW : ∃ (r : vw_C) (ty : Nat → FieldType), vwCl[x1]? = some r ∧ (∀ w ∈ u_ws r.1 r.2.1 r.2.2, w ∈ ev_GW) ∧ x2 = r.2.2 ∧ (∀ k, k < r.2.2 → parseFieldDescriptor (r.2.1 k).2.2.1 = some (ty k)) ∧ Cond.classLink T.1.1 idx r.1 ∈ ev_GW ∧ Cond.instantiable r.1 r.2.2 ∈ ev_GW ∧ Cond.initialized r.1 ∈ ev_GW ∧ ts.length = r.2.2 ∧ ∀ j, j < r.2.2 → defaultValue (ty j) = vp_V (ts.map ev_z) j)
    (hs : ev_nob (.inl (x1, ts.map ev_z)) x2 nx lo sk h = some (.inl cf')) (kk : ev_G p l e R s m args below meth c D bs T c0 s0 Q cf') : ev_G p l e R s m args below meth c D bs T c0 s0 Q (pc, lo, sk, h) := by
  obtain ⟨hx, hb, -, -, hown, -, -, hts, hK, -⟩ := X
  obtain ⟨⟨C, Tc, N⟩, ty, hr, hin, hk, hty, hl1, hl2, hl3, hlen, hdef⟩ := hW
  dsimp only at hin hk hty hl1 hl2 hl3 hlen hdef
  unfold ev_nob at hs
  split at hs
  · rename_i z h' hz
    have hs : some (Sum.inl (nx, lo, .ref z :: sk, h')) = some (.inl cf') := hs
    cases hs
    dsimp only at hcap
    intro H locs ls hP hS hL
    subst hn
    subst hk
    have hKn := hK.1.1 x1 _ hr
    obtain ⟨e1, e2⟩ := ev_cnew hz
    refine W.newcK hx hb hown (hts _ hl1) (hts _ hl2) (hts _ hl3) rfl hd (by dsimp only; omega) (by dsimp only; omega) hKn.2.1 rfl fun H1 kC hkC f1 z1 o1 => ?_
    have hob := (u_born ty hts hin hKn hkC f1 hty).to hdef
    obtain ⟨rfl, hP', -⟩ := hP.new hz z1 o1 ⟨(C, Tc, x2), hr, by simpa using hlen, hob⟩
    have hS' : va_S (fun q => bs ≤ q) s.heap H1 locs := ⟨by have := hS.1; omega, fun q q1 q2 => (o1 q (Nat.lt_of_lt_of_le q1 hS.1)).trans (hS.2.1 q q1 q2), hS.2.2⟩
    exact W.cs (by dsimp only; omega) (by dsimp only; omega) (kk H1 locs ls hP' hS' hL)
  · cases hs
theorem ev_s_newa {at_ : ArrayType} {o : Nat → e_O} {ty : FieldType} (X : ev_X p R s m args meth c D bs sa T d) (hd : decode T.1.2.2.1 pc = .ok (.newarray at_, 2)) (hn : nx = pc + 2) (hc : c0 ≤ ev_cn h) (hs0 : s0 ≤ ev_sn h) (hcap : ev_cn cf'.2.2.2 - c0 ≤ R.cells ∧ ev_sn cf'.2.2.2 - s0 ≤ R.slots)
    (hty : newarray.typeOf at_ = ty) (hw : Cond.arrayClass ty ∈ ev_GW) (hcb : componentBytes ty ≤ 8) (hcr : ∀ (a n : Nat) (H : Heap), ev_AR s a ty n (fun _ => defaultValue ty) H → ev_CR D s a (o n) H)
    (hs : ev_newa o nx lo sk h = some (.inl cf')) (kk : ev_G p l e R s m args below meth c D bs T c0 s0 Q cf') : ev_G p l e R s m args below meth c D bs T c0 s0 Q (pc, lo, sk, h) := by
  obtain ⟨hx, hb, -, -, hown, -, -, hts, hK, -⟩ := X
  subst hty
  unfold ev_newa at hs
  split at hs
  · rename_i n r
    obtain ⟨hq, hs⟩ := ev_cond (y := some (Sum.inl cf')) hs
    rw [Bool.and_eq_true] at hq
    have hn0 : ¬ n < 0 := by simpa using hq.1
    have hn5 := Nat.le_of_ble_eq_true hq.2
    split at hs
    · rename_i z h' hz
      have hs : some (Sum.inl (nx, lo, .ref z :: r, h')) = some (.inl cf') := hs
      cases hs
      dsimp only at hcap
      intro H locs ls hP hS hL
      subst hn
      obtain ⟨e1, e2⟩ := ev_cnew hz
      refine W.newaK hx hb (hts _ hw) rfl hd rfl hn0 rfl (Nat.le_trans (Nat.mul_le_mul hn5 hcb) (by decide)) (by dsimp only; omega) (by dsimp only; omega) rfl fun H1 cA f1 z1 o1 hA => ?_
      obtain ⟨rfl, hP', -⟩ := hP.new hz z1 o1 (hcr _ _ _ ⟨_, f1, hA _ _, (fun q => by cases q), ⟨Nat.le_of_eq (arrV_size _ _ _).symm, by rw [arrV_size]⟩, fun j hj => arrV_read _ _ hj⟩)
      have hS' : va_S (fun q => bs ≤ q) s.heap H1 locs := ⟨by have := hS.1; omega, fun q q1 q2 => (o1 q (Nat.lt_of_lt_of_le q1 hS.1)).trans (hS.2.1 q q1 q2), hS.2.2⟩
      exact W.cs (by dsimp only; omega) (by dsimp only; omega) (kk H1 locs ls hP' hS' hL)
    · cases hs
  · cases hs
theorem ev_s_anew {idx : Nat} (X : ev_X p R s m args meth c D bs sa T d) (hd : decode T.1.2.2.1 pc = .ok (.anewarray idx, 3)) (hn : nx = pc + 3) (hc : c0 ≤ ev_cn h) (hs0 : s0 ≤ ev_sn h) (hcap : ev_cn cf'.2.2.2 - c0 ≤ R.cells ∧ ev_sn cf'.2.2.2 - s0 ≤ R.slots)
    (hW : Cond.classLink T.1.1 idx "EnclaveMonitor$Page" ∈ ev_GW)
    (hs : ev_newa (fun n => .inr (.inr (.inr (n, fun _ => none)))) nx lo sk h = some (.inl cf')) (kk : ev_G p l e R s m args below meth c D bs T c0 s0 Q cf') : ev_G p l e R s m args below meth c D bs T c0 s0 Q (pc, lo, sk, h) := by
  obtain ⟨hx, hb, -, -, hown, -, -, hts, hK, -⟩ := X
  unfold ev_newa at hs
  split at hs
  · rename_i n r
    obtain ⟨hq, hs⟩ := ev_cond (y := some (Sum.inl cf')) hs
    rw [Bool.and_eq_true] at hq
    have hn0 : ¬ n < 0 := by simpa using hq.1
    have hn5 := Nat.le_of_ble_eq_true hq.2
    split at hs
    · rename_i z h' hz
      have hs : some (Sum.inl (nx, lo, .ref z :: r, h')) = some (.inl cf') := hs
      cases hs
      dsimp only at hcap
      intro H locs ls hP hS hL
      subst hn
      obtain ⟨e1, e2⟩ := ev_cnew hz
      refine W.anew hx hb hown (hts _ hW) (va_AO.use hK.2.2.2) rfl hd rfl hn0 (by omega) (by dsimp only; omega) (by dsimp only; omega) fun cA kA comp f1 f2 f3 f4 => ?_
      have hcomp : comp = D.1 1 := Option.some.inj (f4.symm.trans (hK.1.1 1 _ (rfl : vwCl[1]? = some (RX1, TX1, 8))).2.1)
      subst hcomp
      generalize hH1 : H.push ({ cls := cA, slots := Array.replicate n.toNatClampNeg .null, vm := .none } : Cell) = H1
      have z1 : H1.size = H.size + 1 := by rw [← hH1, Array.size_push]
      have g1 : H1[H.size]? = some (arrV cA n.toNatClampNeg (fun _ => .null)) := by rw [← hH1, Array.getElem?_push_size, ← arrV_new]
      have o1 : ∀ q : Nat, q < H.size → H1[q]? = H[q]? := fun q hq => by rw [← hH1, Array.getElem?_push, if_neg (Nat.ne_of_lt hq)]
      obtain ⟨rfl, hP', -⟩ := hP.new hz z1 o1 ⟨⟨_, g1, ⟨(fun q q2 => by cases q2), kA, f2, _, f3⟩, (fun q => by cases q), ⟨Nat.le_of_eq (arrV_size _ _ _).symm, by rw [arrV_size]⟩, fun j hj => arrV_read _ _ hj⟩, ⟨_, kA, g1, f2, f3⟩⟩
      have hS' : va_S (fun q => bs ≤ q) s.heap H1 locs := ⟨by have := hS.1; omega, fun q q1 q2 => (o1 q (Nat.lt_of_lt_of_le q1 hS.1)).trans (hS.2.1 q q1 q2), hS.2.2⟩
      exact W.cs (by dsimp only; omega) (by dsimp only; omega) (kk H1 locs ls hP' hS' hL)
    · cases hs
  · cases hs
theorem ev_s_cpy {idx : Nat} (X : ev_X p R s m args meth c D bs sa T d) (hGl : ev_glob) (hd : decode T.1.2.2.1 pc = .ok (.invokestatic idx, 3)) (hn : nx = pc + 3)
    (hW : Cond.methodLink T.1.1 idx arraycopyName ∈ ev_GW)
    (hs : ev_cpy bs nx lo sk h = some (.inl cf')) (kk : ev_G p l e R s m args below meth c D bs T c0 s0 Q cf') : ev_G p l e R s m args below meth c D bs T c0 s0 Q (pc, lo, sk, h) := by
  obtain ⟨hx, hb, hml, -, hown, -, -, hts, hK, hRf, hRl, -⟩ := X
  unfold ev_cpy at hs
  split at hs
  · rename_i n dp a sp a0 r
    split at hs
    · rename_i x y hxa hya
      obtain ⟨hq, hs⟩ := ev_cond (y := some (Sum.inl cf')) hs
      simp only [Bool.and_eq_true, decide_eq_true_eq] at hq
      obtain ⟨q0, q1, h1, h2, h3, h4, h5⟩ := hq
      have hba := Nat.le_of_ble_eq_true q0
      have hsum := Nat.le_of_ble_eq_true q1
      have h4 := Nat.le_of_ble_eq_true h4
      have h5 := Nat.le_of_ble_eq_true h5
      have hs : some (Sum.inl (nx, lo, r, ev_up h a (.inr (.inl (y.1, va_cpy x.2 y.2 sp.toNatClampNeg dp.toNatClampNeg n.toNatClampNeg))))) = some (.inl cf') := hs
      cases hs
      intro H locs ls hP hS hL
      subst hn
      obtain ⟨cs, c1, c2, c3, c4, c5⟩ := hP.1 a0 _ (ev_ia_spec hxa)
      obtain ⟨cd, d1, d2, d3, d4, d5⟩ := hP.1 a _ (ev_ia_spec hya)
      dsimp only at c5 d5 c4 d4
      obtain ⟨k0, hk0, cm0, hkk0⟩ := c2.2
      obtain ⟨k1, hk1, cm1, hkk1⟩ := d2.2
      have hget : ∀ i, i < n.toNatClampNeg → cs.slots.getD (sp.toNatClampNeg + i) .null = .int (x.2 (sp.toNatClampNeg + i)) := by
        intro i hi
        rw [Array.getD_eq_getD_getElem?, c5 _ (by omega)]
        rfl
      intro S0 hS0 X0
      have hsz : ls.size = c.maxLocals := by rw [hml]; exact hL.2.1
      obtain ⟨vm', X', step⟩ := X0.arraycopy hx hown (hts _ hW) (hts _ hGl.1) (hts _ hGl.2.1) (hts _ hGl.2.2.1) (src := a0) (dst := a) (cs := cs) (cd := cd) (srcPos := sp) (destPos := dp) (n := n) (by rw [hS0]; exact c1) (by rw [hS0]; exact d1)
        c2.1 d2.1 c3 d3 hk0 hk1 hkk0 hkk1 (by simp [refKind]) h1 h2 h3
        (by rw [ev_nat h1, ev_nat h3]; have := c4.1; omega)
        (by rw [ev_nat h2, ev_nat h3]; have := d4.1; omega)
        (fun vm₁ _ i hi => by
          rw [hget i hi]
          exact ⟨rfl, trivial⟩)
        (g := F0 m pc ls (.int n :: .int dp :: .ref a :: .int sp :: .ref a0 :: r)) rfl hsz (rest := r) rfl (by rw [hb]; exact hd) (by omega) (by have := ev_nfw; unfold ev_sum at hsum; show 2 * 0 + _ + _ ≤ _; omega)
      have hcp : copied cs cd sp dp n = cd.storeRun dp.toNatClampNeg (cs.stretch sp.toNatClampNeg n.toNatClampNeg) := rfl
      obtain ⟨f1, f2, f3, -, -⟩ := cd.storeRun_facts dp.toNatClampNeg (cs.stretch sp.toNatClampNeg n.toNatClampNeg)
      have hlen : (cs.stretch sp.toNatClampNeg n.toNatClampNeg).length = n.toNatClampNeg := by simp [Cell.stretch]
      have hl : a < H.size := (Array.getElem?_eq_some_iff.mp d1).1
      generalize hcc : copied cs cd sp dp n = cc at X' step
      rw [hcc] at hcp
      have hheap : ((S0.setVm vm').setCell a cc).heap = H.setIfInBounds a cc := by rw [← hS0]; rfl
      have oq : ∀ q : Nat, q ≠ a → (H.setIfInBounds a cc)[q]? = H[q]? := fun q hq => by simp [Array.getElem?_setIfInBounds, Ne.symm hq]
      have z1 : (H.setIfInBounds a cc).size = H.size := by simp
      have hA : ev_AR s a .int y.1 (fun j => .int (va_cpy x.2 y.2 sp.toNatClampNeg dp.toNatClampNeg n.toNatClampNeg j)) (H.setIfInBounds a cc) := by
        refine ⟨cc, by simp [Array.getElem?_setIfInBounds, hl], ?_, by rw [hcp, f2]; exact d3, by rw [hcp, f3]; exact d4, fun j hj => ?_⟩
        · exact ⟨fun k => by rw [hcp, f2]; exact d2.1 k, k1, by rw [hcp, f1]; exact hk1, cm1, hkk1⟩
        · rw [hcp, Cell.storeRun_get _ _ _ _ (by rw [hlen]; exact Nat.le_trans h5 d4.1), hlen]
          by_cases hin : dp.toNatClampNeg ≤ j ∧ j < dp.toNatClampNeg + n.toNatClampNeg
          · rw [if_pos hin]
            simp only [Cell.stretch, List.getElem?_map]
            rw [List.getElem?_range (by omega)]
            show some (cs.slots.getD (sp.toNatClampNeg + (j - dp.toNatClampNeg)) .null) = _
            rw [hget _ (by omega)]
            simp [va_cpy, hin]
          · rw [if_neg hin, d5 j hj]
            simp [va_cpy, hin]
      obtain ⟨t, a1, b1⟩ := kk _ (locs ++ (cs.stretch sp.toNatClampNeg n.toNatClampNeg).zipIdx.map fun q => ⟨a, dp.toNatClampNeg + q.2⟩) ls (hP.put z1 oq hA) ⟨by rw [z1]; exact hS.1, fun q g1 g2 => by
          rw [oq q (fun e => g2 (by rw [e]; exact hba))]
          exact hS.2.1 q g1 g2, fun q hq => by
          rcases List.mem_append.mp hq with h | h
          · exact hS.2.2 q h
          · obtain ⟨z, -, hz⟩ := List.mem_map.mp h
            rw [← hz]
            exact hba⟩ hL _ hheap X'
      exact ⟨t, step t a1, b1⟩
    · cases hs
  · cases hs
end EVU
