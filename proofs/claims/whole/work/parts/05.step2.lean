section EVT
variable {p : Program} {l : Launch} {e : Env} {R : Room} {s : State} {m : MethodId} {args : Array Value} {below : List Frame} {meth : Method} {c : Code} {D : va_G} {bs : Nat} {sa : Nat → Nat} {T : e_M} {d c0 s0 : Nat} {Q : State → Prop} {tb : Nat → Option e_M}
variable {pc nx x1 x2 : Nat} {v : Value} {ts : List Nat} {lo : e_L} {sk : List Value} {h : e_H} {cf' : e_C}
theorem ev_s_get {idx : Nat} (X : ev_X p R s m args meth c D bs sa T d) (hd : decode T.1.2.2.1 pc = .ok (.getfield idx, 3)) (hn : nx = pc + 3)
    (hW : ∃ r : vw_C, vwCl[x1]? = some r ∧ (∀ w ∈ u_ws r.1 r.2.1 r.2.2, w ∈ ev_GW) ∧ x2 < r.2.2 ∧ Cond.fieldLink T.1.1 idx (r.2.1 x2).1 (r.2.1 x2).2.1 (r.2.1 x2).2.2.1 ∈ ev_GW)
    (hs : ev_get x1 x2 nx lo sk h = some (.inl cf')) (kk : ev_G p l e R s m args below meth c D bs T c0 s0 Q cf') : ev_G p l e R s m args below meth c D bs T c0 s0 Q (pc, lo, sk, h) := by
  obtain ⟨hx, hb, -, -, hown, -, -, hts, hK, -⟩ := X
  obtain ⟨⟨C, Tc, N⟩, hr, hin, hk, hl⟩ := hW
  dsimp only at hin hk hl
  unfold ev_get at hs
  split at hs
  · rename_i a r
    split at hs
    · rename_i fs hfs
      split at hs
      · rename_i w hw
        have hs : some (Sum.inl (nx, lo, w :: r, h)) = some (.inl cf') := hs
        cases hs
        intro H locs ls hP hS hL
        subst hn
        obtain ⟨r', h1, h2, h3⟩ := hP.1 a _ (ev_obj_spec hfs)
        have hP1 : va_P D vwCl [(a, .inr (x1, fs))] H := fun k q hq => by
          match k, hq with
          | 0, hq => cases hq; exact ⟨r', h1, h3⟩
        exact va_get (ci := x1) (C := C) (T := Tc) (N := N) hx hb hts hin hown hK.1 hP1 0 rfl hr x2 hk (hts _ hl) (fun _ h9 => h9) hw hd (kk H locs ls hP hS hL)
      · cases hs
    · cases hs
  · cases hs
theorem ev_s_put {idx : Nat} (X : ev_X p R s m args meth c D bs sa T d) (hd : decode T.1.2.2.1 pc = .ok (.putfield idx, 3)) (hn : nx = pc + 3)
    (hW : ∃ (r : vw_C) (ty : Nat → FieldType), vwCl[x1]? = some r ∧ (∀ w ∈ u_ws r.1 r.2.1 r.2.2, w ∈ ev_GW) ∧ x2 < r.2.2 ∧ Cond.fieldLink T.1.1 idx (r.2.1 x2).1 (r.2.1 x2).2.1 (r.2.1 x2).2.2.1 ∈ ev_GW ∧ (∀ k, k < r.2.2 → parseFieldDescriptor (r.2.1 k).2.2.1 = some (ty k)) ∧ (∀ a, a < r.2.2 → ∀ b, b < r.2.2 → a ≠ b → (r.2.1 a).2.1 ≠ (r.2.1 b).2.1) ∧ ev_fk (ty x2) = ev_kd v ∧ ((r.2.1 x2).2.2.2 = false ∨ ((r.2.1 x2).2.2.2 = true ∧ T.1.2.1.name = "<init>" ∧ (r.2.1 x2).1 = T.1.1)))
    (hs : ev_put bs v x1 x2 nx lo sk h = some (.inl cf')) (kk : ev_G p l e R s m args below meth c D bs T c0 s0 Q cf') : ev_G p l e R s m args below meth c D bs T c0 s0 Q (pc, lo, sk, h) := by
  obtain ⟨hx, hb, -, -, hown, hnm, -, hts, hK, -⟩ := X
  obtain ⟨⟨C, Tc, N⟩, ty, hr, hin, hk, hl, hty, hap, hfk, hfin⟩ := hW
  dsimp only at hin hk hl hty hap hfin
  unfold ev_put at hs
  split at hs
  · rename_i w a r
    split at hs
    · rename_i fs hfs
      obtain ⟨hq, hs⟩ := ev_cond (y := some (Sum.inl cf')) hs
      rw [Bool.and_eq_true, Bool.and_eq_true] at hq
      have hba := Nat.le_of_ble_eq_true hq.1
      have hlt : x2 < fs.length := Nat.lt_of_succ_le (Nat.le_of_ble_eq_true hq.2.1)
      have hkd := Nat.eq_of_beq_eq_true hq.2.2
      have hs : some (Sum.inl (nx, lo, r, ev_up h a (.inl (x1, fs.set x2 w)))) = some (.inl cf') := hs
      cases hs
      intro H locs ls hP hS hL
      subst hn
      obtain ⟨r', h1, h2, h3⟩ := hP.1 a _ (ev_obj_spec hfs)
      have hrr : r' = (C, Tc, N) := Option.some.inj (h1.symm.trans hr)
      subst hrr
      obtain ⟨hnar, hfit⟩ := ev_fit (hfk.trans hkd.symm)
      have hapart := va_apart (own := T.1.1) hts hin ty hty hap hK.1 hr
      obtain ⟨cell, q1, q2, q3, q4⟩ := h3
      obtain ⟨hSl, hfc, kC, hkC, hkind⟩ := hK.1.1 x1 _ hr
      obtain ⟨cf, kf, fi, f, hi, hsl⟩ := hSl x2 hk
      dsimp only at q4 hi hsl hfc
      have hst := (u_facts hfc hkC (u_lays hts hin hk) hi).1
      have hgo : ∀ (H' : Heap), H'[a]? = some (cell.setSlot f.slot w) → H'.size = H.size → (∀ q, q ≠ a → H'[q]? = H[q]?) → W p l e R s m args below meth c H' (locs ++ [⟨a, f.slot⟩]) (ev_cn h - c0) (ev_sn h - s0) Q (F0 m (pc + 3) ls r) := by
        intro H' e1 e2 e3
        rw [hsl] at e1
        refine kk H' _ ls (hP.put e2 e3 ⟨(C, Tc, N), hr, ?_, t_OB.to (V := updV (vp_V fs) x2 w) ⟨_, e1, q2, q3, t_set q4 hapart hk w⟩ (fun j _ => vp_updV_set hlt w j)⟩) (hS.put e2 e3 hba) hL
        rw [List.length_set]; exact h2
      rcases hfin with hfin | ⟨hfin, hini, hdecl⟩
      · have hlay := hts _ (hin _ (u_in_lay hk))
        unfold u_lay at hlay
        rw [if_neg (by rw [hfin]; decide)] at hlay
        have h6 := u_store hfc hkC hkind hlay hi (hty x2 hk) hnar hfit
        exact W.putK hx hb (f := f) ⟨hown, hts _ hl, ⟨_, _, _, hi⟩, hst⟩ (by rw [q2]; exact h6) q1 q3 (by rw [hsl]; exact k2_hasslot (q4 x2 hk)) rfl rfl hd hgo
      · have hlay := hts _ (hin _ (u_in_lay hk))
        unfold u_lay at hlay
        rw [if_pos hfin] at hlay
        have hcf : m.cls = cf := by
          obtain ⟨_, _, c', _, _, _, -, -, hf', -, -, -, hown2, -⟩ := Cond.laysFinal_spec hlay
          have e1 : c' = cf := by have := hi.symm.trans hf'; simp at this; exact this.1.symm
          rw [hdecl] at hown2
          rw [← e1]; exact Option.some.inj (hown.symm.trans hown2)
        have h6 := u_fits hfc hkC hkind (Or.inr hlay) hi (hty x2 hk) hnar hfit
        exact W.putFinK hx hb hown (hts _ hl) hi hst hcf (hnm.trans hini) (by rw [q2]; exact h6) q1 q3 (by rw [hsl]; exact k2_hasslot (q4 x2 hk)) rfl rfl hd hgo
    · cases hs
  · cases hs
theorem ev_s_iald (X : ev_X p R s m args meth c D bs sa T d) (hd : decode T.1.2.2.1 pc = .ok (.iaload, 1)) (hn : nx = pc + 1)
    (hs : ev_iald nx lo sk h = some (.inl cf')) (kk : ev_G p l e R s m args below meth c D bs T c0 s0 Q cf') : ev_G p l e R s m args below meth c D bs T c0 s0 Q (pc, lo, sk, h) := by
  obtain ⟨hx, hb, -⟩ := X
  unfold ev_iald at hs
  split at hs
  · rename_i i a r
    split at hs
    · rename_i x hxa
      obtain ⟨hq, hs⟩ := ev_cond (y := some (Sum.inl cf')) hs
      have hs : some (Sum.inl (nx, lo, .int (x.2 i.toNatClampNeg) :: r, h)) = some (.inl cf') := hs
      cases hs
      intro H locs ls hP hS hL
      subst hn
      obtain ⟨cell, h1, h2, h3, h4, h5⟩ := hP.1 a _ (ev_ia_spec hxa)
      exact W.iald (v := .int (x.2 i.toNatClampNeg)) hx hb h1 h2 h3 (fun q => ev_in_not hq (q.imp id (fun z => Nat.le_trans h4.1 z))) (h5 _ (ev_in_spec hq).2) rfl rfl hd (kk H locs ls hP hS hL)
    · cases hs
  · cases hs
theorem ev_s_lald (X : ev_X p R s m args meth c D bs sa T d) (hd : decode T.1.2.2.1 pc = .ok (.laload, 1)) (hn : nx = pc + 1)
    (hs : ev_lald nx lo sk h = some (.inl cf')) (kk : ev_G p l e R s m args below meth c D bs T c0 s0 Q cf') : ev_G p l e R s m args below meth c D bs T c0 s0 Q (pc, lo, sk, h) := by
  obtain ⟨hx, hb, -⟩ := X
  unfold ev_lald at hs
  split at hs
  · rename_i i a r
    split at hs
    · rename_i x hxa
      obtain ⟨hq, hs⟩ := ev_cond (y := some (Sum.inl cf')) hs
      have hs : some (Sum.inl (nx, lo, .long (x.2 i.toNatClampNeg) :: r, h)) = some (.inl cf') := hs
      cases hs
      intro H locs ls hP hS hL
      subst hn
      obtain ⟨cell, h1, h2, h3, h4, h5⟩ := hP.1 a _ (ev_la_spec hxa)
      exact W.lald (v := .long (x.2 i.toNatClampNeg)) hx hb h1 h2 h3 (fun q => ev_in_not hq (q.imp id (fun z => Nat.le_trans h4.1 z))) (h5 _ (ev_in_spec hq).2) rfl rfl hd (kk H locs ls hP hS hL)
    · cases hs
  · cases hs
theorem ev_s_aald (X : ev_X p R s m args meth c D bs sa T d) (hd : decode T.1.2.2.1 pc = .ok (.aaload, 1)) (hn : nx = pc + 1)
    (hs : ev_aald nx lo sk h = some (.inl cf')) (kk : ev_G p l e R s m args below meth c D bs T c0 s0 Q cf') : ev_G p l e R s m args below meth c D bs T c0 s0 Q (pc, lo, sk, h) := by
  obtain ⟨hx, hb, -⟩ := X
  unfold ev_aald at hs
  split at hs
  · rename_i i a r
    split at hs
    · rename_i x hxa
      obtain ⟨hq, hs⟩ := ev_cond (y := some (Sum.inl cf')) hs
      have hs : some (Sum.inl (nx, lo, va_rf (x.2 i.toNatClampNeg) :: r, h)) = some (.inl cf') := hs
      cases hs
      intro H locs ls hP hS hL
      subst hn
      obtain ⟨⟨cell, h1, h2, h3, h4, h5⟩, -⟩ := hP.1 a _ (ev_ra_spec hxa)
      exact W.aald (v := va_rf (x.2 i.toNatClampNeg)) (ty := .object "EnclaveMonitor$Page") hx hb h1 h2 rfl h3 (fun q => ev_in_not hq (q.imp id (fun z => Nat.le_trans h4.1 z))) (h5 _ (ev_in_spec hq).2) rfl rfl hd (kk H locs ls hP hS hL)
    · cases hs
  · cases hs
theorem ev_s_iast (X : ev_X p R s m args meth c D bs sa T d) (hd : decode T.1.2.2.1 pc = .ok (.iastore, 1)) (hn : nx = pc + 1)
    (hs : ev_iast bs nx lo sk h = some (.inl cf')) (kk : ev_G p l e R s m args below meth c D bs T c0 s0 Q cf') : ev_G p l e R s m args below meth c D bs T c0 s0 Q (pc, lo, sk, h) := by
  obtain ⟨hx, hb, -⟩ := X
  unfold ev_iast at hs
  split at hs
  · rename_i w i a r
    split at hs
    · rename_i x hxa
      obtain ⟨hq, hs⟩ := ev_cond (y := some (Sum.inl cf')) hs
      rw [Bool.and_eq_true] at hq
      have hs : some (Sum.inl (nx, lo, r, ev_up h a (.inr (.inl (x.1, upd x.2 i.toNatClampNeg w))))) = some (.inl cf') := hs
      cases hs
      intro H locs ls hP hS hL
      subst hn
      obtain ⟨cell, h1, h2, h3, h4, h5⟩ := hP.1 a _ (ev_ia_spec hxa)
      refine W.iast hx hb h1 h2 h3 (fun q => ev_in_not hq.2 (q.imp id (fun z => Nat.le_trans h4.1 z))) rfl rfl hd fun H1 e1 z oq => ?_
      refine kk H1 _ ls (hP.put z oq ?_) (hS.put z oq (Nat.le_of_ble_eq_true hq.1)) hL
      exact ev_AR.store h1 h2 h3 h4 h5 (ev_in_spec hq.2).2 e1 (fun k _ => by by_cases hk : k = i.toNatClampNeg <;> simp [upd, hk])
    · cases hs
  · cases hs
theorem ev_s_last (X : ev_X p R s m args meth c D bs sa T d) (hd : decode T.1.2.2.1 pc = .ok (.lastore, 1)) (hn : nx = pc + 1)
    (hs : ev_last bs nx lo sk h = some (.inl cf')) (kk : ev_G p l e R s m args below meth c D bs T c0 s0 Q cf') : ev_G p l e R s m args below meth c D bs T c0 s0 Q (pc, lo, sk, h) := by
  obtain ⟨hx, hb, -⟩ := X
  unfold ev_last at hs
  split at hs
  · rename_i w i a r
    split at hs
    · rename_i x hxa
      obtain ⟨hq, hs⟩ := ev_cond (y := some (Sum.inl cf')) hs
      rw [Bool.and_eq_true] at hq
      have hs : some (Sum.inl (nx, lo, r, ev_up h a (.inr (.inr (.inl (x.1, vp_updL x.2 i.toNatClampNeg w)))))) = some (.inl cf') := hs
      cases hs
      intro H locs ls hP hS hL
      subst hn
      obtain ⟨cell, h1, h2, h3, h4, h5⟩ := hP.1 a _ (ev_la_spec hxa)
      refine W.last hx hb h1 h2 h3 (fun q => ev_in_not hq.2 (q.imp id (fun z => Nat.le_trans h4.1 z))) rfl rfl hd fun H1 e1 z oq => ?_
      refine kk H1 _ ls (hP.put z oq ?_) (hS.put z oq (Nat.le_of_ble_eq_true hq.1)) hL
      exact ev_AR.store h1 h2 h3 h4 h5 (ev_in_spec hq.2).2 e1 (fun k _ => by by_cases hk : k = i.toNatClampNeg <;> simp [vp_updL, hk])
    · cases hs
  · cases hs
theorem ev_s_aast (X : ev_X p R s m args meth c D bs sa T d) (hd : decode T.1.2.2.1 pc = .ok (.aastore, 1)) (hn : nx = pc + 1)
    (hs : ev_aast bs 1 nx lo sk h = some (.inl cf')) (kk : ev_G p l e R s m args below meth c D bs T c0 s0 Q cf') : ev_G p l e R s m args below meth c D bs T c0 s0 Q (pc, lo, sk, h) := by
  obtain ⟨hx, hb, -, -, -, -, -, -, hK, -⟩ := X
  unfold ev_aast at hs
  split at hs
  · rename_i i a r
    split at hs
    · rename_i x hxa
      obtain ⟨hq, hs⟩ := ev_cond (y := some (Sum.inl cf')) hs
      rw [Bool.and_eq_true] at hq
      have hs : some (Sum.inl (nx, lo, r, ev_up h a (.inr (.inr (.inr (x.1, va_up x.2 i.toNatClampNeg none)))))) = some (.inl cf') := hs
      cases hs
      intro H locs ls hP hS hL
      subst hn
      obtain ⟨⟨cell, h1, h2, h3, h4, h5⟩, ⟨cell', k, g1, g2, g3⟩⟩ := hP.1 a _ (ev_ra_spec hxa)
      cases h1.symm.trans g1
      refine va_WaastN hx hb h1 h2 h3 (fun q => ev_in_not hq.2 (q.imp id (fun z => Nat.le_trans h4.1 z))) rfl rfl hd fun H1 e1 z oq => ?_
      refine kk H1 _ ls (hP.put z oq ⟨?_, ⟨_, k, e1, g2, g3⟩⟩) (hS.put z oq (Nat.le_of_ble_eq_true hq.1)) hL
      exact ev_AR.store h1 h2 h3 h4 h5 (ev_in_spec hq.2).2 e1 (fun k _ => by by_cases hk : k = i.toNatClampNeg <;> simp [va_up, hk, va_rf])
    · cases hs
  · rename_i b i a r
    split at hs
    · rename_i x fs hxa hfs
      obtain ⟨hq, hs⟩ := ev_cond (y := some (Sum.inl cf')) hs
      rw [Bool.and_eq_true] at hq
      have hs : some (Sum.inl (nx, lo, r, ev_up h a (.inr (.inr (.inr (x.1, va_up x.2 i.toNatClampNeg (some b))))))) = some (.inl cf') := hs
      cases hs
      intro H locs ls hP hS hL
      subst hn
      obtain ⟨⟨cell, h1, h2, h3, h4, h5⟩, ⟨cell', k, g1, g2, g3⟩⟩ := hP.1 a _ (ev_ra_spec hxa)
      cases h1.symm.trans g1
      obtain ⟨r', k1, k2, cv, k3, k4, k5, k6⟩ := hP.1 b _ (ev_obj_spec hfs)
      have hcls := (hK.1.1 1 _ (rfl : vwCl[1]? = some (RX1, TX1, 8))).2
      obtain ⟨kC, hkC, -⟩ := hcls.2
      refine W.aast (t := .object "EnclaveMonitor$Page") hx hb h1 h2.1 h3 g2 g3 rfl hkC ⟨(ev_in_spec hq.2).1, Nat.lt_of_lt_of_le (ev_in_spec hq.2).2 h4.1⟩ k3 (fun q z => by rw [k5] at z; cases z) (by rw [k4]; exact hkC) (by rw [k4]; exact va_assign hcls) rfl rfl hd fun H1 e1 z oq => ?_
      refine kk H1 _ ls (hP.put z oq ⟨?_, ⟨_, k, e1, g2, g3⟩⟩) (hS.put z oq (Nat.le_of_ble_eq_true hq.1)) hL
      exact ev_AR.store h1 h2 h3 h4 h5 (ev_in_spec hq.2).2 e1 (fun k _ => by by_cases hk : k = i.toNatClampNeg <;> simp [va_up, hk, va_rf])
    · cases hs
  · cases hs
theorem ev_s_alen (X : ev_X p R s m args meth c D bs sa T d) (hd : decode T.1.2.2.1 pc = .ok (.arraylength, 1)) (hn : nx = pc + 1)
    (hs : ev_alen nx lo sk h = some (.inl cf')) (kk : ev_G p l e R s m args below meth c D bs T c0 s0 Q cf') : ev_G p l e R s m args below meth c D bs T c0 s0 Q (pc, lo, sk, h) := by
  obtain ⟨hx, hb, -⟩ := X
  unfold ev_alen at hs
  split at hs
  · rename_i a r
    split at hs
    · rename_i n hna
      have hs : some (Sum.inl (nx, lo, .int (Int32.ofNat n) :: r, h)) = some (.inl cf') := hs
      cases hs
      intro H locs ls hP hS hL
      subst hn
      unfold ev_len at hna
      split at hna
      · rename_i x hxa; cases hna; obtain ⟨cell, h1, h2, h3, h4, h5⟩ := hP.1 a _ hxa
        exact W.alen hx hb h1 h2 h4.2 rfl rfl hd (kk H locs ls hP hS hL)
      · rename_i x hxa; cases hna; obtain ⟨cell, h1, h2, h3, h4, h5⟩ := hP.1 a _ hxa
        exact W.alen hx hb h1 h2 h4.2 rfl rfl hd (kk H locs ls hP hS hL)
      · rename_i x hxa; cases hna; obtain ⟨⟨cell, h1, h2, h3, h4, h5⟩, -⟩ := hP.1 a _ hxa
        exact W.alen hx hb h1 h2 h4.2 rfl rfl hd (kk H locs ls hP hS hL)
      · cases hna
    · cases hs
  · cases hs
end EVT
