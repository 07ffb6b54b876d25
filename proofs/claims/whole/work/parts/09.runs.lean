section EVR
variable {p : Program} {l : Launch} {e : Env} {R : Room} {s : State} {m : MethodId} {args : Array Value} {below : List Frame} {meth : Method} {c : Code} {D : va_G} {bs : Nat} {sa : Nat → Nat} {T : e_M} {d c0 s0 : Nat} {Q : State → Prop} {tb : Nat → Option e_M}
variable {pc nx x1 x2 : Nat} {v : Value} {ts : List Nat} {lo : e_L} {sk : List Value} {h h' : e_H} {cf' : e_C}
/-- the counts never fall -/
def ev_le (h h' : e_H) : Prop := ev_cn h ≤ ev_cn h' ∧ ev_sn h ≤ ev_sn h'
theorem ev_le.rf : ev_le h h := ⟨Nat.le_refl _, Nat.le_refl _⟩
theorem ev_le.tr {h1 h2 h3 : e_H} (a : ev_le h1 h2) (b : ev_le h2 h3) : ev_le h1 h3 := ⟨Nat.le_trans a.1 b.1, Nat.le_trans a.2 b.2⟩
theorem ev_le.up {a : Nat} {o : e_O} : ev_le h (ev_up h a o) := ⟨Nat.le_refl _, Nat.le_refl _⟩
theorem ev_inl_le {rt : Option FieldType} {i : Instr} (hs : ev_ins bs sa rt nx x1 x2 v ts lo sk h i = some (.inl cf')) : ev_le h cf'.2.2.2 := by
  have g0 : ∀ {nx : Nat} {lo : e_L} {sk : List Value} {h1 : e_H}, ev_go nx lo sk h1 = some (.inl cf') → ev_le h h1 → ev_le h cf'.2.2.2 := by
    intro nx lo sk h1 q hq
    have q : (some (Sum.inl (nx, lo, sk, h1)) : Option e_R) = some (Sum.inl cf') := q
    cases q; exact hq
  have gc : ∀ {b : Bool} {nx : Nat} {lo : e_L} {sk : List Value} {h1 : e_H}, cond b (ev_go nx lo sk h1) none = some (.inl cf') → ev_le h h1 → ev_le h cf'.2.2.2 := fun q hq => g0 (ev_cond (y := some (Sum.inl cf')) q).2 hq
  have gn : ∀ {o : e_O} {n z : Nat} {h1 : e_H}, ev_new h o n = some (z, h1) → ev_le h h1 := fun q => ⟨by rw [(ev_cnew q).1]; omega, by rw [(ev_cnew q).2]; omega⟩
  unfold ev_ins at hs
  split at hs
  all_goals first
    | exact g0 hs ev_le.rf
    | (unfold ev_load at hs; split at hs <;> first | exact g0 hs ev_le.rf | cases hs)
    | (unfold ev_store at hs; split at hs <;> first | exact gc hs ev_le.rf | cases hs)
    | (unfold ev_inc at hs; split at hs <;> first | exact gc hs ev_le.rf | cases hs)
    | (unfold ev_storeL at hs; split at hs <;> first | exact gc hs ev_le.rf | cases hs)
    | (unfold ev_bin at hs; split at hs <;> first | exact g0 hs ev_le.rf | cases hs)
    | (unfold ev_un at hs; split at hs <;> first | exact g0 hs ev_le.rf | cases hs)
    | (unfold ev_binL at hs; split at hs <;> first | exact g0 hs ev_le.rf | cases hs)
    | (unfold ev_shL at hs; split at hs <;> first | exact g0 hs ev_le.rf | cases hs)
    | (unfold ev_l2i at hs; split at hs <;> first | exact g0 hs ev_le.rf | cases hs)
    | (unfold ev_dup at hs; split at hs <;> first | exact gc hs ev_le.rf | cases hs)
    | (unfold ev_dup2 at hs; split at hs <;> first | exact gc hs ev_le.rf | cases hs)
    | (unfold ev_icm at hs; split at hs <;> first | exact g0 hs ev_le.rf | cases hs)
    | (unfold ev_ifc at hs; split at hs <;> first | exact g0 hs ev_le.rf | cases hs)
    | (unfold ev_ifn at hs; split at hs <;> first | exact g0 hs ev_le.rf | cases hs)
    | (unfold ev_tss at hs; split at hs <;> first | exact g0 hs ev_le.rf | cases hs)
    | (unfold ev_alen at hs; split at hs <;> first | cases hs | (split at hs <;> first | exact g0 hs ev_le.rf | cases hs))
    | (unfold ev_iald at hs; split at hs <;> first | cases hs | (split at hs <;> first | exact gc hs ev_le.rf | cases hs))
    | (unfold ev_iast at hs; split at hs <;> first | cases hs | (split at hs <;> first | exact gc hs ev_le.up | cases hs))
    | (unfold ev_lald at hs; split at hs <;> first | cases hs | (split at hs <;> first | exact gc hs ev_le.rf | cases hs))
    | (unfold ev_last at hs; split at hs <;> first | cases hs | (split at hs <;> first | exact gc hs ev_le.up | cases hs))
    | (unfold ev_aald at hs; split at hs <;> first | cases hs | (split at hs <;> first | exact gc hs ev_le.rf | cases hs))
    | (unfold ev_aast at hs; split at hs <;> first | cases hs | (split at hs <;> first | exact gc hs ev_le.up | cases hs))
    | (unfold ev_put at hs; split at hs <;> first | cases hs | (split at hs <;> first | exact gc hs ev_le.up | cases hs))
    | (unfold ev_get at hs; split at hs <;> first | cases hs | (split at hs <;> first | cases hs | (split at hs <;> first | exact g0 hs ev_le.rf | cases hs)))
    | (unfold ev_nob at hs; split at hs <;> first | (rename_i hq; exact g0 hs (gn hq)) | cases hs)
    | (unfold ev_newa at hs; split at hs <;> first | cases hs | (have hs := (ev_cond (y := some (Sum.inl cf')) hs).2; split at hs <;> first | (rename_i hq; exact g0 hs (gn hq)) | cases hs))
    | (unfold ev_div at hs; split at hs <;> first | cases hs | (cases hq : decide (_ = (0 : Int32)) <;> rw [hq] at hs <;> first | exact g0 hs ev_le.rf | cases hs))
    | (unfold ev_ret at hs; split at hs <;> first | cases hs | (have hs := (ev_cond (y := some (Sum.inl cf')) hs).2; cases hs))
    | (unfold ev_rtv at hs; split at hs <;> cases hs)
    | (unfold ev_callV at hs; split at hs <;> first | cases hs | (split at hs <;> first | cases hs | (have hs := (ev_cond (y := some (Sum.inl cf')) hs).2; cases hs)))
    | (split at hs <;> first
        | (unfold ev_cpy at hs; split at hs <;> first | cases hs | (split at hs <;> first | exact gc hs ev_le.up | cases hs))
        | (unfold ev_oin at hs; split at hs <;> first | exact gc hs ev_le.rf | cases hs)
        | (unfold ev_callS at hs; have hs := (ev_cond (y := some (Sum.inl cf')) hs).2; cases hs)
        | (unfold ev_callI at hs; split at hs <;> first | cases hs | (have hs := (ev_cond (y := some (Sum.inl cf')) hs).2; cases hs)))
    | cases hs
theorem ev_stp_le {cf : e_C} (hs : ev_stp bs sa T cf = some (.inl cf')) : ev_le cf.2.2.2 cf'.2.2.2 := by
  unfold ev_stp at hs
  split at hs
  · exact ev_inl_le hs
  · cases hs
/-- the heap at an end -/
def ev_eh (x : e_C ⊕ (Option Value × e_H)) : e_H := match x with
  | .inl cf => cf.2.2.2
  | .inr q => q.2
theorem ev_rch_le {K : Nat → List Value → e_H → Option Value → e_H → Prop} {E : e_C ⊕ (Option Value × e_H) → Prop} (hK : ∀ y as h v h', K y as h v h' → ev_le h h') : ∀ (n : Nat) (cf : e_C), ev_rch bs sa K T E n cf → ∃ x, E x ∧ ev_le cf.2.2.2 (ev_eh x) := by
  intro n
  induction n with
  | zero => intro cf h; exact ⟨_, h, ev_le.rf⟩
  | succ n ih =>
    intro cf h
    rcases h with h | h
    · exact ⟨_, h, ev_le.rf⟩
    · split at h
      · rename_i cf' hs
        obtain ⟨x, hx, hl⟩ := ih _ h
        exact ⟨x, hx, (ev_stp_le hs).tr hl⟩
      · exact ⟨_, h, ev_le.rf⟩
      · obtain ⟨v, h', hk, hr⟩ := h
        obtain ⟨x, hx, hl⟩ := ih _ hr
        exact ⟨x, hx, (hK _ _ _ _ _ hk).tr hl⟩
      · exact h.elim
theorem ev_run_le : ∀ (d y : Nat) (as : List Value) (h : e_H) (v : Option Value) (h' : e_H), ev_run tb bs sa d y as h v h' → ev_le h h' := by
  intro d
  induction d with
  | zero => intro y as h v h' q; exact q.elim
  | succ d ih =>
    intro y as h v h' q
    obtain ⟨T, n, -, -, hr⟩ := q
    obtain ⟨x, hx, hl⟩ := ev_rch_le (ih) n _ hr
    subst hx
    exact hl
/-- a run inside a method: the machine comes to where the run comes -/
theorem ev_rch_W {E : e_C ⊕ (Option Value × e_H) → Prop} (X : ev_X p R s m args meth c D bs sa T d) (hGl : ev_glob) (hok : ev_ok tb T) (hM : ∀ y as h v h', ev_run tb bs sa d y as h v h' → ∀ T', tb y = some T' → ev_Met l D bs sa d T' as h v h')
    (hE1 : ∀ cf, E (.inl cf) → ev_G p l e R s m args below meth c D bs T c0 s0 Q cf) (hE2 : ∀ cf v, E (.inr (v, cf.2.2.2)) → ev_stp bs sa T cf = some (.inr (.inl v)) → ev_G p l e R s m args below meth c D bs T c0 s0 Q cf)
    (hcap : ∀ x, E x → ev_cn (ev_eh x) - c0 ≤ R.cells ∧ ev_sn (ev_eh x) - s0 ≤ R.slots) : ∀ (n : Nat) (cf : e_C), c0 ≤ ev_cn cf.2.2.2 → s0 ≤ ev_sn cf.2.2.2 → ev_rch bs sa (ev_run tb bs sa d) T E n cf → ev_G p l e R s m args below meth c D bs T c0 s0 Q cf := by
  intro n
  induction n with
  | zero => intro cf _ _ h; exact hE1 cf h
  | succ n ih =>
    intro cf hc hs0 h
    have h9 := h
    rcases h with h | h
    · exact hE1 cf h
    · split at h
      · rename_i cf' hs
        have hle := ev_stp_le hs
        obtain ⟨x, hx, hl⟩ := ev_rch_le (ev_run_le d) n cf' h
        have hcx := hcap x hx
        have := hle.1; have := hle.2; have := hl.1; have := hl.2
        exact ev_step X hGl hok hs hc hs0 ⟨by omega, by omega⟩ (ih cf' (by omega) (by omega) h)
      · rename_i v hs
        exact hE2 cf v h hs
      · rename_i y as nx lo r hs
        obtain ⟨v, h', hk, hr⟩ := h
        have hle := ev_run_le d _ _ _ _ _ hk
        obtain ⟨x, hx, hl⟩ := ev_rch_le (ev_run_le d) n _ hr
        have hcx := hcap x hx
        have := hle.1; have := hle.2; have := hl.1; have := hl.2
        dsimp only at *
        exact ev_call X hok hs hc hs0 hle.1 hle.2 ⟨by omega, by omega⟩ (hM _ _ _ _ _ hk) (ih _ (by dsimp only; omega) (by dsimp only; omega) hr)
      · exact h.elim
theorem ev_ends {cf : e_C} {w : Option Value} (X : ev_X p R s m args meth c D bs sa T d) (hok : ev_ok tb T) (hs : ev_stp bs sa T cf = some (.inr (.inl w))) :
    ev_G p l e R s m args below meth c D bs T c0 s0 (MQ below (ev_Qc D bs w cf.2.2.2) args s (ev_cn cf.2.2.2 - c0) (ev_sn cf.2.2.2 - s0) (fun q => bs ≤ q)) cf := by
  obtain ⟨pc, lo, sk, h⟩ := cf
  unfold ev_stp at hs
  dsimp only at hs
  obtain ⟨hx, hb, hml, hret, hown, hnm, hlk, hts, hK, hRf, hRl, hbs⟩ := X
  split at hs
  · rename_i i nx x1 x2 v ts hf
    obtain ⟨hB, -⟩ := hok.2.2 _ (ev_fnd_mem _ _ _ hf)
    dsimp only at hB
    simp only [ev_okB, Bool.and_eq_true, Bool.or_eq_true, decide_eq_true_eq] at hB
    obtain ⟨hd0, hlt, hln, hcc⟩ := hB
    have hd2 : ev_ln i ≠ 0 → decode T.1.2.2.1 pc = .ok (i, ev_ln i) ∧ nx = pc + ev_ln i := by
      intro hne
      rcases hln with q | q
      · exact absurd q hne
      · refine ⟨?_, q⟩
        rw [hd0, q]
        congr 2
        omega
    have hq : ∀ (H : Heap) (locs : List Loc), ev_P D s h H → va_S (fun q => bs ≤ q) s.heap H locs → ∀ t : State, t.heap = H → s.WarmedH t.vm → ev_Qc D bs w h args s (.returned w) t := fun H locs hP hS t ht hW => ⟨rfl, by rw [ht]; exact ev_P.moved hW.alike hP, hS.F ht⟩
    rcases ev_inr hs with ⟨rfl, q⟩ | ⟨rfl, q⟩ | ⟨rfl, q⟩ | ⟨rfl, q⟩ | ⟨idx, rfl, h1, q⟩ | ⟨idx, rfl, h1, q⟩ | ⟨idx, rfl, q⟩
    · obtain ⟨hd, -⟩ := hd2 (Nat.succ_ne_zero _)
      unfold ev_ret at q
      split at q
      · rename_i w0 ty hr
        obtain ⟨hk, q⟩ := ev_cond (y := some (Sum.inr (Sum.inl w))) q
        rw [Bool.and_eq_true, Bool.and_eq_true] at hk
        obtain ⟨x, rfl⟩ := ev_kd0 (Nat.eq_of_beq_eq_true hk.1) rfl
        cases q
        intro H locs ls hP hS hL
        exact W.zret hx hb (hret.trans hr) (of_decide_eq_true hk.2.2) (hq H locs hP hS) hS.2.2 hd
      · cases q
    · obtain ⟨hd, -⟩ := hd2 (Nat.succ_ne_zero _)
      unfold ev_ret at q
      split at q
      · rename_i w0 ty hr
        obtain ⟨hk, q⟩ := ev_cond (y := some (Sum.inr (Sum.inl w))) q
        rw [Bool.and_eq_true, Bool.and_eq_true] at hk
        obtain ⟨x, rfl⟩ := ev_kd1 (Nat.eq_of_beq_eq_true hk.1) rfl
        cases q
        intro H locs ls hP hS hL
        have hty : ty = .long := by
          have h9 := Nat.eq_of_beq_eq_true hk.2.1
          cases ty <;> first | rfl | (simp [ev_rk] at h9)
        subst hty
        exact W.lret hx hb (hret.trans hr) (hq H locs hP hS) hS.2.2 hd
      · cases q
    · obtain ⟨hd, -⟩ := hd2 (Nat.succ_ne_zero _)
      unfold ev_ret at q
      split at q
      · rename_i w0 ty hr
        obtain ⟨hk, q⟩ := ev_cond (y := some (Sum.inr (Sum.inl w))) q
        rw [Bool.and_eq_true, Bool.and_eq_true] at hk
        have hkk := ev_kd2 (Nat.eq_of_beq_eq_true hk.1) rfl
        cases q
        intro H locs ls hP hS hL
        have hty : (∃ n, ty = .object n) ∨ ∃ t, ty = .array t := by
          have h9 := Nat.eq_of_beq_eq_true hk.2.1
          cases ty <;> first | exact Or.inl ⟨_, rfl⟩ | exact Or.inr ⟨_, rfl⟩ | (simp [ev_rk] at h9)
        exact W.aret hx hb (hret.trans hr) hty hkk (hq H locs hP hS) hS.2.2 hd
      · cases q
    · obtain ⟨hd, -⟩ := hd2 (Nat.succ_ne_zero _)
      unfold ev_rtv at q
      split at q
      · rename_i hr
        cases q
        intro H locs ls hP hS hL
        exact W.vret hx hb (hret.trans hr) (hq H locs hP hS) hS.2.2 hd
      · cases q
    · exfalso; unfold ev_callS at q
      have q := (ev_cond (y := some (Sum.inr (Sum.inl w))) q).2; cases q
    · exfalso; unfold ev_callI at q
      split at q
      · have q := (ev_cond (y := some (Sum.inr (Sum.inl w))) q).2; cases q
      · cases q
    · exfalso; unfold ev_callV at q
      split at q
      · split at q
        · have q := (ev_cond (y := some (Sum.inr (Sum.inl w))) q).2; cases q
        · cases q
      · cases q
  · cases hs
/-- SOUNDNESS: a run of the evaluator is a contract of the method -/
theorem ev_sound (hGl : ev_glob) (htb : ∀ y T, tb y = some T → ev_ok tb T) : ∀ (d y : Nat) (as : List Value) (h : e_H) (v : Option Value) (h' : e_H), ev_run tb bs sa d y as h v h' → ∀ T, tb y = some T → ev_Met l D bs sa d T as h v h' := by
  intro d
  induction d with
  | zero => intro y as h v h' q; exact q.elim
  | succ d ih =>
    intro y as h v h' q T hT
    obtain ⟨T', n, hT', hlen, hr⟩ := q
    cases hT.symm.trans hT'
    have hok := htb y T hT
    unfold ev_Met
    refine Met.ofW (cc := T.1.2.2.1) (maxL := T.1.2.2.2.1) (ret := T.1.2.2.2.2) (ws' := ev_GW) (by rw [hok.1]; exact hok.2.1) rfl ?_
    intro p e s m args below meth c s₁ B hml hv
    obtain ⟨rfl, hbs, hP, hK⟩ := hv
    have hts0 := atoms_spec (ws := ev_ws T) B.pre
    have hts : ∀ w ∈ ev_GW, w.before as.toArray s = true := fun w hw => hts0 w (List.mem_cons_of_mem _ hw)
    have hown : s.vm.findClass T.1.1 = some m.cls := by rw [← hok.1]; exact findClass_of_methodNamed B.named
    have X : ev_X p (headSpec (ev_ws T) (ev_rm (d + 1) (ev_cn h' - ev_cn h) (ev_sn h' - ev_sn h))).room s m as.toArray meth c D bs sa T d := ⟨B.exec, B.bytes, hml, B.returns, hown, (name_of_methodNamed B.named B.method).1, B.notSynchronized, hts, hK, Nat.le_refl _, Nat.le_refl _, hbs⟩
    rw [lg_entry_eq]
    have hW := ev_rch_W (p := p) (l := l) (e := e) (s := s) (m := m) (below := below) (meth := meth) (c := c) (c0 := ev_cn h) (s0 := ev_sn h) (Q := MQ below (ev_Qc D bs v h') as.toArray s (ev_cn h' - ev_cn h) (ev_sn h' - ev_sn h) (fun q => bs ≤ q)) (E := fun x => x = .inr (v, h')) X hGl hok ih
      (fun cf q => by cases q)
      (fun cf w q hs => by
        simp only [Sum.inr.injEq, Prod.mk.injEq] at q
        obtain ⟨rfl, rfl⟩ := q
        exact ev_ends X hok hs)
      (fun x q => by subst q; exact ⟨Nat.le_refl _, Nat.le_refl _⟩) n _ (Nat.le_refl _) (Nat.le_refl _) hr
    have := hW s.heap [] _ hP va_S.rf (ev_LR.entry as hlen)
    exact W.cs (by simp) (by simp) this
end EVR
