/-! Calls and ends; the evaluator's runs are contracts of the machine's methods. -/
def ev_ws (T : e_M) : List Cond := .code T.1.2.1 T.1.2.2.1 T.1.2.2.2.1 T.1.2.2.2.2 :: ev_GW
def ev_rm (d mc ms : Nat) : Room := { frames := d, cells := mc, slots := ms, locals := 40 * d }
def ev_Pc (D : va_G) (bs : Nat) (sa : Nat → Nat) (as : List Value) (h : e_H) : Array Value → State → Prop := va_Pc as (fun U => bs ≤ U.heap.size ∧ ev_P D U h U.heap ∧ ev_K D bs sa U)
def ev_Qc (D : va_G) (bs : Nat) (v : Option Value) (h' : e_H) : Array Value → State → Outcome → State → Prop := fun _ st o t => o = .returned v ∧ ev_P D t h' t.heap ∧ va_F (fun q => bs ≤ q) st t
def ev_Met (l : Launch) (D : va_G) (bs : Nat) (sa : Nat → Nat) (d : Nat) (T : e_M) (as : List Value) (h : e_H) (v : Option Value) (h' : e_H) : Prop :=
  Met l T.1.2.1 (ev_ws T) (ev_rm d (ev_cn h' - ev_cn h) (ev_sn h' - ev_sn h)) (ev_Pc D bs sa as h) (ev_Qc D bs v h') (ev_cn h' - ev_cn h) (ev_sn h' - ev_sn h) (fun q => bs ≤ q)
theorem ev_good {T : e_M} (h : Cond.code T.1.2.1 T.1.2.2.1 T.1.2.2.2.1 T.1.2.2.2.2 ∈ ev_GW) : GoodIn ev_GW (ev_ws T) := by
  intro w hw
  have hm : w ∈ ev_GW := by
    rcases List.mem_cons.mp hw with rfl | q
    · exact h
    · exact q
  exact ⟨hm, good_of_word (List.mem_filter.mp hm).2⟩
theorem ev_blind {D : va_G} {bs : Nat} {sa : Nat → Nat} {as : List Value} {h : e_H} : FrameBlind (ev_Pc D bs sa as h) := by
  intro a U g mk q
  obtain ⟨q0, q1, q2, q3⟩ := q
  exact ⟨q0, q1, ev_P.moved (u := U) (U := U.calling g mk a) (Vm.Alike.refl U.vm) q2, ev_K.blind (U := U) (V := U.calling g mk a) rfl rfl q3⟩
section EVC
variable {p : Program} {l : Launch} {e : Env} {R : Room} {s : State} {m : MethodId} {args : Array Value} {below : List Frame} {meth : Method} {c : Code} {D : va_G} {bs : Nat} {sa : Nat → Nat} {T : e_M} {d c0 s0 : Nat} {Q : State → Prop} {tb : Nat → Option e_M}
variable {pc nx x1 x2 : Nat} {v : Value} {ts : List Nat} {lo : e_L} {sk : List Value} {h h' : e_H}
theorem ev_pre {H : Heap} {locs : List Loc} {as : List Value} (X : ev_X p R s m args meth c D bs sa T d) (hP : ev_P D s h H) (hS : va_S (fun q => bs ≤ q) s.heap H locs) : ∀ U : State, U.heap = H → s.WarmedH U.vm → ev_Pc D bs sa as h as.toArray U := by
  obtain ⟨-, -, -, -, -, -, -, -, hK, -, -, hbs⟩ := X
  intro U hU hW
  exact ⟨rfl, by rw [hU]; exact Nat.le_trans hbs hS.1, by rw [hU]; exact ev_P.moved hW.alike hP, ev_K.warm hW hS hU hK⟩
theorem ev_back {H : Heap} {locs : List Loc} {ls : Array Slot} {r : List Value} {w : Option Value} {a9 : Array Value} (hc : c0 ≤ ev_cn h) (hs0 : s0 ≤ ev_sn h) (hmc : ev_cn h ≤ ev_cn h') (hms : ev_sn h ≤ ev_sn h')
    (hr : va_Run p l e R s m args below meth c H locs (ev_cn h - c0) (ev_sn h - s0) (ev_cn h' - ev_cn h) (ev_sn h' - ev_sn h) (F0 m pc ls sk) r (ev_Qc D bs w h' a9) (fun q => bs ≤ q)) (hS : va_S (fun q => bs ≤ q) s.heap H locs) (hL : ev_LR ls T.1.2.2.2.1 lo)
    (kk : ev_G p l e R s m args below meth c D bs T c0 s0 Q (pc + 3, lo, w.toList ++ r, h')) : W p l e R s m args below meth c H locs (ev_cn h - c0) (ev_sn h - s0) Q (F0 m pc ls sk) := by
  intro T0 hT X0
  obtain ⟨v1, st₀, t, T', L, h0, X', hL', e1, e2, ⟨hv, hP', hz, hk⟩, st⟩ := hr T0 hT X0
  cases hv
  rw [h0] at hz hk
  have hal : s.vm.Alike t.vm := by rw [← e2]; exact X'.warmed.alike
  have ec : ev_cn h - c0 + (ev_cn h' - ev_cn h) = ev_cn h' - c0 := by omega
  have es : ev_sn h - s0 + (ev_sn h' - ev_sn h) = ev_sn h' - s0 := by omega
  rw [ec, es] at X'
  obtain ⟨t2, a1, b1⟩ := kk T'.heap (locs ++ L) ls (by rw [e1]; exact ev_P.moved hal.symm hP')
    ⟨Nat.le_trans hS.1 (by rw [e1]; exact hz), fun q h1 h2 => by rw [e1, hk q (Nat.lt_of_lt_of_le h1 hS.1) h2]; exact hS.2.1 q h1 h2, fun q hq => by
      rcases List.mem_append.mp hq with h | h
      · exact hS.2.2 q h
      · exact hL' q h⟩ hL T' rfl X'
  exact ⟨t2, st t2 a1, b1⟩
theorem nc_go {nx : Nat} {x : Option Value ⊕ (Nat × List Value × Nat × e_L × List Value)} : ev_go nx lo sk h ≠ some (.inr x) := by
  intro q
  have q : (some (Sum.inl (nx, lo, sk, h)) : Option e_R) = some (Sum.inr x) := q
  cases q
theorem ev_inr {rt : Option FieldType} {i : Instr} {x : Option Value ⊕ (Nat × List Value × Nat × e_L × List Value)} (hs : ev_ins bs sa rt nx x1 x2 v ts lo sk h i = some (.inr x)) :
    (i = .ireturn ∧ ev_ret 0 rt sk = some (.inr x)) ∨ (i = .lreturn ∧ ev_ret 1 rt sk = some (.inr x)) ∨ (i = .areturn ∧ ev_ret 2 rt sk = some (.inr x)) ∨ (i = .return_ ∧ ev_rtv rt sk = some (.inr x)) ∨
    (∃ idx, i = .invokestatic idx ∧ x1 ≠ 1001 ∧ ev_callS x1 x2 nx lo sk = some (.inr x)) ∨ (∃ idx, i = .invokespecial idx ∧ x1 ≠ 1000 ∧ ev_callI x1 x2 nx lo sk = some (.inr x)) ∨ (∃ idx, i = .invokevirtual idx ∧ ev_callV x1 x2 nx ts lo sk h = some (.inr x)) := by
  have nc : ∀ {b : Bool} {nx : Nat} {lo : e_L} {sk : List Value} {h : e_H}, cond b (ev_go nx lo sk h) none ≠ some (.inr x) := fun q => nc_go (ev_cond (y := some (Sum.inr x)) q).2
  unfold ev_ins at hs
  split at hs
  all_goals first
    | exact absurd hs nc_go
    | (exfalso; unfold ev_load at hs; split at hs <;> first | exact nc_go hs | cases hs)
    | (exfalso; unfold ev_store at hs; split at hs <;> first | exact nc hs | cases hs)
    | (exfalso; unfold ev_inc at hs; split at hs <;> first | exact nc hs | cases hs)
    | (exfalso; unfold ev_storeL at hs; split at hs <;> first | exact nc hs | cases hs)
    | (exfalso; unfold ev_bin at hs; split at hs <;> first | exact nc_go hs | cases hs)
    | (exfalso; unfold ev_un at hs; split at hs <;> first | exact nc_go hs | cases hs)
    | (exfalso; unfold ev_binL at hs; split at hs <;> first | exact nc_go hs | cases hs)
    | (exfalso; unfold ev_shL at hs; split at hs <;> first | exact nc_go hs | cases hs)
    | (exfalso; unfold ev_l2i at hs; split at hs <;> first | exact nc_go hs | cases hs)
    | (exfalso; unfold ev_dup at hs; split at hs <;> first | exact nc hs | cases hs)
    | (exfalso; unfold ev_dup2 at hs; split at hs <;> first | exact nc hs | cases hs)
    | (exfalso; unfold ev_icm at hs; split at hs <;> first | exact nc_go hs | cases hs)
    | (exfalso; unfold ev_ifc at hs; split at hs <;> first | exact nc_go hs | cases hs)
    | (exfalso; unfold ev_ifn at hs; split at hs <;> first | exact nc_go hs | cases hs)
    | (exfalso; unfold ev_tss at hs; split at hs <;> first | exact nc_go hs | cases hs)
    | (exfalso; unfold ev_alen at hs; split at hs <;> first | cases hs | (split at hs <;> first | exact nc_go hs | cases hs))
    | (exfalso; unfold ev_iald at hs; split at hs <;> first | cases hs | (split at hs <;> first | exact nc hs | cases hs))
    | (exfalso; unfold ev_iast at hs; split at hs <;> first | cases hs | (split at hs <;> first | exact nc hs | cases hs))
    | (exfalso; unfold ev_lald at hs; split at hs <;> first | cases hs | (split at hs <;> first | exact nc hs | cases hs))
    | (exfalso; unfold ev_last at hs; split at hs <;> first | cases hs | (split at hs <;> first | exact nc hs | cases hs))
    | (exfalso; unfold ev_aald at hs; split at hs <;> first | cases hs | (split at hs <;> first | exact nc hs | cases hs))
    | (exfalso; unfold ev_aast at hs; split at hs <;> first | cases hs | (split at hs <;> first | exact nc hs | cases hs))
    | (exfalso; unfold ev_put at hs; split at hs <;> first | cases hs | (split at hs <;> first | exact nc hs | cases hs))
    | (exfalso; unfold ev_get at hs; split at hs <;> first | cases hs | (split at hs <;> first | cases hs | (split at hs <;> first | exact nc_go hs | cases hs)))
    | (exfalso; unfold ev_nob at hs; split at hs <;> first | exact nc_go hs | cases hs)
    | (exfalso; unfold ev_newa at hs; split at hs <;> first | cases hs | (have hs := (ev_cond (y := some (Sum.inr x)) hs).2; split at hs <;> first | exact nc_go hs | cases hs))
    | (exfalso; unfold ev_div at hs; split at hs <;> first | cases hs | (cases hq : decide (_ = (0 : Int32)) <;> rw [hq] at hs <;> first | exact nc_go hs | cases hs))
    | (exact Or.inl ⟨rfl, hs⟩)
    | (exact Or.inr (Or.inl ⟨rfl, hs⟩))
    | (exact Or.inr (Or.inr (Or.inl ⟨rfl, hs⟩)))
    | (exact Or.inr (Or.inr (Or.inr (Or.inl ⟨rfl, hs⟩))))
    | (exact Or.inr (Or.inr (Or.inr (Or.inr (Or.inr (Or.inr ⟨_, rfl, hs⟩))))))
    | (split at hs <;> first
        | (exfalso; unfold ev_cpy at hs; split at hs <;> first | cases hs | (split at hs <;> first | exact nc hs | cases hs))
        | (exfalso; unfold ev_oin at hs; split at hs <;> first | exact nc hs | cases hs)
        | exact Or.inr (Or.inr (Or.inr (Or.inr (Or.inl ⟨_, rfl, by assumption, hs⟩))))
        | exact Or.inr (Or.inr (Or.inr (Or.inr (Or.inr (Or.inl ⟨_, rfl, by assumption, hs⟩))))))
    | cases hs
/-- a call, by the callee's contract -/
theorem ev_call {cf : e_C} {y : Nat} {as r : List Value} {w : Option Value} (X : ev_X p R s m args meth c D bs sa T d) (hok : ev_ok tb T) (hs : ev_stp bs sa T cf = some (.inr (.inr (y, as, nx, lo, r)))) (hc : c0 ≤ ev_cn cf.2.2.2) (hs0 : s0 ≤ ev_sn cf.2.2.2) (hmc : ev_cn cf.2.2.2 ≤ ev_cn h') (hms : ev_sn cf.2.2.2 ≤ ev_sn h') (hcap : ev_cn h' - c0 ≤ R.cells ∧ ev_sn h' - s0 ≤ R.slots)
    (hM : ∀ T', tb y = some T' → ev_Met l D bs sa d T' as cf.2.2.2 w h') (kk : ev_G p l e R s m args below meth c D bs T c0 s0 Q (nx, lo, w.toList ++ r, h')) : ev_G p l e R s m args below meth c D bs T c0 s0 Q cf := by
  obtain ⟨pc, lo', sk, h⟩ := cf
  unfold ev_stp at hs
  dsimp only at hs hc hs0 hmc hms hM
  split at hs
  · rename_i i nx' x1 x2 v ts hf
    obtain ⟨hB, hW⟩ := hok.2.2 _ (ev_fnd_mem _ _ _ hf)
    dsimp only at hB hW
    simp only [ev_okB, Bool.and_eq_true, Bool.or_eq_true, decide_eq_true_eq] at hB
    obtain ⟨hd0, hlt, hln, hcc⟩ := hB
    have hd2 : ev_ln i ≠ 0 → decode T.1.2.2.1 pc = .ok (i, ev_ln i) ∧ nx' = pc + ev_ln i := by
      intro hne
      rcases hln with q | q
      · exact absurd q hne
      · refine ⟨?_, q⟩
        rw [hd0, q]
        congr 2
        omega
    have X' := X
    obtain ⟨hx, hb, hml, hret, hown, hnm, hlk, hts, hK, hRf, hRl, hbs⟩ := X'
    have hcr : ∀ T' : e_M, T'.1.2.2.2.1 ≤ 21 → (ev_rm d (ev_cn h' - ev_cn h) (ev_sn h' - ev_sn h)).frames + 1 ≤ R.frames ∧ 8 + (T'.1.2.2.2.1 + 11) + (ev_rm d (ev_cn h' - ev_cn h) (ev_sn h' - ev_sn h)).locals ≤ R.locals := by
      intro T' hT'
      refine ⟨hRf, ?_⟩
      show 8 + (T'.1.2.2.2.1 + 11) + 40 * d ≤ R.locals
      omega
    rcases ev_inr hs with ⟨-, q⟩ | ⟨-, q⟩ | ⟨-, q⟩ | ⟨-, q⟩ | ⟨idx, rfl, h1, hs⟩ | ⟨idx, rfl, h1, hs⟩ | ⟨idx, rfl, hv9⟩
    · exfalso; unfold ev_ret at q; split at q
      · have q := (ev_cond (y := some (Sum.inr (Sum.inr (y, as, nx, lo, r)))) q).2; cases q
      · cases q
    · exfalso; unfold ev_ret at q; split at q
      · have q := (ev_cond (y := some (Sum.inr (Sum.inr (y, as, nx, lo, r)))) q).2; cases q
      · cases q
    · exfalso; unfold ev_ret at q; split at q
      · have q := (ev_cond (y := some (Sum.inr (Sum.inr (y, as, nx, lo, r)))) q).2; cases q
      · cases q
    · exfalso; unfold ev_rtv at q; split at q <;> cases q
    · obtain ⟨hd, rfl⟩ := hd2 (Nat.succ_ne_zero _)
      dsimp only [ev_okW] at hW
      rw [if_neg h1] at hW
      obtain ⟨T', ht', ⟨hl, hini, hcode, hpl, h21⟩, hst⟩ := hW
      unfold ev_callS at hs
      obtain ⟨hq, hs⟩ := ev_cond (y := some (Sum.inr (Sum.inr (y, as, nx, lo, r)))) hs
      rw [Bool.and_eq_true] at hq
      have hlen := Nat.le_of_ble_eq_true hq.1
      have hsum := Nat.le_of_ble_eq_true hq.2
      unfold ev_sum at hsum
      simp only [Option.some.injEq, Sum.inr.injEq, Prod.mk.injEq] at hs
      obtain ⟨rfl, rfl, rfl, rfl, rfl⟩ := hs
      intro H locs ls hP hS hL
      have hsk : sk = (List.take x2 sk).reverse.reverse ++ List.drop x2 sk := by rw [List.reverse_reverse, List.take_append_drop]
      have hn : (List.take x2 sk).reverse.length = x2 := by simp; omega
      have hpre : PreS s H (ev_Pc D bs sa (List.take x2 sk).reverse h) (List.take x2 sk).reverse := ⟨ev_blind, ev_pre X hP hS⟩
      have hfit : ev_cn h - c0 + (ev_cn h' - ev_cn h) ≤ R.cells ∧ ev_sn h - s0 + (ev_sn h' - ev_sn h) ≤ R.slots := by omega
      rcases hl with hl | ⟨host, hl⟩
      · exact ev_back hc hs0 hmc hms (va_runS (g := F0 m pc ls sk) ⟨hx, hb, hml, hown, hts⟩ (hM T' ht') ⟨callB_of x2 hts (ev_good hcode) rfl rfl rfl (hts _ hini) (hts _ hl) hpl (hcr T' h21), hts _ hst⟩ hpre rfl hn hL.2.1 hsk (by show 2 * 0 + _ ≤ 8; omega) hd hfit) hS hL kk
      · exact ev_back hc hs0 hmc hms (va_runSN (g := F0 m pc ls sk) ⟨hx, hb, hml, hown, hts⟩ (hM T' ht') ⟨va_cnB x2 hts (ev_good hcode) rfl rfl rfl (hK.2.2.1 _ hl) (hts _ hini) hpl (hcr T' h21), hts _ hst, trivial⟩ hpre rfl hn hL.2.1 hsk (by show 2 * 0 + _ ≤ 8; omega) hd hfit) hS hL kk
    · obtain ⟨hd, rfl⟩ := hd2 (Nat.succ_ne_zero _)
      dsimp only [ev_okW] at hW
      rw [if_neg h1] at hW
      obtain ⟨T', ht', ⟨hl, hini, hcode, hpl, h21⟩, hnam, hins, hrt⟩ := hW
      unfold ev_callI at hs
      split at hs
      · rename_i b r' hdr
        obtain ⟨hq, hs⟩ := ev_cond (y := some (Sum.inr (Sum.inr (y, as, nx, lo, r)))) hs
        rw [Bool.and_eq_true] at hq
        have hlen := Nat.le_of_ble_eq_true hq.1
        have hsum := Nat.le_of_ble_eq_true hq.2
        unfold ev_sum at hsum
        simp only [Option.some.injEq, Sum.inr.injEq, Prod.mk.injEq] at hs
        obtain ⟨rfl, rfl, rfl, rfl, rfl⟩ := hs
        intro H locs ls hP hS hL
        have hsk : sk = (List.take x2 sk).reverse.reverse ++ .ref b :: r' := by rw [List.reverse_reverse, ← hdr, List.take_append_drop]
        have hn : (List.take x2 sk).reverse.length = x2 := by simp; omega
        have hpre : PreS s H (ev_Pc D bs sa (.ref b :: (List.take x2 sk).reverse) h) (.ref b :: (List.take x2 sk).reverse) := ⟨ev_blind, ev_pre X hP hS⟩
        have hfit : ev_cn h - c0 + (ev_cn h' - ev_cn h) ≤ R.cells ∧ ev_sn h - s0 + (ev_sn h' - ev_sn h) ≤ R.slots := by omega
        have hws : ev_ws T' = Cond.code T'.1.2.1 T'.1.2.2.1 T'.1.2.2.2.1 none :: ev_GW := by unfold ev_ws; rw [hrt]
        rcases hl with hl | ⟨host, hl⟩
        · exact ev_back hc hs0 hmc hms (va_runI (g := F0 m pc ls sk) ⟨hx, hb, hml, hown, hts⟩ (hM T' ht') (cwI x2 hts (ev_good hcode) hws rfl rfl (hts _ hini) (hts _ hl) (hts _ hins) hnam hpl (hcr T' h21)) hpre rfl hn hL.2.1 hsk (by show 2 * 0 + _ ≤ 8; omega) hd hfit) hS hL kk
        · exact ev_back hc hs0 hmc hms (va_runIN (g := F0 m pc ls sk) ⟨hx, hb, hml, hown, hts⟩ (hM T' ht') ⟨va_cnB x2 hts (ev_good hcode) hws rfl rfl (hK.2.2.1 _ hl) (hts _ hini) hpl (hcr T' h21), hnam, hts _ hins⟩ hpre rfl hn hL.2.1 hsk (by show 2 * 0 + _ ≤ 8; omega) hd hfit) hS hL kk
      · cases hs
    · obtain ⟨hd, rfl⟩ := hd2 (Nat.succ_ne_zero _)
      obtain ⟨T', ci, rr, ht', rfl, hrr, hcls, ⟨hl, hini, hcode, hpl, h21⟩, hins, hsel⟩ := hW
      have hs := hv9
      unfold ev_callV at hs
      split at hs
      · rename_i b r' ci' hdr hci
        cases hci
        split at hs
        · rename_i fs hfs
          obtain ⟨hq, hs⟩ := ev_cond (y := some (Sum.inr (Sum.inr (y, as, nx, lo, r)))) hs
          rw [Bool.and_eq_true] at hq
          have hlen := Nat.le_of_ble_eq_true hq.1
          have hsum := Nat.le_of_ble_eq_true hq.2
          unfold ev_sum at hsum
          simp only [Option.some.injEq, Sum.inr.injEq, Prod.mk.injEq] at hs
          obtain ⟨rfl, rfl, rfl, rfl, rfl⟩ := hs
          intro H locs ls hP hS hL
          have hsk : sk = (List.take x2 sk).reverse.reverse ++ .ref b :: r' := by rw [List.reverse_reverse, ← hdr, List.take_append_drop]
          have hn : (List.take x2 sk).reverse.length = x2 := by simp; omega
          have hrecv : ∃ cellB : Cell, H[b]? = some cellB ∧ cellB.vm.isStatics = false ∧ s.vm.findClass rr.1 = some cellB.cls := by
            obtain ⟨r2, k1, k2, cv, k3, k4, k5, k6⟩ := hP.1 b _ (ev_obj_spec hfs)
            exact ⟨cv, k3, by rw [k5]; rfl, by rw [k4]; exact (hK.1.1 ci _ hrr).2.1⟩
          have hpre : PreV s H rr.1 b (ev_Pc D bs sa (.ref b :: (List.take x2 sk).reverse) h) (List.take x2 sk).reverse := ⟨ev_blind, hrecv, ev_pre X hP hS⟩
          have hfit : ev_cn h - c0 + (ev_cn h' - ev_cn h) ≤ R.cells ∧ ev_sn h - s0 + (ev_sn h' - ev_sn h) ≤ R.slots := by omega
          rcases hl with hl | ⟨host, hl⟩
          · exact ev_back hc hs0 hmc hms (va_runV (g := F0 m pc ls sk) ⟨hx, hb, hml, hown, hts⟩ (hM T' ht') ⟨callB_of x2 hts (ev_good hcode) rfl rfl rfl (hts _ hini) (hts _ hl) hpl (hcr T' h21), hts _ hins, hts _ hsel⟩ hpre rfl hn hL.2.1 hsk (by show 2 * 0 + _ ≤ 8; omega) hd hfit) hS hL kk
          · exact ev_back hc hs0 hmc hms (va_runVN (g := F0 m pc ls sk) ⟨hx, hb, hml, hown, hts⟩ (hM T' ht') ⟨va_cnB x2 hts (ev_good hcode) rfl rfl rfl (hK.2.2.1 _ hl) (hts _ hini) hpl (hcr T' h21), hts _ hins, hts _ hsel⟩ hpre rfl hn hL.2.1 hsk (by show 2 * 0 + _ ≤ 8; omega) hd hfit) hS hL kk
        · cases hs
      · cases hs
  · cases hs
end EVC
