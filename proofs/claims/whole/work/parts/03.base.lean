/-! The evaluator's heaps and locals beside the machine's. -/
def ev_GW : List Cond := lw_tbl.filter goodWord
def ev_sts : List (String × String) := [("EnclaveMonitor$Hash", "FIRST_STATE"), ("EnclaveMonitor$Hash", "ROUND_WORDS"), ("EnclaveMonitor$Sealer", "CONSTANTS"), ("EnclaveMonitorModel", "BEGIN"), ("EnclaveMonitorModel", "ROUND")]
def ev_nq : List (String × Nat × MethodName × String) := [("EnclaveMonitor", 18, yX0_init, "EnclaveMonitor"), ("EnclaveMonitor", 25, yX2_init, "EnclaveMonitor"), ("EnclaveMonitor", 36, yX1_init, "EnclaveMonitor"), ("EnclaveMonitor$Sealer", 11, yX0_init, "EnclaveMonitor"), ("EnclaveMonitor$Runner", 37, yX4_isWithin, "EnclaveMonitor"), ("EnclaveMonitor$Page", 37, yX4_isWithin, "EnclaveMonitor")]
/-- what holds of the tables and of the static arrays at every state of the run -/
def ev_K (D : va_G) (bs : Nat) (sa : Nat → Nat) (U : State) : Prop := va_K D vwCl [] U ∧ (∀ (j : Nat) (q : String × String), ev_sts[j]? = some q → va_Z q.1 q.2 "[I" (.ref (sa j)) (fun z => bs ≤ z) U U.heap) ∧ (∀ q ∈ ev_nq, va_Nw (.methodLinkNest q.1 q.2.1 q.2.2.1 q.2.2.2) U) ∧ va_AO "EnclaveMonitor$Page" U
theorem ev_K.blind {D : va_G} {bs : Nat} {sa : Nat → Nat} {U V : State} (hv : U.vm = V.vm) (hh : U.heap = V.heap) (h : ev_K D bs sa U) : ev_K D bs sa V := by
  have ha : U.vm.Alike V.vm := by rw [hv]; exact Vm.Alike.refl V.vm
  exact ⟨va_K.moved ha h.1, fun j q hq => by rw [← hh]; exact va_Z.moved ha (h.2.1 j q hq), fun q hq => va_Nw.same rfl hv (h.2.2.1 q hq), va_AO.moved ha h.2.2.2⟩
theorem ev_K.warm {D : va_G} {bs : Nat} {sa : Nat → Nat} {s U : State} {H : Heap} {locs : List Loc} (hW : s.WarmedH U.vm) (hS : va_S (fun q => bs ≤ q) s.heap H locs) (hU : U.heap = H) (h : ev_K D bs sa s) : ev_K D bs sa U := by
  refine ⟨va_K.moved hW.alike h.1, fun j q hq => ?_, fun q hq => va_Nw.warmM hW (h.2.2.1 q hq), va_AO.moved hW.alike h.2.2.2⟩
  have h1 := va_Z.moved hW.alike (h.2.1 j q hq)
  rw [hU]
  exact va_Z.kept h1 (fun a ha hn => hS.2.1 a ha hn)
def ev_AR (U : State) (a : Nat) (ty : FieldType) (n : Nat) (g : Nat → Value) (H : Heap) : Prop := ∃ cell : Cell, H[a]? = some cell ∧ U.isArrayOf cell ty ∧ cell.vm ≠ .unknown ∧ (n ≤ cell.slots.size ∧ cell.slots.size.toInt32 = Int32.ofNat n) ∧ ∀ j, j < n → cell.slots[j]? = some (g j)
def ev_RR (D : va_G) (U : State) (a : Nat) (H : Heap) : Prop := ∃ (cell : Cell) (k : Class), H[a]? = some cell ∧ U.vm.classes[cell.cls]? = some k ∧ k.kind = .array (D.1 1) (.object "EnclaveMonitor$Page")
def ev_CR (D : va_G) (U : State) (a : Nat) (o : e_O) (H : Heap) : Prop := match o with
  | .inl x => ∃ r : vw_C, vwCl[x.1]? = some r ∧ x.2.length = r.2.2 ∧ t_OB a (D.1 x.1) r.2.2 (D.2 x.1) H (vp_V x.2)
  | .inr (.inl x) => ev_AR U a .int x.1 (fun j => .int (x.2 j)) H
  | .inr (.inr (.inl x)) => ev_AR U a .long x.1 (fun j => .long (x.2 j)) H
  | .inr (.inr (.inr x)) => ev_AR U a (.object "EnclaveMonitor$Page") x.1 (fun j => va_rf (x.2 j)) H ∧ ev_RR D U a H
def ev_P (D : va_G) (U : State) (h : e_H) (H : Heap) : Prop := (∀ a o, h.1 a = some o → ev_CR D U a o H) ∧ ∀ z u, h.2 = some (z, u) → H.size = z
theorem ev_AR.moved {u U : State} {a n : Nat} {ty : FieldType} {g : Nat → Value} {H : Heap} (hvm : u.vm.Alike U.vm) (h : ev_AR u a ty n g H) : ev_AR U a ty n g H := by
  obtain ⟨cell, h1, h2, h3⟩ := h
  exact ⟨cell, h1, State.isArrayOf_alike hvm h2, h3⟩
theorem ev_RR.moved {D : va_G} {u U : State} {a : Nat} {H : Heap} (hvm : u.vm.Alike U.vm) (h : ev_RR D u a H) : ev_RR D U a H := by
  obtain ⟨cell, k, h1, h2, h3⟩ := h
  obtain ⟨k', hk', he⟩ := hvm.2.2 _ _ h2
  exact ⟨cell, k', h1, hk', by rw [he]; exact h3⟩
theorem ev_CR.moved {D : va_G} {u U : State} {a : Nat} {o : e_O} {H : Heap} (hvm : u.vm.Alike U.vm) (h : ev_CR D u a o H) : ev_CR D U a o H := by
  match o, h with
  | .inl x, h => exact h
  | .inr (.inl x), h => exact ev_AR.moved hvm h
  | .inr (.inr (.inl x)), h => exact ev_AR.moved hvm h
  | .inr (.inr (.inr x)), h => exact ⟨ev_AR.moved hvm h.1, ev_RR.moved hvm h.2⟩
theorem ev_CR.kept {D : va_G} {U : State} {a : Nat} {o : e_O} {H H1 : Heap} (hq : H1[a]? = H[a]?) (h : ev_CR D U a o H) : ev_CR D U a o H1 := by
  match o, h with
  | .inl x, h => obtain ⟨r, h1, h2, h3⟩ := h; exact ⟨r, h1, h2, h3.kept hq⟩
  | .inr (.inl x), h => obtain ⟨c, h1, h2⟩ := h; exact ⟨c, by rw [hq]; exact h1, h2⟩
  | .inr (.inr (.inl x)), h => obtain ⟨c, h1, h2⟩ := h; exact ⟨c, by rw [hq]; exact h1, h2⟩
  | .inr (.inr (.inr x)), h => obtain ⟨⟨c, h1, h2⟩, ⟨c2, k, g1, g2⟩⟩ := h; exact ⟨⟨c, by rw [hq]; exact h1, h2⟩, ⟨c2, k, by rw [hq]; exact g1, g2⟩⟩
theorem ev_CR.lt {D : va_G} {U : State} {a : Nat} {o : e_O} {H : Heap} (h : ev_CR D U a o H) : a < H.size := by
  have key : ∀ {c : Cell}, H[a]? = some c → a < H.size := fun h => (Array.getElem?_eq_some_iff.mp h).1
  match o, h with
  | .inl x, h => obtain ⟨r, h1, h2, c, h3, h4⟩ := h; exact key h3
  | .inr (.inl x), h => obtain ⟨c, h1, h2⟩ := h; exact key h1
  | .inr (.inr (.inl x)), h => obtain ⟨c, h1, h2⟩ := h; exact key h1
  | .inr (.inr (.inr x)), h => obtain ⟨⟨c, h1, h2⟩, h3⟩ := h; exact key h1
theorem ev_P.moved {D : va_G} {u U : State} {h : e_H} {H : Heap} (hvm : u.vm.Alike U.vm) (hP : ev_P D u h H) : ev_P D U h H := ⟨fun a o ha => ev_CR.moved hvm (hP.1 a o ha), hP.2⟩
theorem ev_up_1 (h : e_H) (a : Nat) (o : e_O) (b : Nat) : (ev_up h a o).1 b = if b = a then some o else h.1 b := by
  by_cases hb : b = a
  · subst hb; simp [ev_up]
  · rw [if_neg hb]
    have : Nat.beq b a = false := by
      cases hq : Nat.beq b a with
      | false => rfl
      | true => exact absurd (Nat.eq_of_beq_eq_true hq) hb
    simp [ev_up, this]
theorem ev_P.put {D : va_G} {U : State} {h : e_H} {H H1 : Heap} {a : Nat} {o : e_O} (hP : ev_P D U h H) (hz : H1.size = H.size) (hq : ∀ q, q ≠ a → H1[q]? = H[q]?) (hc : ev_CR D U a o H1) : ev_P D U (ev_up h a o) H1 := by
  refine ⟨fun b x hb => ?_, fun z u hu => hz.trans (hP.2 z u hu)⟩
  rw [ev_up_1] at hb
  by_cases e : b = a
  · rw [if_pos e] at hb; cases hb; rw [e]; exact hc
  · rw [if_neg e] at hb; exact ev_CR.kept (hq b e) (hP.1 b x hb)
theorem ev_P.new {D : va_G} {U : State} {h h' : e_H} {H H1 : Heap} {o : e_O} {n z : Nat} (hP : ev_P D U h H) (hn : ev_new h o n = some (z, h')) (hz : H1.size = H.size + 1) (hq : ∀ q, q < H.size → H1[q]? = H[q]?) (hc : ev_CR D U H.size o H1) : z = H.size ∧ ev_P D U h' H1 ∧ ∃ w u, h.2 = some (w, u) ∧ h'.2 = some (w + 1, u + n) := by
  unfold ev_new at hn
  split at hn
  · rename_i w u hw
    have hs := hP.2 w u hw
    simp only [Option.some.injEq, Prod.mk.injEq] at hn
    obtain ⟨rfl, rfl⟩ := hn
    refine ⟨hs.symm, ⟨fun b x hb => ?_, fun z9 u9 hu => ?_⟩, w, u, hw, rfl⟩
    · dsimp only at hb
      by_cases e : b = w
      · subst e
        have : Nat.beq b b = true := by simp
        rw [this] at hb; cases hb; rw [← hs]; exact hc
      · have : Nat.beq b w = false := by
          cases hq9 : Nat.beq b w with
          | false => rfl
          | true => exact absurd (Nat.eq_of_beq_eq_true hq9) e
        rw [this] at hb
        have hb : h.1 b = some x := hb
        exact ev_CR.kept (hq b (hP.1 b x hb).lt) (hP.1 b x hb)
    · have e2 : some (w + 1, u + n) = some (z9, u9) := hu
      simp only [Option.some.injEq, Prod.mk.injEq] at e2
      rw [hz, hs]; exact e2.1
  · cases hn
theorem ev_AR.store {U : State} {a n : Nat} {ty : FieldType} {g g' : Nat → Value} {H H1 : Heap} {cell : Cell} {j : Nat} {w : Value} (h0 : H[a]? = some cell) (h1 : U.isArrayOf cell ty) (h2 : cell.vm ≠ .unknown) (h3 : n ≤ cell.slots.size ∧ cell.slots.size.toInt32 = Int32.ofNat n) (h4 : ∀ j, j < n → cell.slots[j]? = some (g j)) (hj : j < n) (hH : H1[a]? = some (cell.setSlot j w)) (hg : ∀ k, k < n → g' k = if k = j then w else g k) : ev_AR U a ty n g' H1 := by
  have es : (cell.setSlot j w).slots.size = cell.slots.size := by simp [Cell.setSlot]
  refine ⟨_, hH, h1, h2, by rw [es]; exact h3, fun k hk => ?_⟩
  rw [hg k hk]
  by_cases e : k = j
  · subst e; rw [if_pos rfl]; simp [Cell.setSlot, Nat.lt_of_lt_of_le hk h3.1]
  · rw [if_neg e, ← h4 k hk]; simp [Cell.setSlot, Array.getElem?_setIfInBounds_ne (fun q => e q.symm)]
/-- the locals -/
def ev_LR (ls : Array Slot) (nL : Nat) (lo : e_L) : Prop := lo.length = nL ∧ ls.size = nL ∧ lv_wf ls ∧ ∀ (i : Nat) (v : Value), lo[i]? = some (some v) → ls[i]? = some (.val v)
def ev_ll (lo : e_L) : List (Nat × Value) := (List.range lo.length).filterMap fun i => match lo[i]? with
  | some (some v) => some (i, v)
  | _ => none
theorem ev_ll_mem {lo : e_L} {i : Nat} {v : Value} : (i, v) ∈ ev_ll lo ↔ lo[i]? = some (some v) := by
  unfold ev_ll
  rw [List.mem_filterMap]
  constructor
  · rintro ⟨j, -, hj⟩
    split at hj
    · rename_i w hw
      simp only [Option.some.injEq, Prod.mk.injEq] at hj
      obtain ⟨rfl, rfl⟩ := hj
      exact hw
    · cases hj
  · intro h
    refine ⟨i, List.mem_range.mpr (List.getElem?_eq_some_iff.mp h).1, ?_⟩
    rw [h]
theorem ev_LR.has {ls : Array Slot} {nL : Nat} {lo : e_L} (h : ev_LR ls nL lo) : lv_has ls nL (ev_ll lo) := ⟨h.2.1, h.2.2.1, fun q hq => h.2.2.2 q.1 q.2 (ev_ll_mem.mp hq)⟩
theorem ev_nc_spec {lo : e_L} {i j : Nat} {v : Value} (hn : ev_nc lo i = true) (h : lo[j]? = some (some v)) : ¬ (j + 1 = i ∧ v.category = 2) := by
  rintro ⟨rfl, hc⟩
  have hn : ev_nc1 lo j = true := hn
  unfold ev_nc1 at hn
  rw [h] at hn
  have := Nat.eq_of_beq_eq_true hn
  omega
theorem ev_LR.st1 {ls' : Array Slot} {nL i : Nat} {lo : e_L} {w : Value} (hlen : lo.length = nL) (hi : i < nL) (hnc : ev_nc lo i = true) (h : lv_has ls' nL ((i, w) :: (ev_ll lo).filter (fun q => !(q.1 == i) && !(q.1 + 1 == i && q.2.category == 2)))) : ev_LR ls' nL (lo.set i (some w)) := by
  refine ⟨by rw [List.length_set]; exact hlen, h.1, h.2.1, fun j v hj => ?_⟩
  by_cases e : j = i
  · subst e
    rw [List.getElem?_set_self (by omega)] at hj
    cases hj
    exact h.2.2 (j, w) List.mem_cons_self
  · rw [List.getElem?_set_ne (fun q => e q.symm)] at hj
    have h2 := ev_nc_spec hnc hj
    refine h.2.2 (j, v) (List.mem_cons_of_mem _ (List.mem_filter.mpr ⟨ev_ll_mem.mpr hj, ?_⟩))
    simp only [Bool.and_eq_true, Bool.not_eq_true', beq_eq_false_iff_ne, ne_eq, Bool.and_eq_false_iff]
    refine ⟨e, ?_⟩
    by_cases q : j + 1 = i
    · exact Or.inr (fun z => h2 ⟨q, z⟩)
    · exact Or.inl q
theorem ev_LR.st2 {ls' : Array Slot} {nL i : Nat} {lo : e_L} {x : Int64} (hlen : lo.length = nL) (hi : i + 1 < nL) (hnc : ev_nc lo i = true) (h : lv_has ls' nL ((i, Value.long x) :: (ev_ll lo).filter (fun q => !(q.1 == i) && (!(q.1 == i + 1) && !(q.1 + 1 == i && q.2.category == 2))))) : ev_LR ls' nL ((lo.set i (some (.long x))).set (i + 1) none) := by
  refine ⟨by rw [List.length_set, List.length_set]; exact hlen, h.1, h.2.1, fun j v hj => ?_⟩
  by_cases e1 : j = i + 1
  · subst e1
    rw [List.getElem?_set_self (by rw [List.length_set]; omega)] at hj
    cases hj
  · rw [List.getElem?_set_ne (fun q => e1 q.symm)] at hj
    by_cases e : j = i
    · subst e
      rw [List.getElem?_set_self (by omega)] at hj
      cases hj
      exact h.2.2 (j, .long x) List.mem_cons_self
    · rw [List.getElem?_set_ne (fun q => e q.symm)] at hj
      have h2 := ev_nc_spec hnc hj
      refine h.2.2 (j, v) (List.mem_cons_of_mem _ (List.mem_filter.mpr ⟨ev_ll_mem.mpr hj, ?_⟩))
      simp only [Bool.and_eq_true, Bool.not_eq_true', beq_eq_false_iff_ne, ne_eq, Bool.and_eq_false_iff]
      refine ⟨e, e1, ?_⟩
      by_cases q : j + 1 = i
      · exact Or.inr (fun z => h2 ⟨q, z⟩)
      · exact Or.inl q
theorem ev_LR.entry (vs : List Value) {n : Nat} (h : (ev_args vs).length ≤ n) : ev_LR ((lg_sl vs ++ List.replicate (n - (lg_sl vs).length) Slot.unset).toArray) n (ev_loc n vs) := by
  have key : ∀ vs : List Value, (lg_sl vs).length = (ev_args vs).length ∧ ∀ (i : Nat) (v : Value), (ev_args vs)[i]? = some (some v) → (lg_sl vs)[i]? = some (.val v) := by
    intro vs
    induction vs with
    | nil => exact ⟨rfl, fun i v hi => by simp [ev_args] at hi⟩
    | cons w r ih =>
      have e1 : lg_sl (w :: r) = (if w.category = 2 then [Slot.val w, .second] else [.val w]) ++ lg_sl r := rfl
      have e2 : ev_args (w :: r) = (if w.category = 2 then [some w, none] else [some w]) ++ ev_args r := rfl
      rw [e1, e2]
      by_cases hc : w.category = 2
      · rw [if_pos hc, if_pos hc]
        refine ⟨by simp [ih.1], fun i v hi => ?_⟩
        match i, hi with
        | 0, hi => simp at hi; simp [hi]
        | 1, hi => simp at hi
        | i + 2, hi => simp at hi ⊢; exact ih.2 i v hi
      · rw [if_neg hc, if_neg hc]
        refine ⟨by simp [ih.1], fun i v hi => ?_⟩
        match i, hi with
        | 0, hi => simp at hi; simp [hi]
        | i + 1, hi => simp at hi ⊢; exact ih.2 i v hi
  obtain ⟨k1, k2⟩ := key vs
  have hv := lv_entry vs (n := n) (by rw [k1]; exact h)
  refine ⟨by simp [ev_loc]; omega, hv.1, hv.2.1, fun i v hi => ?_⟩
  unfold ev_loc at hi
  have hi2 : (ev_args vs)[i]? = some (some v) := by
    by_cases hl : i < (ev_args vs).length
    · rw [List.getElem?_append_left hl] at hi; exact hi
    · rw [List.getElem?_append_right (by omega), List.getElem?_replicate] at hi
      split at hi <;> simp at hi
  have h3 := k2 i v hi2
  simp only [List.getElem?_toArray]
  rw [List.getElem?_append_left (List.getElem?_eq_some_iff.mp h3).1]
  exact h3
def ev_cn (h : e_H) : Nat := match h.2 with
  | some (z, _) => z
  | none => 0
def ev_sn (h : e_H) : Nat := match h.2 with
  | some (_, u) => u
  | none => 0
