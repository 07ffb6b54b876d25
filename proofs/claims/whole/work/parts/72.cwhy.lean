theorem map_fact {H : e_H} : ∀ {as1 : List Nat} {os1 : List e_O}, as1.map H.1 = os1.map some → as1.length = os1.length ∧ ∀ (q a : Nat) (o : e_O), as1[q]? = some a → os1[q]? = some o → H.1 a = some o
  | [], [], _ => ⟨rfl, fun q a o h1 _ => by simp at h1⟩
  | [], o :: os, h => by simp at h
  | a :: as, [], h => by simp at h
  | a :: as, o :: os, h => by
    simp only [List.map_cons, List.cons.injEq] at h
    obtain ⟨l, f⟩ := map_fact h.2
    refine ⟨by simp [l], fun q b p h1 h2 => ?_⟩
    match q with
    | 0 => simp at h1 h2; subst h1; subst h2; exact h.1
    | q + 1 => simp at h1 h2; exact f q b p h1 h2
theorem RUN.same {bs : Nat} {sa : Nat → Nat} {d y : Nat} {avs : List Value} {rv : Option Value} {as1 : List Nat} {os1 : List e_O} {H : e_H} (hr : ∀ h0, ev_run tbs bs sa d y avs (wd as1 os1 h0) rv (wd as1 os1 h0)) (hn : as1.Nodup) (hf : as1.map H.1 = os1.map some) : ev_run tbs bs sa d y avs H rv H := by
  obtain ⟨hl, h1⟩ := map_fact hf
  exact RUN.lift hr hn hl h1 (wd_self hn hl h1)
theorem RUN.to {bs : Nat} {sa : Nat → Nat} {d y : Nat} {avs : List Value} {rv : Option Value} {as1 : List Nat} {os1 os2 : List e_O} {H H' : e_H} (hr : ∀ h0, ev_run tbs bs sa d y avs (wd as1 os1 h0) rv (wd as1 os2 h0)) (hn : as1.Nodup) (hf : as1.map H.1 = os1.map some) (h2 : wd as1 os2 H = H') : ev_run tbs bs sa d y avs H rv H' := by
  obtain ⟨hl, h1⟩ := map_fact hf
  exact RUN.lift hr hn hl h1 h2
def cW (B P : Nat) (w : Nat → Nat → Int32) (H : e_H) : Prop := ∀ k, k < P → H.1 (B + 11 + 3 * k) = some (.inr (.inl (32, w k)))
def cM (B P : Nat) (ms : Nat → Nat → Int32) (H : e_H) : Prop := ∀ k, k < P → H.1 (B + 12 + 3 * k) = some (.inr (.inl (8, ms k)))
theorem nd2 {a b : Nat} (h : a ≠ b) : [a, b].Nodup := by simp [h]
section CWY
variable {bs : Nat} {sa : Nat → Nat}
theorem c_isSaved (d B P : Nat) (F w : Nat → Nat → Int32) (H : e_H) (hR : cR B P F H) (hW : cW B P w H) (k : Nat) (hk : k < P) :
    ev_run tbs bs sa (d + 1) 12 [.ref (B + 10 + 3 * k)] H (some (.int (if F 0 k = 2 ∧ w k 1 ≠ 0 then 1 else 0))) H :=
  RUN.same (as1 := [B + 10 + 3 * k, B + 11 + 3 * k]) (os1 := [.inl (1, pfs B F k), .inr (.inl (32, w k))]) (fun h0 => r_isSaved d _ _ _ _ _ _ _ _ _ _ h0 (nd2 (by omega))) (nd2 (by omega)) (by simp [hR.2.2 k hk, hW k hk])
theorem c_numberIn (d B P : Nat) (F w : Nat → Nat → Int32) (H : e_H) (hR : cR B P F H) (hW : cW B P w H) (k : Nat) (hk : k < P) (j : Nat) (hj : j < 16) :
    ev_run tbs bs sa (d + 2) 14 [.ref (B + 10 + 3 * k), .int (nI j)] H (some (.long (jn (w k (2 * j)) (w k (2 * j + 1))))) H :=
  RUN.same (as1 := [B + 10 + 3 * k, B + 11 + 3 * k]) (os1 := [.inl (1, pfs B F k), .inr (.inl (32, w k))]) (fun h0 => r_numberIn d _ _ j _ _ _ h0 (nd2 (by omega)) hj) (nd2 (by omega)) (by simp [hR.2.2 k hk, hW k hk])
theorem c_whyNotAdded (d B P : Nat) (hP : P ≤ 40) (F : Nat → Nat → Int32) (H : e_H) (hR : cR B P F H) (e p : Int32) :
    ev_run tbs bs sa (d + 4) 59 [.ref B, .int e, .int p] H (some (.int (if ty P F e 1 ∧ ty P F p 0 then if F 5 (cn e) = 0 then 0 else 2 else 1))) H := by
  have hR' := hR
  obtain ⟨⟨fs, hB⟩, hA, hp⟩ := hR
  refine RUN.mk (T := t_X4_whyNotAdded) rfl (Nat.le_of_ble_eq_true rfl) ?_
  repeat refine EV.s rfl rfl rfl ?_
  refine EV.cv rfl rfl (hB) (Nat.le_of_ble_eq_true rfl) (Nat.le_of_ble_eq_true rfl) (c_isOfType (d + 1) B P hP F H hR' e 1) ?_
  by_cases he : ty P F e 1
  rotate_left
  · rw [iso_n he, if_neg (fun z => he z.1)]
    refine EV.ifT rfl (by decide) ?_
    repeat refine EV.s rfl rfl rfl ?_
    refine EV.ri rfl rfl ?_
    rfl
  rw [iso_y he]
  refine EV.ifF rfl (by decide) ?_
  repeat refine EV.s rfl rfl rfl ?_
  refine EV.cv rfl rfl (hB) (Nat.le_of_ble_eq_true rfl) (Nat.le_of_ble_eq_true rfl) (c_isOfType (d + 1) B P hP F H hR' p 0) ?_
  by_cases hp : ty P F p 0
  rotate_left
  · rw [iso_n hp, if_neg (fun z => hp z.2)]
    refine EV.ifF rfl (by decide) ?_
    repeat refine EV.s rfl rfl rfl ?_
    refine EV.ri rfl rfl ?_
    rfl
  rw [iso_y hp, if_pos ⟨he, hp⟩]
  refine EV.ifT rfl (by decide) ?_
  repeat refine EV.s rfl rfl rfl ?_
  refine EV.cv rfl rfl (hB) (Nat.le_of_ble_eq_true rfl) (Nat.le_of_ble_eq_true rfl) (c_stateOf d B P hP F H hR' e) ?_
  rw [sto, if_pos he]
  by_cases h5 : F 5 (cn e) = 0
  · rw [if_pos h5]
    refine EV.ifF rfl (decide_eq_false (fun z => z h5)) ?_
    repeat refine EV.s rfl rfl rfl ?_
    refine EV.ri rfl rfl ?_
    rfl
  · rw [if_neg h5]
    refine EV.ifT rfl (decide_eq_true h5) ?_
    repeat refine EV.s rfl rfl rfl ?_
    refine EV.ri rfl rfl ?_
    rfl
theorem c_isRemovable (d B P : Nat) (hP : P ≤ 40) (F : Nat → Nat → Int32) (H : e_H) (hR : cR B P F H) (j : Nat) (hj : j < P) :
    ev_run tbs bs sa (d + 4) 61 [.ref B, .int (nI j)] H (some (.int (if rmv P F (nI j) then 1 else 0))) H := by
  have hR' := hR
  obtain ⟨⟨fs, hB⟩, hA, hp⟩ := hR
  have hin : inI (nI j) P := ⟨nI_pos' (by omega), nI_lt hj (by omega)⟩
  refine RUN.mk (T := t_X4_isRemovable) rfl (Nat.le_of_ble_eq_true rfl) ?_
  repeat refine EV.s rfl rfl rfl ?_
  refine EV.get rfl (hB) rfl ?_
  repeat refine EV.s rfl rfl rfl ?_
  refine EV.aald (j := j) rfl hA (rfl) (by omega) (by omega) ?_
  refine EV.get rfl (hp j hj) rfl ?_
  repeat refine EV.s rfl rfl rfl ?_
  by_cases h1 : F 0 j = 1
  · have hr : rmv P F (nI j) ↔ F 5 j = 2 ∧ cnt (F 1) (nI j) P = 0 := by
      unfold rmv
      rw [cnI (by omega), if_pos h1]
    refine EV.icF rfl (decide_eq_false (fun z => z h1)) ?_
    repeat refine EV.s rfl rfl rfl ?_
    refine EV.cv rfl rfl (hB) (Nat.le_of_ble_eq_true rfl) (Nat.le_of_ble_eq_true rfl) (c_stateOf d B P hP F H hR' (nI j)) ?_
    have hst : sto P F (nI j) = F 5 j := by
      have ht : ty P F (nI j) 1 := ⟨hin.1, hin.2, by rw [cnI (by omega)]; exact h1⟩
      rw [sto, if_pos ht, cnI (by omega)]
    rw [hst]
    repeat refine EV.s rfl rfl rfl ?_
    by_cases h5 : F 5 j = 2
    · refine EV.icF rfl (decide_eq_false (fun z => z h5)) ?_
      repeat refine EV.s rfl rfl rfl ?_
      refine EV.cv rfl rfl (hB) (Nat.le_of_ble_eq_true rfl) (Nat.le_of_ble_eq_true rfl) (c_ownedBy (d + 2) B P hP F H hR' (nI j)) ?_
      by_cases hc : cnt (F 1) (nI j) P = 0
      · rw [if_pos (hr.mpr ⟨h5, hc⟩)]
        refine EV.ifF rfl (decide_eq_false (fun z => z hc)) ?_
        repeat refine EV.s rfl rfl rfl ?_
        refine EV.ret rfl ?_
        rfl
      · rw [if_neg (fun z => hc (hr.mp z).2)]
        refine EV.ifT rfl (decide_eq_true hc) ?_
        repeat refine EV.s rfl rfl rfl ?_
        refine EV.ret rfl ?_
        rfl
    · rw [if_neg (fun z => h5 (hr.mp z).1)]
      refine EV.icT rfl (decide_eq_true h5) ?_
      repeat refine EV.s rfl rfl rfl ?_
      refine EV.ret rfl ?_
      rfl
  · refine EV.icT rfl (decide_eq_true h1) ?_
    repeat refine EV.s rfl rfl rfl ?_
    by_cases h4 : F 0 j = 4
    · rw [if_pos (by unfold rmv; rw [cnI (by omega), if_neg h1]; exact Or.inl h4)]
      refine EV.icT rfl (decide_eq_true h4) ?_
      repeat refine EV.s rfl rfl rfl ?_
      refine EV.ret rfl ?_
      rfl
    · have hr : rmv P F (nI j) ↔ ty P F (F 1 j) 1 ∧ F 5 (cn (F 1 j)) = 2 := by
        unfold rmv
        rw [cnI (by omega), if_neg h1]
        constructor
        · intro z
          rcases z with z | z
          · exact absurd z h4
          · exact z
        · exact Or.inr
      refine EV.icF rfl (decide_eq_false h4) ?_
      repeat refine EV.s rfl rfl rfl ?_
      refine EV.get rfl (hB) rfl ?_
      repeat refine EV.s rfl rfl rfl ?_
      refine EV.aald (j := j) rfl hA (rfl) (by omega) (by omega) ?_
      refine EV.get rfl (hp j hj) rfl ?_
      refine EV.cv rfl rfl (hB) (Nat.le_of_ble_eq_true rfl) (Nat.le_of_ble_eq_true rfl) (c_stateOf d B P hP F H hR' (F 1 j)) ?_
      repeat refine EV.s rfl rfl rfl ?_
      by_cases hs : sto P F (F 1 j) = 2
      · have ht : ty P F (F 1 j) 1 := by
          by_cases q : ty P F (F 1 j) 1
          · exact q
          · rw [sto, if_neg q] at hs; exact absurd hs (by decide)
        have h5 : F 5 (cn (F 1 j)) = 2 := by rw [sto, if_pos ht] at hs; exact hs
        rw [if_pos (hr.mpr ⟨ht, h5⟩)]
        refine EV.icF rfl (decide_eq_false (fun z => z hs)) ?_
        repeat refine EV.s rfl rfl rfl ?_
        refine EV.ret rfl ?_
        rfl
      · rw [if_neg (fun z => hs (by have := hr.mp z; rw [sto, if_pos this.1]; exact this.2))]
        refine EV.icT rfl (decide_eq_true hs) ?_
        repeat refine EV.s rfl rfl rfl ?_
        refine EV.ret rfl ?_
        rfl
theorem sto_fin {P : Nat} {F : Nat → Nat → Int32} {e : Int32} : sto P F e = 1 ↔ fin1 P F e := by
  unfold sto fin1
  by_cases q : ty P F e 1
  · rw [if_pos q]; exact ⟨fun z => ⟨q, z⟩, fun z => z.2⟩
  · rw [if_neg q]; exact ⟨fun z => absurd z (by decide), fun z => absurd z.1 q⟩
theorem c_whyNotRun (d B P : Nat) (hP : P ≤ 40) (F w : Nat → Nat → Int32) (H : e_H) (hR : cR B P F H) (hW : cW B P w H) (p sv n : Int32) :
    ev_run tbs bs sa (d + 4) 62 [.ref B, .int p, .int sv, .int n] H (some (.int (if ty P F p 2 then if fin1 P F (F 1 (cn p)) ∧ (if w (cn p) 1 ≠ 0 then (1 : Int32) else 0) = sv then if inI n 5001 then 0 else 6 else 2 else 1))) H := by
  have hR' := hR
  obtain ⟨⟨fs, hB⟩, hA, hp⟩ := hR
  refine RUN.mk (T := t_X4_whyNotRun) rfl (Nat.le_of_ble_eq_true rfl) ?_
  repeat refine EV.s rfl rfl rfl ?_
  refine EV.cv rfl rfl (hB) (Nat.le_of_ble_eq_true rfl) (Nat.le_of_ble_eq_true rfl) (c_isOfType (d + 1) B P hP F H hR' p 2) ?_
  by_cases ht : ty P F p 2
  rotate_left
  · rw [iso_n ht, if_neg ht]
    refine EV.ifF rfl (by decide) ?_
    repeat refine EV.s rfl rfl rfl ?_
    refine EV.ri rfl rfl ?_
    rfl
  rw [iso_y ht, if_pos ht]
  obtain ⟨j, hj, rfl, ht2⟩ := ty_j hP ht
  rw [cnI (by omega)]
  refine EV.ifT rfl (by decide) ?_
  repeat refine EV.s rfl rfl rfl ?_
  refine EV.get rfl (hB) rfl ?_
  repeat refine EV.s rfl rfl rfl ?_
  refine EV.aald (j := j) rfl hA (rfl) (by omega) (by omega) ?_
  repeat refine EV.s rfl rfl rfl ?_
  refine EV.get rfl (hp j hj) rfl ?_
  refine EV.cv rfl rfl (hB) (Nat.le_of_ble_eq_true rfl) (Nat.le_of_ble_eq_true rfl) (c_stateOf d B P hP F H hR' (F 1 j)) ?_
  repeat refine EV.s rfl rfl rfl ?_
  by_cases hs : sto P F (F 1 j) = 1
  rotate_left
  · rw [if_neg (fun z => hs (sto_fin.mpr z.1))]
    refine EV.icT rfl (decide_eq_true hs) ?_
    repeat refine EV.s rfl rfl rfl ?_
    refine EV.ri rfl rfl ?_
    rfl
  refine EV.icF rfl (decide_eq_false (fun z => z hs)) ?_
  repeat refine EV.s rfl rfl rfl ?_
  refine EV.cv rfl rfl (hp j hj) (Nat.le_of_ble_eq_true rfl) (Nat.le_of_ble_eq_true rfl) (c_isSaved (d + 2) B P F w H hR' hW j hj) ?_
  have e1 : (if F 0 j = 2 ∧ w j 1 ≠ 0 then (1 : Int32) else 0) = if w j 1 ≠ 0 then 1 else 0 := by
    by_cases q : w j 1 = 0
    · rw [if_neg (fun z => z.2 q), if_neg (fun z => z q)]
    · rw [if_pos ⟨ht2, q⟩, if_pos q]
  rw [e1]
  repeat refine EV.s rfl rfl rfl ?_
  by_cases hv : (if w j 1 ≠ 0 then (1 : Int32) else 0) = sv
  rotate_left
  · rw [if_neg (fun z => hv z.2)]
    refine EV.icF rfl (decide_eq_false hv) ?_
    repeat refine EV.s rfl rfl rfl ?_
    refine EV.ri rfl rfl ?_
    rfl
  rw [if_pos ⟨sto_fin.mp hs, hv⟩]
  refine EV.icT rfl (decide_eq_true hv) ?_
  repeat refine EV.s rfl rfl rfl ?_
  by_cases hn : inI n 5001
  rotate_left
  · rw [if_neg hn]
    refine EV.ifc rfl (fun hb => ?_) (fun hb => ?_)
    · repeat refine EV.s rfl rfl rfl ?_
      refine EV.ri rfl rfl ?_
      rfl
    · repeat refine EV.s rfl rfl rfl ?_
      refine EV.icF rfl (decide_eq_false (le1023 (n := 5000) (by decide) hn (of_decide_eq_false hb))) ?_
      repeat refine EV.s rfl rfl rfl ?_
      refine EV.ri rfl rfl ?_
      rfl
  rw [if_pos hn]
  obtain ⟨N, hN, rfl⟩ := in_nI (by decide) hn
  refine EV.ifF rfl (decide_eq_false (nI_pos (by omega))) ?_
  repeat refine EV.s rfl rfl rfl ?_
  refine EV.icT rfl (decide_eq_true (nI_le (b := 5000) (by omega) (by decide))) ?_
  repeat refine EV.s rfl rfl rfl ?_
  refine EV.ri rfl rfl ?_
  rfl
theorem c_whyNotEvicted (d B P : Nat) (hP : P ≤ 40) (F w : Nat → Nat → Int32) (H : e_H) (hR : cR B P F H) (hW : cW B P w H) (p v sl : Int32) :
    ev_run tbs bs sa (d + 4) 64 [.ref B, .int p, .int v, .int sl] H (some (.int (if (ty P F p 2 ∨ ty P F p 3) ∧ ty P F v 4 then if fin1 P F (F 1 (cn p)) then if inI sl 16 ∧ jn (w (cn v) (2 * cn sl)) (w (cn v) (2 * cn sl + 1)) = 0 then 0 else 3 else 2 else 1))) H := by
  have hR' := hR
  obtain ⟨⟨fs, hB⟩, hA, hp⟩ := hR
  refine RUN.mk (T := t_X4_whyNotEvicted) rfl (Nat.le_of_ble_eq_true rfl) ?_
  repeat refine EV.s rfl rfl rfl ?_
  have no : ¬ ((ty P F p 2 ∨ ty P F p 3) ∧ ty P F v 4) → ∀ l4, ev_E tbs bs sa (d + 3) t_X4_whyNotEvicted (fun x => x = .inr (some (.int (if (ty P F p 2 ∨ ty P F p 3) ∧ ty P F v 4 then if fin1 P F (F 1 (cn p)) then if inI sl 16 ∧ jn (w (cn v) (2 * cn sl)) (w (cn v) (2 * cn sl + 1)) = 0 then 0 else 3 else 2 else 1)), H)) (39, [some (.ref B), some (.int p), some (.int v), some (.int sl), l4, none], [], H) := by
    intro hn l4
    rw [if_neg hn]
    repeat refine EV.s rfl rfl rfl ?_
    refine EV.ri rfl rfl ?_
    rfl
  have yes : (ty P F p 2 ∨ ty P F p 3) → ev_E tbs bs sa (d + 3) t_X4_whyNotEvicted (fun x => x = .inr (some (.int (if (ty P F p 2 ∨ ty P F p 3) ∧ ty P F v 4 then if fin1 P F (F 1 (cn p)) then if inI sl 16 ∧ jn (w (cn v) (2 * cn sl)) (w (cn v) (2 * cn sl + 1)) = 0 then 0 else 3 else 2 else 1)), H)) (18, [some (.ref B), some (.int p), some (.int v), some (.int sl), none, none], [], H) := by
    intro hg
    repeat refine EV.s rfl rfl rfl ?_
    refine EV.ifF rfl (by decide) ?_
    repeat refine EV.s rfl rfl rfl ?_
    refine EV.cv rfl rfl (hB) (Nat.le_of_ble_eq_true rfl) (Nat.le_of_ble_eq_true rfl) (c_isOfType (d + 1) B P hP F H hR' v 4) ?_
    by_cases hv : ty P F v 4
    rotate_left
    · rw [iso_n hv]
      refine EV.ifF rfl (by decide) ?_
      exact no (fun z => hv z.2) _
    rw [iso_y hv, if_pos ⟨hg, hv⟩]
    refine EV.ifT rfl (by decide) ?_
    clear no
    have hpj : ∃ j, j < P ∧ p = nI j := by
      rcases hg with z | z
      · obtain ⟨j, a, b, c⟩ := ty_j hP z
        exact ⟨j, a, b⟩
      · obtain ⟨j, a, b, c⟩ := ty_j hP z
        exact ⟨j, a, b⟩
    obtain ⟨j, hj, rfl⟩ := hpj
    obtain ⟨jv, hjv, rfl, -⟩ := ty_j hP hv
    rw [cnI (j := j) (by omega), cnI (j := jv) (by omega)]
    repeat refine EV.s rfl rfl rfl ?_
    refine EV.get rfl (hB) rfl ?_
    repeat refine EV.s rfl rfl rfl ?_
    refine EV.aald (j := j) rfl hA (rfl) (by omega) (by omega) ?_
    refine EV.get rfl (hp j hj) rfl ?_
    refine EV.cv rfl rfl (hB) (Nat.le_of_ble_eq_true rfl) (Nat.le_of_ble_eq_true rfl) (c_stateOf d B P hP F H hR' (F 1 j)) ?_
    repeat refine EV.s rfl rfl rfl ?_
    by_cases hs : sto P F (F 1 j) = 1
    rotate_left
    · rw [if_neg (fun z => hs (sto_fin.mpr z))]
      refine EV.icF rfl (decide_eq_false hs) ?_
      repeat refine EV.s rfl rfl rfl ?_
      refine EV.ri rfl rfl ?_
      rfl
    rw [if_pos (sto_fin.mp hs)]
    refine EV.icT rfl (decide_eq_true hs) ?_
    repeat refine EV.s rfl rfl rfl ?_
    refine EV.call rfl (r_isWithin (d + 2) sl (nI 16) H) ?_
    by_cases hsl : inI sl 16
    rotate_left
    · rw [if_neg hsl, if_neg (fun z => hsl z.1)]
      refine EV.ifT rfl (by decide) ?_
      repeat refine EV.s rfl rfl rfl ?_
      refine EV.ifT rfl (by decide) ?_
      repeat refine EV.s rfl rfl rfl ?_
      refine EV.ri rfl rfl ?_
      rfl
    rw [if_pos hsl]
    obtain ⟨js, hjs, rfl⟩ := in_nI (by decide) hsl
    rw [cnI (j := js) (by omega)]
    refine EV.ifF rfl (by decide) ?_
    repeat refine EV.s rfl rfl rfl ?_
    refine EV.get rfl (hB) rfl ?_
    repeat refine EV.s rfl rfl rfl ?_
    refine EV.aald (j := jv) rfl hA (rfl) (by omega) (by omega) ?_
    repeat refine EV.s rfl rfl rfl ?_
    refine EV.cv rfl rfl (hp jv hjv) (Nat.le_of_ble_eq_true rfl) (Nat.le_of_ble_eq_true rfl) (c_numberIn (d + 1) B P F w H hR' hW jv hjv js hjs) ?_
    repeat refine EV.s rfl rfl rfl ?_
    by_cases hz : jn (w jv (2 * js)) (w jv (2 * js + 1)) = 0
    · rw [if_pos ⟨hsl, hz⟩]
      refine EV.ifF rfl (decide_eq_false (fun z => z ((lg_cmp_eq _ _).mpr hz))) ?_
      repeat refine EV.s rfl rfl rfl ?_
      refine EV.ifF rfl (by decide) ?_
      repeat refine EV.s rfl rfl rfl ?_
      refine EV.ri rfl rfl ?_
      rfl
    · rw [if_neg (fun z => hz z.2)]
      refine EV.ifT rfl (decide_eq_true (fun z => hz ((lg_cmp_eq _ _).mp z))) ?_
      repeat refine EV.s rfl rfl rfl ?_
      refine EV.ifT rfl (by decide) ?_
      repeat refine EV.s rfl rfl rfl ?_
      refine EV.ri rfl rfl ?_
      rfl
  refine EV.cv rfl rfl (hB) (Nat.le_of_ble_eq_true rfl) (Nat.le_of_ble_eq_true rfl) (c_isOfType (d + 1) B P hP F H hR' p 2) ?_
  by_cases h2 : ty P F p 2
  · rw [iso_y h2]
    refine EV.ifT rfl (by decide) ?_
    exact yes (Or.inl h2)
  rw [iso_n h2]
  refine EV.ifF rfl (by decide) ?_
  repeat refine EV.s rfl rfl rfl ?_
  refine EV.cv rfl rfl (hB) (Nat.le_of_ble_eq_true rfl) (Nat.le_of_ble_eq_true rfl) (c_isOfType (d + 1) B P hP F H hR' p 3) ?_
  by_cases h3 : ty P F p 3
  · rw [iso_y h3]
    refine EV.ifF rfl (by decide) ?_
    exact yes (Or.inr h3)
  rw [iso_n h3]
  refine EV.ifT rfl (by decide) ?_
  repeat refine EV.s rfl rfl rfl ?_
  refine EV.ifT rfl (by decide) ?_
  exact no (fun z => by rcases z.1 with y | y; exact h2 y; exact h3 y) _
end CWY
