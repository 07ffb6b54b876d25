section CRD
variable {bs : Nat} {sa : Nat → Nat}
theorem c_isOfType (d B P : Nat) (hP : P ≤ 40) (F : Nat → Nat → Int32) (H : e_H) (hR : cR B P F H) (p t : Int32) :
    ev_run tbs bs sa (d + 2) 54 [.ref B, .int p, .int t] H (some (.int (iso P (F 0) p t))) H := by
  obtain ⟨⟨fs, hB⟩, hA, hp⟩ := hR
  refine RUN.mk (T := t_X4_isOfType) rfl (Nat.le_of_ble_eq_true rfl) ?_
  repeat refine EV.s rfl rfl rfl ?_
  refine EV.get rfl (hB) rfl ?_
  refine EV.alen (n := P) rfl (by simp [ev_len, hA]) ?_
  refine EV.call rfl (r_isWithin d p (nI P) H) ?_
  by_cases hi : inI p P
  · rw [if_pos hi]
    obtain ⟨j, hj, rfl⟩ := in_nI (by omega) hi
    refine EV.ifF rfl (by decide) ?_
    repeat refine EV.s rfl rfl rfl ?_
    refine EV.get rfl (hB) rfl ?_
    repeat refine EV.s rfl rfl rfl ?_
    refine EV.aald (j := j) rfl hA (rfl) (by omega) (by omega) ?_
    refine EV.get rfl (hp j hj) rfl ?_
    repeat refine EV.s rfl rfl rfl ?_
    by_cases ht : F 0 j = t
    · rw [iso_y (F := F) ⟨hi.1, hi.2, by rw [cnI (by omega)]; exact ht⟩]
      refine EV.icF rfl (decide_eq_false (fun z => z ht)) ?_
      repeat refine EV.s rfl rfl rfl ?_
      refine EV.ret rfl ?_
      rfl
    · rw [iso_n (F := F) (fun z => ht (by have := z.2.2; rwa [cnI (by omega)] at this))]
      refine EV.icT rfl (decide_eq_true ht) ?_
      repeat refine EV.s rfl rfl rfl ?_
      refine EV.ret rfl ?_
      rfl
  · rw [if_neg hi, iso_n (F := F) (fun z => hi ⟨z.1, z.2.1⟩)]
    refine EV.ifT rfl (by decide) ?_
    repeat refine EV.s rfl rfl rfl ?_
    refine EV.ret rfl ?_
    rfl
/-- an ENCLAVE's STATE, else NONE -/
def sto (P : Nat) (F : Nat → Nat → Int32) (p : Int32) : Int32 := if ty P F p 1 then F 5 (cn p) else -1
theorem c_stateOf (d B P : Nat) (hP : P ≤ 40) (F : Nat → Nat → Int32) (H : e_H) (hR : cR B P F H) (p : Int32) :
    ev_run tbs bs sa (d + 3) 55 [.ref B, .int p] H (some (.int (sto P F p))) H := by
  have hR' := hR
  obtain ⟨⟨fs, hB⟩, hA, hp⟩ := hR
  refine RUN.mk (T := t_X4_stateOf) rfl (Nat.le_of_ble_eq_true rfl) ?_
  repeat refine EV.s rfl rfl rfl ?_
  refine EV.cv rfl rfl (hB) (Nat.le_of_ble_eq_true rfl) (Nat.le_of_ble_eq_true rfl) (c_isOfType d B P hP F H hR' p 1) ?_
  by_cases ht : ty P F p 1
  · rw [iso_y ht, sto, if_pos ht]
    obtain ⟨j, hj, rfl, -⟩ := ty_j hP ht
    rw [cnI (by omega)]
    refine EV.ifF rfl (by decide) ?_
    repeat refine EV.s rfl rfl rfl ?_
    refine EV.get rfl (hB) rfl ?_
    repeat refine EV.s rfl rfl rfl ?_
    refine EV.aald (j := j) rfl hA (rfl) (by omega) (by omega) ?_
    refine EV.get rfl (hp j hj) rfl ?_
    repeat refine EV.s rfl rfl rfl ?_
    refine EV.ri rfl rfl ?_
    rfl
  · rw [iso_n ht, sto, if_neg ht]
    refine EV.ifT rfl (by decide) ?_
    repeat refine EV.s rfl rfl rfl ?_
    refine EV.ri rfl rfl ?_
    rfl
theorem c_pagesOfType_loop (d B P : Nat) (hP : P ≤ 40) (F : Nat → Nat → Int32) (H : e_H) (hR : cR B P F H) (t : Int32) (E : e_C ⊕ (Option Value × e_H) → Prop) (hK : E (.inr (some (.int (cnt (F 0) t P)), H))) :
    ∀ (c k : Nat), k + c = P → ∀ n, n = cnt (F 0) t k → ∀ ki, ki = nI k → ev_E tbs bs sa d t_X4_pagesOfType E (10, [some (.ref B), some (.int t), some (.int n), some (.int ki)], [.int (nI P), .int ki], H) := by
  obtain ⟨⟨fs, hB⟩, hA, hp⟩ := hR
  intro c
  induction c with
  | zero =>
    intro k hk n hn ki hki
    have e : k = P := by omega
    subst e; subst hn; subst hki
    refine EV.icT rfl (decide_eq_true (nI_le (Nat.le_refl _) (by omega))) ?_
    repeat refine EV.s rfl rfl rfl ?_
    refine EV.ri rfl rfl ?_
    exact hK
  | succ c ih =>
    intro k hk n hn ki hki
    subst hki; subst hn
    refine EV.icF rfl (decide_eq_false (nI_ge (by omega) (by omega))) ?_
    repeat refine EV.s rfl rfl rfl ?_
    refine EV.get rfl (hB) rfl ?_
    repeat refine EV.s rfl rfl rfl ?_
    refine EV.aald (j := k) rfl hA (rfl) (by omega) (by omega) ?_
    refine EV.get rfl (hp k (by omega)) rfl ?_
    repeat refine EV.s rfl rfl rfl ?_
    by_cases ht : F 0 k = t
    · refine EV.icF rfl (decide_eq_false (fun z => z ht)) ?_
      repeat refine EV.s rfl rfl rfl ?_
      refine EV.get rfl (hB) rfl ?_
      refine EV.alen (n := P) rfl (by simp [ev_len, hA]) ?_
      exact ih (k + 1) (by omega) _ (by simp only [cnt]; rw [if_pos ht]) _ (nI_1 k)
    · refine EV.icT rfl (decide_eq_true ht) ?_
      repeat refine EV.s rfl rfl rfl ?_
      refine EV.get rfl (hB) rfl ?_
      refine EV.alen (n := P) rfl (by simp [ev_len, hA]) ?_
      exact ih (k + 1) (by omega) _ (by simp only [cnt]; rw [if_neg ht]; exact (Int32.add_zero _).symm) _ (nI_1 k)
theorem c_pagesOfType (d B P : Nat) (hP : P ≤ 40) (F : Nat → Nat → Int32) (H : e_H) (hR : cR B P F H) (t : Int32) :
    ev_run tbs bs sa (d + 1) 56 [.ref B, .int t] H (some (.int (cnt (F 0) t P))) H := by
  have hR' := hR
  obtain ⟨⟨fs, hB⟩, hA, hp⟩ := hR
  refine RUN.mk (T := t_X4_pagesOfType) rfl (Nat.le_of_ble_eq_true rfl) ?_
  repeat refine EV.s rfl rfl rfl ?_
  refine EV.get rfl (hB) rfl ?_
  refine EV.alen (n := P) rfl (by simp [ev_len, hA]) ?_
  refine c_pagesOfType_loop d B P hP F H hR' t _ ?_ P 0 (by omega) _ rfl _ rfl
  rfl
theorem c_ownedBy_loop (d B P : Nat) (hP : P ≤ 40) (F : Nat → Nat → Int32) (H : e_H) (hR : cR B P F H) (t : Int32) (E : e_C ⊕ (Option Value × e_H) → Prop) (hK : E (.inr (some (.int (cnt (F 1) t P)), H))) :
    ∀ (c k : Nat), k + c = P → ∀ n, n = cnt (F 1) t k → ∀ ki, ki = nI k → ev_E tbs bs sa d t_X4_ownedBy E (10, [some (.ref B), some (.int t), some (.int n), some (.int ki)], [.int (nI P), .int ki], H) := by
  obtain ⟨⟨fs, hB⟩, hA, hp⟩ := hR
  intro c
  induction c with
  | zero =>
    intro k hk n hn ki hki
    have e : k = P := by omega
    subst e; subst hn; subst hki
    refine EV.icT rfl (decide_eq_true (nI_le (Nat.le_refl _) (by omega))) ?_
    repeat refine EV.s rfl rfl rfl ?_
    refine EV.ri rfl rfl ?_
    exact hK
  | succ c ih =>
    intro k hk n hn ki hki
    subst hki; subst hn
    refine EV.icF rfl (decide_eq_false (nI_ge (by omega) (by omega))) ?_
    repeat refine EV.s rfl rfl rfl ?_
    refine EV.get rfl (hB) rfl ?_
    repeat refine EV.s rfl rfl rfl ?_
    refine EV.aald (j := k) rfl hA (rfl) (by omega) (by omega) ?_
    refine EV.get rfl (hp k (by omega)) rfl ?_
    repeat refine EV.s rfl rfl rfl ?_
    by_cases ht : F 1 k = t
    · refine EV.icF rfl (decide_eq_false (fun z => z ht)) ?_
      repeat refine EV.s rfl rfl rfl ?_
      refine EV.get rfl (hB) rfl ?_
      refine EV.alen (n := P) rfl (by simp [ev_len, hA]) ?_
      exact ih (k + 1) (by omega) _ (by simp only [cnt]; rw [if_pos ht]) _ (nI_1 k)
    · refine EV.icT rfl (decide_eq_true ht) ?_
      repeat refine EV.s rfl rfl rfl ?_
      refine EV.get rfl (hB) rfl ?_
      refine EV.alen (n := P) rfl (by simp [ev_len, hA]) ?_
      exact ih (k + 1) (by omega) _ (by simp only [cnt]; rw [if_neg ht]; exact (Int32.add_zero _).symm) _ (nI_1 k)
theorem c_ownedBy (d B P : Nat) (hP : P ≤ 40) (F : Nat → Nat → Int32) (H : e_H) (hR : cR B P F H) (t : Int32) :
    ev_run tbs bs sa (d + 1) 57 [.ref B, .int t] H (some (.int (cnt (F 1) t P))) H := by
  have hR' := hR
  obtain ⟨⟨fs, hB⟩, hA, hp⟩ := hR
  refine RUN.mk (T := t_X4_ownedBy) rfl (Nat.le_of_ble_eq_true rfl) ?_
  repeat refine EV.s rfl rfl rfl ?_
  refine EV.get rfl (hB) rfl ?_
  refine EV.alen (n := P) rfl (by simp [ev_len, hA]) ?_
  refine c_ownedBy_loop d B P hP F H hR' t _ ?_ P 0 (by omega) _ rfl _ rfl
  rfl
/-- isDataOf of a page -/
theorem c_isDataOf (d B P : Nat) (F : Nat → Nat → Int32) (H : e_H) (k : Nat) (hp : H.1 (B + 10 + 3 * k) = some (.inl (1, pfs B F k))) (e : Int32) :
    ev_run tbs bs sa (d + 1) 13 [.ref (B + 10 + 3 * k), .int e] H (some (.int (if F 0 k = 3 ∧ F 1 k = e then 1 else 0))) H := by
  refine RUN.lift (as1 := [B + 10 + 3 * k]) (os1 := [.inl (1, pfs B F k)]) (os2 := [.inl (1, pfs B F k)]) (fun h0 => r_isDataOf d _ _ _ _ _ _ _ _ _ _ h0 (by simp)) (by simp) rfl ?_ ?_
  · intro q a o h1 h2
    match q with
    | 0 => simp at h1 h2; subst h1; subst h2; exact hp
    | q + 1 => simp at h1
  · rw [wd_cons, wd_nil]; exact up_same hp
theorem c_hasAddress_loop (d B P : Nat) (hP : P ≤ 40) (F : Nat → Nat → Int32) (H : e_H) (hR : cR B P F H) (e a : Int32) (E : e_C ⊕ (Option Value × e_H) → Prop) (r : Option Nat) (hK : E (.inr (some (.int (if r = none then 0 else 1)), H))) :
    ∀ (c k : Nat), k + c = P → fsr (fun k => decide (F 0 k = 3 ∧ F 1 k = e ∧ F 2 k = a)) c k = r → ∀ ki, ki = nI k → ev_E tbs bs sa (d + 1) t_X4_hasAddress E (8, [some (.ref B), some (.int e), some (.int a), some (.int ki)], [.int (nI P), .int ki], H) := by
  obtain ⟨⟨fs, hB⟩, hA, hp⟩ := hR
  intro c
  induction c with
  | zero =>
    intro k hk hr ki hki
    have e : k = P := by omega
    subst e; subst hki
    have hr : r = none := hr.symm
    subst hr
    refine EV.icT rfl (decide_eq_true (nI_le (Nat.le_refl _) (by omega))) ?_
    repeat refine EV.s rfl rfl rfl ?_
    refine EV.ret rfl ?_
    exact hK
  | succ c ih =>
    intro k hk hr ki hki
    subst hki
    simp only [fsr] at hr
    have go : ¬ (F 0 k = 3 ∧ F 1 k = e ∧ F 2 k = a) → ev_E tbs bs sa (d + 1) t_X4_hasAddress E (39, [some (.ref B), some (.int e), some (.int a), some (.int (nI k))], [], H) := by
      intro hne
      rw [decide_eq_false hne] at hr
      repeat refine EV.s rfl rfl rfl ?_
      refine EV.get rfl (hB) rfl ?_
      refine EV.alen (n := P) rfl (by simp [ev_len, hA]) ?_
      exact ih (k + 1) (by omega) hr _ (nI_1 k)
    refine EV.icF rfl (decide_eq_false (nI_ge (by omega) (by omega))) ?_
    repeat refine EV.s rfl rfl rfl ?_
    refine EV.get rfl (hB) rfl ?_
    repeat refine EV.s rfl rfl rfl ?_
    refine EV.aald (j := k) rfl hA (rfl) (by omega) (by omega) ?_
    repeat refine EV.s rfl rfl rfl ?_
    refine EV.cv rfl rfl (hp k (by omega)) (Nat.le_of_ble_eq_true rfl) (Nat.le_of_ble_eq_true rfl) (c_isDataOf d B P F H k (hp k (by omega)) e) ?_
    by_cases h2 : F 0 k = 3 ∧ F 1 k = e
    · rw [if_pos h2]
      refine EV.ifF rfl (by decide) ?_
      repeat refine EV.s rfl rfl rfl ?_
      refine EV.get rfl (hB) rfl ?_
      repeat refine EV.s rfl rfl rfl ?_
      refine EV.aald (j := k) rfl hA (rfl) (by omega) (by omega) ?_
      refine EV.get rfl (hp k (by omega)) rfl ?_
      repeat refine EV.s rfl rfl rfl ?_
      by_cases h3 : F 2 k = a
      · refine EV.icF rfl (decide_eq_false (fun z => z h3)) ?_
        rw [decide_eq_true ⟨h2.1, h2.2, h3⟩] at hr
        have hr : r = some k := hr.symm
        subst hr
        repeat refine EV.s rfl rfl rfl ?_
        refine EV.ret rfl ?_
        exact hK
      · refine EV.icT rfl (decide_eq_true h3) ?_
        exact go (fun z => h3 z.2.2)
    · rw [if_neg h2]
      refine EV.ifT rfl (by decide) ?_
      exact go (fun z => h2 ⟨z.1, z.2.1⟩)
theorem c_hasAddress (d B P : Nat) (hP : P ≤ 40) (F : Nat → Nat → Int32) (H : e_H) (hR : cR B P F H) (e a : Int32) :
    ev_run tbs bs sa (d + 2) 58 [.ref B, .int e, .int a] H (some (.int (if fat P (F 0) (F 1) (F 2) e a = none then 0 else 1))) H := by
  have hR' := hR
  obtain ⟨⟨fs, hB⟩, hA, hp⟩ := hR
  refine RUN.mk (T := t_X4_hasAddress) rfl (Nat.le_of_ble_eq_true rfl) ?_
  repeat refine EV.s rfl rfl rfl ?_
  refine EV.get rfl (hB) rfl ?_
  refine EV.alen (n := P) rfl (by simp [ev_len, hA]) ?_
  refine c_hasAddress_loop d B P hP F H hR' e a _ (fat P (F 0) (F 1) (F 2) e a) ?_ P 0 (by omega) rfl _ rfl
  rfl
end CRD
