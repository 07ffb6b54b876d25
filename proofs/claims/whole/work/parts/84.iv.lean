/-! The invariant is kept. -/
def cntN (f : Nat → Int32) (x : Int32) : Nat → Nat
  | 0 => 0
  | n + 1 => cntN f x n + (if f n = x then 1 else 0)
theorem cntN_le (f : Nat → Int32) (x : Int32) : ∀ n, cntN f x n ≤ n
  | 0 => Nat.le_refl _
  | n + 1 => by
    have := cntN_le f x n
    unfold cntN
    by_cases c : f n = x
    · rw [if_pos c]; omega
    · rw [if_neg c]; omega
theorem cntN_nI (f : Nat → Int32) (x : Int32) : ∀ n, cnt f x n = nI (cntN f x n)
  | 0 => rfl
  | n + 1 => by
    unfold cnt cntN
    rw [cntN_nI f x n]
    by_cases c : f n = x
    · rw [if_pos c, if_pos c]; exact nI_add _ 1
    · rw [if_neg c, if_neg c]; exact Int32.add_zero _
theorem cntN_pos {f : Nat → Int32} {x : Int32} {k : Nat} (hf : f k = x) : ∀ {n}, k < n → 1 ≤ cntN f x n
  | 0, h => by omega
  | n + 1, h => by
    unfold cntN
    by_cases e : k = n
    · subst e; rw [if_pos hf]; omega
    · have := cntN_pos hf (n := n) (by omega)
      omega
theorem cnt_none {f : Nat → Int32} {x : Int32} {n : Nat} (hn : n ≤ 40) (h : cnt f x n = 0) : ∀ k, k < n → f k ≠ x := by
  intro k hk hf
  have h1 := cntN_pos hf hk
  have h2 := cntN_le f x n
  rw [cntN_nI] at h
  have c := congrArg Int32.toNatClampNeg h
  rw [nI_clamp (by omega)] at c
  have : Int32.toNatClampNeg 0 = 0 := rfl
  omega
theorem nI_inj {a b : Nat} (ha : a < 2 ^ 31) (hb : b < 2 ^ 31) (h : nI a = nI b) : a = b := by
  have c := congrArg Int32.toNatClampNeg h
  rwa [nI_clamp ha, nI_clamp hb] at c
def IvP (P : Nat) (F w ms : Nat → Nat → Int32) (p : Nat) : Prop :=
  (F 0 p = 0 → F 2 p = 0 ∧ F 5 p = 0 ∧ (∀ i, i < 32 → w p i = 0) ∧ (∀ i, i < 8 → ms p i = 0)) ∧
  (F 0 p = 0 ∨ F 0 p = 1 ∨ F 0 p = 2 ∨ F 0 p = 3 ∨ F 0 p = 4) ∧
  (F 0 p = 2 ∨ F 0 p = 3 → ∃ e, e < P ∧ F 1 p = nI e ∧ F 0 e = 1) ∧
  (F 0 p ≠ 2 → F 0 p ≠ 3 → F 1 p = -1) ∧
  (F 0 p ≠ 3 → F 3 p = 0) ∧ (F 0 p ≠ 1 → F 4 p = 0)
theorem Iv_iff {P : Nat} {F w ms : Nat → Nat → Int32} {z} : Iv P (F, w, ms, z) ↔ ∀ p, p < P → IvP P F w ms p := Iff.rfl
theorem Iv_step {P : Nat} {F F' w w' ms ms' : Nat → Nat → Int32} {z z'} (hP : P ≤ 40) (hI : Iv P (F, w, ms, z)) (j : Nat) (hF : ∀ i k, k ≠ j → F' i k = F i k) (hw : ∀ k, k ≠ j → F 0 k = 0 → w' k = w k) (hm : ∀ k, k ≠ j → F 0 k = 0 → ms' k = ms k) (hown : F 0 j = 1 → F' 0 j = 1 ∨ ∀ k, k < P → F 1 k ≠ nI j) (hj : j < P → IvP P F' w' ms' j) : Iv P (F', w', ms', z') := by
  intro k hk
  by_cases e : k = j
  · subst e; exact hj hk
  obtain ⟨h1, h2, h3, h4, h5, h6⟩ := hI k hk
  dsimp only at h1 h2 h3 h4 h5 h6 ⊢
  rw [hF 0 k e, hF 1 k e, hF 2 k e, hF 3 k e, hF 4 k e, hF 5 k e]
  refine ⟨fun q => ?_, h2, fun q => ?_, h4, h5, h6⟩
  · obtain ⟨a, b, c, d⟩ := h1 q
    rw [hw k e q, hm k e q]
    exact ⟨a, b, c, d⟩
  · obtain ⟨x, hx, ho, ht⟩ := h3 q
    refine ⟨x, hx, ho, ?_⟩
    by_cases ex : x = j
    · subst ex
      rcases hown ht with q | q
      · exact q
      · exact absurd ho (q k hk)
    · rw [hF 0 x ex]; exact ht
theorem ty_1 {P : Nat} (hP : P ≤ 40) {F : Nat → Nat → Int32} {p t : Int32} (h : ty P F p t) : cn p < P ∧ F 0 (cn p) = t ∧ nI (cn p) = p := by
  obtain ⟨j, hj, rfl, ht⟩ := ty_j hP h
  rw [cnI (by omega)]
  exact ⟨hj, ht, rfl⟩
theorem uF_at (F : Nat → Nat → Int32) (i k : Nat) (x : Int32) : uF F i k x i k = x := by
  unfold uF; rw [upp_at]; exact if_pos rfl
theorem uF_no (F : Nat → Nat → Int32) {i a : Nat} (k : Nat) (x : Int32) (h : a ≠ i) (q : Nat) : uF F i k x a q = F a q := by
  unfold uF; rw [upp_ne _ _ h]
theorem Iv_create {P : Nat} (hP : P ≤ 40) (p : Int32) (s : zS) (hI : Iv P s) : Iv P (q_create P p s).2 := by
  obtain ⟨F, w, ms, B, lg, ⟨c0, c1, c2, c3⟩, tl⟩ := s
  simp only [q_create]
  by_cases h : ty P F p 0
  · rw [if_pos h]
    obtain ⟨hj, ht, -⟩ := ty_1 hP h
    obtain ⟨f1, f2, f3, f4, f5, f6, f7⟩ := Iv.free hI hj ht
    refine Iv_step hP hI (cn p) (fun i k hk => by rw [uF_ne _ _ hk, uF_ne _ _ hk, uF_ne _ _ hk]) (fun _ _ _ => rfl) (fun _ _ _ => rfl) (fun q => ?_) (fun _ => ?_)
    · rw [ht] at q; exact absurd q (by decide)
    · unfold IvP
      simp only [uF_at, uF_no _ _ _ (show (0 : Nat) ≠ 4 by decide), uF_no _ _ _ (show (0 : Nat) ≠ 5 by decide), uF_no _ _ _ (show (1 : Nat) ≠ 4 by decide), uF_no _ _ _ (show (1 : Nat) ≠ 5 by decide), uF_no _ _ _ (show (1 : Nat) ≠ 0 by decide), uF_no _ _ _ (show (3 : Nat) ≠ 4 by decide), uF_no _ _ _ (show (3 : Nat) ≠ 5 by decide), uF_no _ _ _ (show (3 : Nat) ≠ 0 by decide)]
      refine ⟨fun q => absurd q (by decide), (by simp), fun q => q.elim (fun q => absurd q (by decide)) (fun q => absurd q (by decide)), fun _ _ => f1, fun _ => f3, fun q => absurd rfl q⟩
  · rw [if_neg h]; exact hI
theorem Iv_versions {P : Nat} (hP : P ≤ 40) (p : Int32) (s : zS) (hI : Iv P s) : Iv P (q_versions P p s).2 := by
  obtain ⟨F, w, ms, z⟩ := s
  simp only [q_versions]
  by_cases h : ty P F p 0
  · rw [if_pos h]
    obtain ⟨hj, ht, -⟩ := ty_1 hP h
    obtain ⟨f1, f2, f3, f4, f5, f6, f7⟩ := Iv.free hI hj ht
    refine Iv_step hP hI (cn p) (fun i k hk => by rw [uF_ne _ _ hk]) (fun _ _ _ => rfl) (fun _ _ _ => rfl) (fun q => ?_) (fun _ => ?_)
    · rw [ht] at q; exact absurd q (by decide)
    · unfold IvP
      simp only [uF_at, uF_no _ _ _ (show (1 : Nat) ≠ 0 by decide), uF_no _ _ _ (show (3 : Nat) ≠ 0 by decide), uF_no _ _ _ (show (4 : Nat) ≠ 0 by decide)]
      refine ⟨fun q => absurd q (by decide), (by simp), fun q => q.elim (fun q => absurd q (by decide)) (fun q => absurd q (by decide)), fun _ _ => f1, fun _ => f3, fun _ => f4⟩
  · rw [if_neg h]; exact hI
theorem Iv_thread {P : Nat} (hP : P ≤ 40) (K I : Nat → Int32) (e p en : Int32) (s : zS) (hI : Iv P s) : Iv P (q_thread P K I e p en s).2 := by
  obtain ⟨F, w, ms, z⟩ := s
  simp only [q_thread]
  by_cases h : ty P F e 1 ∧ ty P F p 0
  rotate_left
  · rw [if_neg h]; exact hI
  rw [if_pos h]
  by_cases h5 : F 5 (cn e) = 0
  rotate_left
  · rw [if_neg h5]; exact hI
  rw [if_pos h5]
  by_cases hx : inI en 1024
  rotate_left
  · rw [if_neg hx]; exact hI
  rw [if_pos hx]
  obtain ⟨he, hte, hen⟩ := ty_1 hP h.1
  obtain ⟨hj, ht, -⟩ := ty_1 hP h.2
  obtain ⟨f1, f2, f3, f4, f5, f6, f7⟩ := Iv.free hI hj ht
  have hne : cn e ≠ cn p := fun q => by rw [q, ht] at hte; exact absurd hte (by decide)
  refine Iv_step hP hI (cn p) (fun i k hk => by rw [uF_ne _ _ hk, uF_ne _ _ hk]) (fun k hk _ => upp_ne _ _ hk) (fun k hk h0 => upp_ne _ _ (fun q => by rw [q, hte] at h0; exact absurd h0 (by decide))) (fun q => ?_) (fun _ => ?_)
  · rw [ht] at q; exact absurd q (by decide)
  · unfold IvP
    simp only [uF_at, uF_no _ _ _ (show (0 : Nat) ≠ 1 by decide), uF_no _ _ _ (show (3 : Nat) ≠ 0 by decide), uF_no _ _ _ (show (3 : Nat) ≠ 1 by decide), uF_no _ _ _ (show (4 : Nat) ≠ 0 by decide), uF_no _ _ _ (show (4 : Nat) ≠ 1 by decide)]
    refine ⟨fun q => absurd q (by decide), (by simp), fun _ => ⟨cn e, he, hen.symm, ?_⟩, fun q => absurd rfl q, fun _ => f3, fun _ => f4⟩
    rw [uF_ne _ _ hne]; exact hte
theorem Iv_data {P : Nat} (hP : P ≤ 40) (K I : Nat → Int32) (e p a r : Int32) (s : zS) (hI : Iv P s) : Iv P (q_data P K I e p a r s).2 := by
  obtain ⟨F, w, ms, B, z⟩ := s
  simp only [q_data]
  by_cases h : ty P F e 1 ∧ ty P F p 0
  rotate_left
  · rw [if_neg h]; exact hI
  rw [if_pos h]
  by_cases h5 : F 5 (cn e) = 0
  rotate_left
  · rw [if_neg h5]; exact hI
  rw [if_pos h5]
  by_cases hx : inI a 32 ∧ inI r 8 ∧ fat P (F 0) (F 1) (F 2) e a = none
  rotate_left
  · rw [if_neg hx]; exact hI
  rw [if_pos hx]
  obtain ⟨he, hte, hen⟩ := ty_1 hP h.1
  obtain ⟨hj, ht, -⟩ := ty_1 hP h.2
  obtain ⟨f1, f2, f3, f4, f5, f6, f7⟩ := Iv.free hI hj ht
  have hne : cn e ≠ cn p := fun q => by rw [q, ht] at hte; exact absurd hte (by decide)
  refine Iv_step hP hI (cn p) (fun i k hk => by rw [uF_ne _ _ hk, uF_ne _ _ hk, uF_ne _ _ hk, uF_ne _ _ hk]) (fun k hk _ => upp_ne _ _ hk) (fun k hk h0 => upp_ne _ _ (fun q => by rw [q, hte] at h0; exact absurd h0 (by decide))) (fun q => ?_) (fun _ => ?_)
  · rw [ht] at q; exact absurd q (by decide)
  · unfold IvP
    simp only [uF_at, uF_no _ _ _ (show (0 : Nat) ≠ 1 by decide), uF_no _ _ _ (show (0 : Nat) ≠ 2 by decide), uF_no _ _ _ (show (0 : Nat) ≠ 3 by decide), uF_no _ _ _ (show (1 : Nat) ≠ 2 by decide), uF_no _ _ _ (show (1 : Nat) ≠ 3 by decide), uF_no _ _ _ (show (4 : Nat) ≠ 0 by decide), uF_no _ _ _ (show (4 : Nat) ≠ 1 by decide), uF_no _ _ _ (show (4 : Nat) ≠ 2 by decide), uF_no _ _ _ (show (4 : Nat) ≠ 3 by decide)]
    refine ⟨fun q => absurd q (by decide), (by simp), fun _ => ⟨cn e, he, hen.symm, ?_⟩, fun _ q => absurd rfl q, fun q => absurd rfl q, fun _ => f4⟩
    rw [uF_ne _ _ hne]; exact hte
theorem Iv_5 {P : Nat} (hP : P ≤ 40) {F w ms ms' : Nat → Nat → Int32} {z z'} (hI : Iv P (F, w, ms, z)) {e : Int32} (h : ty P F e 1) (x : Int32) (hm : ∀ k, k ≠ cn e → ms' k = ms k) : Iv P (uF F 5 (cn e) x, w, ms', z') := by
  obtain ⟨hj, ht, -⟩ := ty_1 hP h
  obtain ⟨h1, h2, h3, h4, h5, h6⟩ := hI _ hj
  refine Iv_step hP hI (cn e) (fun i k hk => by rw [uF_ne _ _ hk]) (fun _ _ _ => rfl) (fun k hk _ => hm k hk) (fun q => ?_) (fun _ => ?_)
  · left; rw [uF_no _ _ _ (show (0 : Nat) ≠ 5 by decide)]; exact ht
  · dsimp only at h1 h2 h3 h4 h5 h6
    unfold IvP
    simp only [uF_no _ _ _ (show (0 : Nat) ≠ 5 by decide), uF_no _ _ _ (show (1 : Nat) ≠ 5 by decide), uF_no _ _ _ (show (2 : Nat) ≠ 5 by decide), uF_no _ _ _ (show (3 : Nat) ≠ 5 by decide), uF_no _ _ _ (show (4 : Nat) ≠ 5 by decide)]
    refine ⟨fun q => ?_, h2, h3, h4, h5, h6⟩
    rw [ht] at q; exact absurd q (by decide)
theorem Iv_finalise {P : Nat} (hP : P ≤ 40) (K I : Nat → Int32) (e : Int32) (s : zS) (hI : Iv P s) : Iv P (q_finalise P K I e s).2 := by
  obtain ⟨F, w, ms, z⟩ := s
  simp only [q_finalise]
  by_cases h : ty P F e 1
  rotate_left
  · rw [if_neg h]; exact hI
  rw [if_pos h]
  by_cases h5 : F 5 (cn e) = 0
  · rw [if_pos h5]; exact Iv_5 hP hI h 1 (fun k hk => upp_ne _ _ hk)
  · rw [if_neg h5]; exact hI
theorem Iv_stop {P : Nat} (hP : P ≤ 40) (e : Int32) (s : zS) (hI : Iv P s) : Iv P (q_stop P e s).2 := by
  obtain ⟨F, w, ms, z⟩ := s
  simp only [q_stop]
  by_cases h : ty P F e 1
  rotate_left
  · rw [if_neg h]; exact hI
  rw [if_pos h]
  by_cases h5 : F 5 (cn e) = 2
  · rw [if_pos h5]; exact hI
  · rw [if_neg h5]; exact Iv_5 hP hI h 2 (fun k hk => rfl)
theorem clF_at (F : Nat → Nat → Int32) (p : Nat) : clF F p 0 p = 0 ∧ clF F p 1 p = -1 ∧ clF F p 2 p = 0 ∧ clF F p 3 p = 0 ∧ clF F p 4 p = 0 ∧ clF F p 5 p = 0 := by
  refine ⟨?_, ?_, ?_, ?_, ?_, ?_⟩ <;> simp [clF, uF, upp, upd]
theorem clF_ne {F : Nat → Nat → Int32} {p : Nat} : ∀ i k, k ≠ p → clF F p i k = F i k := by
  intro i q hq
  unfold clF
  rw [uF_ne _ _ hq, uF_ne _ _ hq, uF_ne _ _ hq, uF_ne _ _ hq, uF_ne _ _ hq, uF_ne _ _ hq]
theorem Iv_cl {P : Nat} (hP : P ≤ 40) {F w w' ms : Nat → Nat → Int32} {z z'} (hI : Iv P (F, w, ms, z)) {j : Nat} (hown : F 0 j = 1 → ∀ k, k < P → F 1 k ≠ nI j) (hw : ∀ k, k ≠ j → F 0 k = 0 → w' k = w k) (W m : Nat → Int32) : Iv P (clF F j, upp w' j (zf W 0 32), upp ms j (zf m 0 8), z') := by
  refine Iv_step hP hI j clF_ne (fun k hk h0 => by rw [upp_ne _ _ hk]; exact hw k hk h0) (fun k hk _ => upp_ne _ _ hk) (fun q => Or.inr (hown q)) (fun _ => ?_)
  obtain ⟨a0, a1, a2, a3, a4, a5⟩ := clF_at F j
  unfold IvP
  rw [a0, a1, a2, a3, a4, a5, upp_at, upp_at]
  refine ⟨fun _ => ⟨rfl, rfl, fun i hi => if_pos ⟨by omega, hi⟩, fun i hi => if_pos ⟨by omega, hi⟩⟩, Or.inl rfl, fun q => q.elim (fun q => absurd q (by decide)) (fun q => absurd q (by decide)), fun _ _ => rfl, fun _ => rfl, fun _ => rfl⟩
theorem Iv_remove {P : Nat} (hP : P ≤ 40) (p : Int32) (s : zS) (hI : Iv P s) : Iv P (q_remove P p s).2 := by
  obtain ⟨F, w, ms, z⟩ := s
  simp only [q_remove]
  by_cases h : inI p P ∧ F 0 (cn p) ≠ 0
  rotate_left
  · rw [if_neg h]; exact hI
  rw [if_pos h]
  by_cases hr : rmv P F p
  rotate_left
  · rw [if_neg hr]; exact hI
  rw [if_pos hr]
  obtain ⟨j, hj, rfl⟩ := in_nI (by omega) h.1
  have cj : cn (nI j) = j := cnI (by omega)
  rw [cj]
  refine Iv_cl hP hI (fun h1 => ?_) (fun _ _ _ => rfl) _ _
  unfold rmv at hr
  rw [cj, if_pos h1] at hr
  exact cnt_none hP hr.2
theorem Iv_run {P : Nat} (hP : P ≤ 40) (p n : Int32) (r : Nat → Int32) (pc : Int32) (s : zS) (h2 : ty P s.1 p 2) (hI : Iv P s) : Iv P (q_run P p n r pc s).2 := by
  obtain ⟨F, w, ms, B, lg, c, tl⟩ := s
  simp only [q_run]
  generalize hr : rnn P F ms (cn (F 1 (cn p))) (cn n) w r pc 0 0 (-1) = x
  obtain ⟨hw, w', r', pc', m', gv', ft'⟩ := x
  obtain ⟨hj, ht, -⟩ := ty_1 hP h2
  have ht : F 0 (cn p) = 2 := ht
  obtain ⟨a1, a2, a3, a4, a5, a6⟩ := hI _ hj
  refine Iv_step hP hI (cn p) (fun _ _ _ => rfl) (fun k hk h0 => ?_) (fun _ _ _ => rfl) (fun q => Or.inl q) (fun _ => ?_)
  · dsimp only
    have k1 := (rnn_keep (t := k) (by rw [h0]; decide) (cn n) w r pc 0 0 (-1) hr).1
    unfold rnf rnk
    rw [upp_ne _ _ hk, upp_ne _ _ hk]
    exact k1
  · dsimp only at a1 a2 a3 a4 a5 a6
    exact ⟨fun q => by rw [ht] at q; exact absurd q (by decide), a2, a3, a4, a5, a6⟩
theorem Iv_enter {P : Nat} (hP : P ≤ 40) (p a b n : Int32) (s : zS) (hI : Iv P s) : Iv P (q_enter P p a b n s).2 := by
  unfold q_enter
  by_cases h : ty P s.1 p 2
  rotate_left
  · rw [if_neg h]; exact hI
  rw [if_pos h]
  by_cases h2 : fin1 P s.1 (s.1 1 (cn p)) ∧ s.2.1 (cn p) 1 = 0
  rotate_left
  · rw [if_neg h2]; exact hI
  rw [if_pos h2]
  by_cases h3 : inI n 5001
  rotate_left
  · rw [if_neg h3]; exact hI
  rw [if_pos h3]
  exact Iv_run hP p n _ _ s h hI
theorem Iv_resume {P : Nat} (hP : P ≤ 40) (p n : Int32) (s : zS) (hI : Iv P s) : Iv P (q_resume P p n s).2 := by
  unfold q_resume
  by_cases h : ty P s.1 p 2
  rotate_left
  · rw [if_neg h]; exact hI
  rw [if_pos h]
  by_cases h2 : fin1 P s.1 (s.1 1 (cn p)) ∧ s.2.1 (cn p) 1 ≠ 0
  rotate_left
  · rw [if_neg h2]; exact hI
  rw [if_pos h2]
  by_cases h3 : inI n 5001
  rotate_left
  · rw [if_neg h3]; exact hI
  rw [if_pos h3]
  exact Iv_run hP p n _ _ s h hI
theorem Iv_evict {P : Nat} (hP : P ≤ 40) (K I key mark : Nat → Int32) (p v sl : Int32) (s : zS) (hI : Iv P s) : Iv P (q_evict P K I key mark p v sl s).2 := by
  obtain ⟨F, w, ms, B, lg, z⟩ := s
  simp only [q_evict]
  by_cases h : (ty P F p 2 ∨ ty P F p 3) ∧ ty P F v 4
  rotate_left
  · rw [if_neg h]; exact hI
  rw [if_pos h]
  by_cases h2 : fin1 P F (F 1 (cn p))
  rotate_left
  · rw [if_neg h2]; exact hI
  rw [if_pos h2]
  by_cases h3 : inI sl 16 ∧ jn (w (cn v) (2 * cn sl)) (w (cn v) (2 * cn sl + 1)) = 0
  rotate_left
  · rw [if_neg h3]; exact hI
  rw [if_pos h3]
  obtain ⟨hv, htv, -⟩ := ty_1 hP h.2
  refine Iv_cl hP hI (fun h1 => ?_) (fun k hk h0 => upp_ne _ _ (fun q => ?_)) _ _
  · rcases h.1 with q | q
    · rw [(ty_1 hP q).2.1] at h1; exact absurd h1 (by decide)
    · rw [(ty_1 hP q).2.1] at h1; exact absurd h1 (by decide)
  · rw [q, htv] at h0; exact absurd h0 (by decide)
theorem Iv_reload {P : Nat} (hP : P ≤ 40) (K I key mark : Nat → Int32) (p e v sl : Int32) (s : zS) (hI : Iv P s) : Iv P (q_reload P K I key mark p e v sl s).2 := by
  obtain ⟨F, w, ms, B, lg, ⟨c0, c1, c2, c3⟩, tl⟩ := s
  simp only [q_reload]
  by_cases h : ty P F p 0 ∧ ty P F e 1 ∧ ty P F v 4
  rotate_left
  · rw [if_neg h]; exact hI
  rw [if_pos h]
  by_cases h2 : F 5 (cn e) = 1
  rotate_left
  · rw [if_neg h2]; exact hI
  rw [if_pos h2]
  by_cases h3 : inI sl 16
  rotate_left
  · rw [if_neg h3]; exact hI
  rw [if_pos h3]
  by_cases h4 : tgd K I mark B
  rotate_left
  · rw [if_neg h4]; exact hI
  rw [if_pos h4]
  by_cases h5 : frs F w B (cn e) (cn v) (cn sl)
  rotate_left
  · rw [if_neg h5]; exact hI
  rw [if_pos h5]
  obtain ⟨hj, ht, -⟩ := ty_1 hP h.1
  obtain ⟨he, hte, hen⟩ := ty_1 hP h.2.1
  obtain ⟨hv, htv, -⟩ := ty_1 hP h.2.2
  obtain ⟨f1, f2, f3, f4, f5, f6, f7⟩ := Iv.free hI hj ht
  have hne : cn e ≠ cn p := fun q => by rw [q, ht] at hte; exact absurd hte (by decide)
  have hw : ∀ (W : Nat → Int32) (k : Nat), k ≠ cn p → F 0 k = 0 → svW (upp w (cn p) W) (cn v) (cn sl) 0 k = w k := by
    intro W k hk h0
    unfold svW
    rw [upp_ne _ _ (fun q => by rw [q, htv] at h0; exact absurd h0 (by decide)), upp_ne _ _ hk]
  by_cases hb : B 0 = 2
  · rw [if_pos hb]
    refine Iv_step hP hI (cn p) (fun i k hk => by rw [uF_ne _ _ hk, uF_ne _ _ hk]) (hw _) (fun _ _ _ => rfl) (fun q => ?_) (fun _ => ?_)
    · rw [ht] at q; exact absurd q (by decide)
    · unfold IvP
      simp only [uF_at, uF_no _ _ _ (show (0 : Nat) ≠ 1 by decide), uF_no _ _ _ (show (3 : Nat) ≠ 0 by decide), uF_no _ _ _ (show (3 : Nat) ≠ 1 by decide), uF_no _ _ _ (show (4 : Nat) ≠ 0 by decide), uF_no _ _ _ (show (4 : Nat) ≠ 1 by decide)]
      refine ⟨fun q => absurd q (by decide), (by simp), fun _ => ⟨cn e, he, hen.symm, ?_⟩, fun q => absurd rfl q, fun _ => f3, fun _ => f4⟩
      rw [uF_ne _ _ hne]; exact hte
  · rw [if_neg hb]
    refine Iv_step hP hI (cn p) (fun i k hk => by rw [uF_ne _ _ hk, uF_ne _ _ hk, uF_ne _ _ hk, uF_ne _ _ hk]) (hw _) (fun _ _ _ => rfl) (fun q => ?_) (fun _ => ?_)
    · rw [ht] at q; exact absurd q (by decide)
    · unfold IvP
      simp only [uF_at, uF_no _ _ _ (show (0 : Nat) ≠ 1 by decide), uF_no _ _ _ (show (0 : Nat) ≠ 2 by decide), uF_no _ _ _ (show (0 : Nat) ≠ 3 by decide), uF_no _ _ _ (show (1 : Nat) ≠ 2 by decide), uF_no _ _ _ (show (1 : Nat) ≠ 3 by decide), uF_no _ _ _ (show (4 : Nat) ≠ 0 by decide), uF_no _ _ _ (show (4 : Nat) ≠ 1 by decide), uF_no _ _ _ (show (4 : Nat) ≠ 2 by decide), uF_no _ _ _ (show (4 : Nat) ≠ 3 by decide)]
      refine ⟨fun q => absurd q (by decide), (by simp), fun _ => ⟨cn e, he, hen.symm, ?_⟩, fun _ q => absurd rfl q, fun q => absurd rfl q, fun _ => f4⟩
      rw [uF_ne _ _ hne]; exact hte
theorem Iv_poke {P : Nat} (k v : Int32) (s : zS) (hI : Iv P s) : Iv P (q_poke k v s).2 := by
  obtain ⟨F, w, ms, B, z⟩ := s
  simp only [q_poke]
  by_cases h : inI k 64
  · rw [if_pos h]; exact hI
  · rw [if_neg h]; exact hI
theorem Iv_00 {P : Nat} (hP : P ≤ 40) : Iv P s00 := by
  intro p hp
  have h0 : s00.1 0 p = 0 := rfl
  refine ⟨fun _ => ⟨rfl, rfl, fun _ _ => rfl, fun _ _ => rfl⟩, Or.inl rfl, fun q => ?_, fun _ _ => ?_, fun _ => rfl, fun _ => rfl⟩
  · rw [h0] at q
    exact q.elim (fun q => absurd q (by decide)) (fun q => absurd q (by decide))
  show (if (1 : Nat) = 1 then (if p < 40 then (-1 : Int32) else 0) else 0) = -1
  rw [if_pos rfl, if_pos (by omega)]
