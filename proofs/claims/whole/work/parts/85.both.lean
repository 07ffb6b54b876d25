/-! Both sides in one heap. -/
def mok (I K : Nat → Int32) (o : List e_O) : Prop := o.length = 21 ∧ o[19]? = some (.inr (.inl (8, I))) ∧ o[20]? = some (.inr (.inl (64, K))) ∧ ∃ fs, o[0]? = some (.inl (5, fs))
def lwO (bs B P z M sc : Nat) (sa : Nat → Nat) : Prop := P ≤ 40 ∧ z = B + 10 + 3 * P ∧ M = z + 10 ∧ cOK bs B P z sa ∧ (mas M sa).Nodup ∧ (∀ j, j < 5 → sa j < B) ∧ sc < B
def lwK (B P z M sc n : Nat) (sa : Nat → Nat) (key mark I K sf : Nat → Int32) (s1 : zS) (Mo : List e_O → Prop) (H : e_H) : Prop := (∃ h, cS B P z sa key mark I K s1 h H) ∧ (∃ o h, Mo o ∧ mok I K o ∧ H = wd (mas M sa) o h) ∧ (∃ g, H.1 (M + 19) = some (.inr (.inr (.inl (1, g))))) ∧ H.1 sc = some (.inr (.inl (n, sf)))
theorem mS.ok {M P : Nat} {key mark I K : Nat → Int32} {s : zS} {o : List e_O} (h : mS M P key mark I K s o) : mok I K o := by
  obtain ⟨F, w, ms, B, lg, ⟨c0, c1, c2, c3⟩, ⟨en, gv, ft, mk⟩⟩ := s
  obtain ⟨th, pc, A, H, G, T, S, St, r, rfl⟩ := h
  exact ⟨rfl, rfl, rfl, _, rfl⟩
theorem mSt.ok {M P : Nat} {key mark I K : Nat → Int32} {th : Int32} {s : zS} {o : List e_O} (h : mSt M P key mark I K th s o) : mok I K o := h.S.ok
theorem pgH_out {B P : Nat} {F w ms : Nat → Nat → Int32} {h : e_H} {a : Nat} (ha : ¬ (B + 10 ≤ a ∧ a < B + 10 + 3 * P)) : (pgH B P F w ms h).1 a = h.1 a := if_neg ha
theorem cas_out {B P z : Nat} {sa : Nat → Nat} (hz : z = B + 10 + 3 * P) {a : Nat} (ha : a < B ∨ z + 10 ≤ a) (h : a ∈ cas B z sa) : a = sa 0 ∨ a = sa 1 ∨ a = sa 2 := by
  simp only [cas, List.mem_cons, List.not_mem_nil, or_false] at h
  omega
theorem cS_frame {bs B P z : Nat} {sa : Nat → Nat} (hO : cOK bs B P z sa) (hz : z = B + 10 + 3 * P) {key mark I K : Nat → Int32} {s s' : zS} {h H H' : e_H} (h1 : cS B P z sa key mark I K s h H) (h2 : cS B P z sa key mark I K s' h H') : H'.2 = H.2 ∧ ∀ a, a < B ∨ z + 10 ≤ a → H'.1 a = H.1 a := by
  obtain ⟨F, w, ms, Bf, lg, ⟨c0, c1, c2, c3⟩, ⟨en, gv, ft, mk⟩⟩ := s
  obtain ⟨F', w', ms', Bf', lg', ⟨c0', c1', c2', c3'⟩, ⟨en', gv', ft', mk'⟩⟩ := s'
  obtain ⟨o0, o1, o2, o3, D, L, hm, hs, hh, sp, L2, gm, gs, gh, X, S, Bk, rfl, -⟩ := h1
  obtain ⟨o0', o1', o2', o3', D', L', hm', hs', hh', sp', L2', gm', gs', gh', X', S', Bk', rfl, -⟩ := h2
  refine ⟨rfl, fun a ha => ?_⟩
  by_cases hm : a ∈ cas B z sa
  · rcases cas_out (P := P) hz ha hm with rfl | rfl | rfl
    · rw [wd_at (q := 20) hO.1 rfl rfl, wd_at (q := 20) hO.1 rfl rfl]
    · rw [wd_at (q := 21) hO.1 rfl rfl, wd_at (q := 21) hO.1 rfl rfl]
    · rw [wd_at (q := 22) hO.1 rfl rfl, wd_at (q := 22) hO.1 rfl rfl]
  · rw [wd_out hm, wd_out hm, pgH_out (by omega), pgH_out (by omega)]
theorem pgH_self {B P : Nat} {F w ms : Nat → Nat → Int32} {H : e_H} (h : ∀ a, B + 10 ≤ a → a < B + 10 + 3 * P → H.1 a = (pgH B P F w ms H).1 a) : pgH B P F w ms H = H := by
  refine Prod.ext ?_ rfl
  funext a
  by_cases c : B + 10 ≤ a ∧ a < B + 10 + 3 * P
  · exact (h a c.1 c.2).symm
  · exact pgH_out c
theorem cS_move {bs B P z : Nat} {sa : Nat → Nat} (hO : cOK bs B P z sa) (hz : z = B + 10 + 3 * P) {key mark I K : Nat → Int32} {s : zS} {h H H' : e_H} (h1 : cS B P z sa key mark I K s h H) (hq : ∀ a, B ≤ a → a < z + 10 → H'.1 a = H.1 a) (hsa : ∀ j, j < 3 → H'.1 (sa j) = H.1 (sa j)) : cS B P z sa key mark I K s H' H' := by
  obtain ⟨F, w, ms, Bf, lg, ⟨c0, c1, c2, c3⟩, ⟨en, gv, ft, mk⟩⟩ := s
  obtain ⟨o0, o1, o2, o3, D, L, hm, hs, hh, sp, L2, gm, gs, gh, X, S, Bk, rfl, ho⟩ := h1
  refine ⟨o0, o1, o2, o3, D, L, hm, hs, hh, sp, L2, gm, gs, gh, X, S, Bk, ?_, ho⟩
  have e1 : pgH B P F w ms H' = H' := pgH_self (fun a ha hb => by
    rw [hq a (by omega) (by omega), wd_out (hO.2.1 a ha hb)]
    show (if B + 10 ≤ a ∧ a < B + 10 + 3 * P then _ else _) = if B + 10 ≤ a ∧ a < B + 10 + 3 * P then _ else _
    rw [if_pos ⟨ha, hb⟩, if_pos ⟨ha, hb⟩])
  rw [e1]
  refine (wd_self hO.1 rfl (fun q a o h2 h3 => ?_)).symm
  rw [← wd_at (h := pgH B P F w ms h) hO.1 h2 h3]
  have hm : a ∈ cas B z sa := List.mem_of_getElem? h2
  by_cases c : B ≤ a ∧ a < z + 10
  · exact hq a c.1 c.2
  · rcases cas_out (P := P) hz (by omega) hm with rfl | rfl | rfl
    · exact hsa 0 (by decide)
    · exact hsa 1 (by decide)
    · exact hsa 2 (by decide)
theorem mas_out {M : Nat} {sa : Nat → Nat} {a : Nat} (ha : a < M ∨ M + 19 ≤ a) (h : a ∈ mas M sa) : a = sa 3 ∨ a = sa 4 := by
  simp only [mas, List.mem_cons, List.not_mem_nil, or_false] at h
  omega
theorem mo_frame {M : Nat} {sa : Nat → Nat} {I K : Nat → Int32} (hD : (mas M sa).Nodup) {o o' : List e_O} {h : e_H} (h1 : mok I K o) (h2 : mok I K o') : ∀ a, a < M ∨ M + 19 ≤ a → (wd (mas M sa) o' h).1 a = (wd (mas M sa) o h).1 a := by
  intro a ha
  by_cases hm : a ∈ mas M sa
  · rcases mas_out ha hm with rfl | rfl
    · rw [wd_at (q := 19) hD rfl h1.2.1, wd_at (q := 19) hD rfl h2.2.1]
    · rw [wd_at (q := 20) hD rfl h1.2.2.1, wd_at (q := 20) hD rfl h2.2.2.1]
  · rw [wd_out hm, wd_out hm]
theorem mo_move {M : Nat} {sa : Nat → Nat} {I K : Nat → Int32} (hD : (mas M sa).Nodup) {o : List e_O} {h H' : e_H} (h1 : mok I K o) (hq : ∀ a, M ≤ a → a < M + 19 → H'.1 a = (wd (mas M sa) o h).1 a) (h3 : H'.1 (sa 3) = (wd (mas M sa) o h).1 (sa 3)) (h4 : H'.1 (sa 4) = (wd (mas M sa) o h).1 (sa 4)) : H' = wd (mas M sa) o H' := by
  refine (wd_self hD (by rw [h1.1]; rfl) (fun q a x h5 h6 => ?_)).symm
  rw [← wd_at (h := h) hD h5 h6]
  have hm : a ∈ mas M sa := List.mem_of_getElem? h5
  by_cases c : M ≤ a ∧ a < M + 19
  · exact hq a c.1 c.2
  · rcases mas_out (by omega) hm with rfl | rfl
    · exact h3
    · exact h4
section LWB
variable {bs : Nat} {sa : Nat → Nat} {B P z M sc n : Nat} {key mark I K sf : Nat → Int32}
/-- anything that leaves all but one side's cells alone -/
theorem lw_cl (hO : lwO bs B P z M sc sa) {s1 s1' : zS} {Mo : List e_O → Prop} {H : e_H} (hK : lwK B P z M sc n sa key mark I K sf s1 Mo H) {y : Nat} {avs : List Value} {v : Option Value} (hc : ∀ h, cS B P z sa key mark I K s1 h H → ∃ rv H', (rv = v ∧ cS B P z sa key mark I K s1' h H') ∧ ev_run tbs bs sa 7 y avs H rv H') : ∃ H', ev_run tbs bs sa 7 y avs H v H' ∧ lwK B P z M sc n sa key mark I K sf s1' Mo H' ∧ H'.2 = H.2 := by
  obtain ⟨hP, hz, hM, hC, hD, hsa, hscB⟩ := hO
  obtain ⟨⟨h, hS⟩, ⟨o, h2, hMo, hmo, rfl⟩, ⟨g, hg⟩, hsc⟩ := hK
  obtain ⟨rv, H', ⟨rfl, hS'⟩, hr⟩ := hc h hS
  obtain ⟨e2, fr⟩ := cS_frame hC hz hS hS'
  refine ⟨H', hr, ⟨⟨h, hS'⟩, ⟨o, H', hMo, hmo, mo_move hD hmo (fun a ha hb => fr a (by omega)) (fr _ (Or.inl (hsa 3 (by decide)))) (fr _ (Or.inl (hsa 4 (by decide))))⟩, ⟨g, ?_⟩, ?_⟩, e2⟩
  · rw [fr _ (by omega)]; exact hg
  · rw [fr _ (Or.inl hscB)]; exact hsc
theorem lw_mo (hO : lwO bs B P z M sc sa) {s1 : zS} {Mo Mo' : List e_O → Prop} {H : e_H} (hK : lwK B P z M sc n sa key mark I K sf s1 Mo H) {y : Nat} {avs : List Value} {v : Option Value} (hm : ∀ o, Mo o → CT bs sa 7 y avs (mas M sa) o (fun rv o' => rv = v ∧ Mo' o')) (hMo' : ∀ o, Mo' o → mok I K o) : ∃ H', ev_run tbs bs sa 7 y avs H v H' ∧ lwK B P z M sc n sa key mark I K sf s1 Mo' H' ∧ H'.2 = H.2 := by
  obtain ⟨hP, hz, hM, hC, hD, hsa, hscB⟩ := hO
  obtain ⟨⟨h, hS⟩, ⟨o, h2, hMo, hmo, rfl⟩, ⟨g, hg⟩, hsc⟩ := hK
  obtain ⟨rv, o', ⟨⟨rfl, hQ⟩, -⟩, hr⟩ := hm o hMo h2
  have fr := mo_frame (h := h2) hD hmo (hMo' o' hQ)
  refine ⟨_, hr, ⟨⟨_, cS_move hC hz hS (fun a ha hb => fr a (by omega)) (fun j hj => fr _ (Or.inl (by have := hsa j (by omega); omega)))⟩, ⟨o', h2, hQ, hMo' o' hQ, rfl⟩, ⟨g, ?_⟩, ?_⟩, rfl⟩
  · rw [fr _ (Or.inr (Nat.le_refl _))]; exact hg
  · rw [fr _ (Or.inl (by omega))]; exact hsc
theorem lwK.x (hO : lwO bs B P z M sc sa) {s1 : zS} {Mo : List e_O → Prop} {H : e_H} (hK : lwK B P z M sc n sa key mark I K sf s1 Mo H) : ∃ fs, H.1 B = some (.inl (4, fs)) := by
  obtain ⟨⟨h, hS⟩, -⟩ := hK
  obtain ⟨F, w, ms, Bf, lg, ⟨c0, c1, c2, c3⟩, ⟨en, gv, ft, mk⟩⟩ := s1
  obtain ⟨o0, o1, o2, o3, D, L, hm, hs, hh, sp, L2, gm, gs, gh, X, S, Bk, rfl, ho⟩ := hS
  exact ⟨_, wd_at (q := 0) hO.2.2.2.1.1 rfl rfl⟩
theorem lwK.m (hO : lwO bs B P z M sc sa) {s1 : zS} {Mo : List e_O → Prop} {H : e_H} (hK : lwK B P z M sc n sa key mark I K sf s1 Mo H) : ∃ fs, H.1 M = some (.inl (5, fs)) := by
  obtain ⟨-, ⟨o, h2, hMo, ⟨-, -, -, fs, hf⟩, rfl⟩, -⟩ := hK
  exact ⟨fs, wd_at (q := 0) hO.2.2.2.2.1 rfl hf⟩
end LWB
