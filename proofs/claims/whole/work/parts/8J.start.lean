/-! The whole. -/
theorem ev_AR.of {U : State} {t N : Nat} {f : Nat → Int32} {A : Nat → Prop} {H : Heap} (h : va_T .int t N (fun j => .int (f j)) A U H) : ev_AR U t .int N (fun j => .int (f j)) H := by
  obtain ⟨cell, h1, h2, h3, h4, h5, h6, -⟩ := h
  exact ⟨cell, h1, h2, h3, ⟨h4, h5⟩, h6⟩
/-- one cell, one length -/
theorem va_T.len {U : State} {t N N' : Nat} {f f' : Nat → Value} {A A' : Nat → Prop} {H : Heap} {ty ty' : FieldType} (h : va_T ty t N f A U H) (h' : va_T ty' t N' f' A' U H) : Int32.ofNat N = Int32.ofNat N' := by
  obtain ⟨cell, h1, -, -, -, h5, -⟩ := h
  obtain ⟨cell', g1, -, -, -, g5, -⟩ := h'
  cases h1.symm.trans g1
  exact h5.symm.trans g5
def f00 (b L : Nat) (xs : Nat → Int32) (a0 a1 a2 a3 a4 : Nat) : Nat → Option e_O := fun a => if a = a0 then some (.inr (.inl (8, tI))) else if a = a1 then some (.inr (.inl (64, tK))) else if a = a2 then some (.inr (.inl (4, cc4))) else if a = a3 then some (.inr (.inl (8, tI))) else if a = a4 then some (.inr (.inl (64, tK))) else if a = b then some (.inr (.inl (L, xs))) else none
theorem ev_P.ext {D : va_G} {U : State} {h : e_H} {H : Heap} {B P : Nat} (hB : h.1 (B + 9) = some (.inr (.inr (.inr (P, pga B P))))) (hP : ev_P D U h H) : ev_P D U (ev_up h (B + 9) (.inr (.inr (.inr (P, fun k => some (B + 10 + 3 * k)))))) H := by
  refine ⟨fun a o ho => ?_, fun z u hu => hP.2 z u hu⟩
  rw [ev_up_1] at ho
  by_cases e : a = B + 9
  · rw [if_pos e] at ho
    cases ho
    rw [e]
    obtain ⟨⟨cell, h1, h2, h3, h4, h5⟩, h6⟩ := hP.1 _ _ hB
    refine ⟨⟨cell, h1, h2, h3, h4, fun j hj => ?_⟩, h6⟩
    have hj : j < P := hj
    have q := h5 j hj
    dsimp only at q ⊢
    rw [show pga B P j = some (B + 10 + 3 * j) from if_pos hj] at q
    exact q
  · rw [if_neg e] at ho
    exact hP.1 a o ho
set_option maxHeartbeats 4000000 in
set_option maxRecDepth 100000 in
theorem whole_start {p : Program} {e : Env} {s : State} {m : MethodId} {below : List Frame} {meth : Method} {c : Code} (l : Launch) (hl : l.stackTraces = false) (hnm : meth.name = x.name) {b L : Nat} {xs : Nat → Int32} (hL : L ≤ 2562) (C0 : lw_At p s m meth c b L xs) : W p l e room_1 s m #[Value.ref b] below meth c s.heap [] 0 0 (lw_Z below #[Value.ref b] s) (entryFrame m ([Value.ref b] : List Value).toArray 7) := by
  obtain ⟨hx, hb, hret, hml, hown, htbl, hX, hbl, hlocks, hgv⟩ := C0
  have hs := flat_of_before _ hgv
  have hts : ∀ w ∈ ev_GW, w.before #[Value.ref b] s = true := fun w hw => htbl w (List.mem_filter.mp hw).1
  have hA : ∀ a : Nat, a < s.heap.size → ¬ (fun z => s.heap.size ≤ z) a := fun a ha => Nat.not_le.mpr ha
  obtain ⟨a0, t0, k0⟩ := va_Tof (f := fun j => .int (tI j)) (by decide) (hs _ ma_0) (va_eqt (hs _ ml_0)) (fun j hj => va_eqt (hs _ (me_0 j hj))) hA
  obtain ⟨a1, t1, k1⟩ := va_Tof (f := fun j => .int (tK j)) (by decide) (hs _ ma_1) (va_eqt (hs _ ml_1)) (fun j hj => va_eqt (hs _ (me_1 j hj))) hA
  obtain ⟨a2, t2, k2⟩ := va_Tof (f := fun j => .int (cc4 j)) (by decide) (hs _ ma_2) (va_eqt (hs _ ml_2)) (fun j hj => va_eqt (hs _ (me_2 j hj))) hA
  obtain ⟨a3, t3, k3⟩ := va_Tof (f := fun j => .int (tI j)) (by decide) (hs _ ma_3) (va_eqt (hs _ ml_3)) (fun j hj => va_eqt (hs _ (me_3 j hj))) hA
  obtain ⟨a4, t4, k4⟩ := va_Tof (f := fun j => .int (tK j)) (by decide) (hs _ ma_4) (va_eqt (hs _ ml_4)) (fun j hj => va_eqt (hs _ (me_4 j hj))) hA
  have lt : ∀ {t N : Nat} {f : Nat → Value}, va_T .int t N f (fun z => s.heap.size ≤ z) s s.heap → t < s.heap.size := fun h => by
    obtain ⟨cell, h1, -⟩ := h
    exact (Array.getElem?_eq_some_iff.mp h1).1
  have n01 : a0 ≠ a1 := fun q => by subst q; exact absurd (k0.len k1) (by decide)
  have n02 : a0 ≠ a2 := fun q => by subst q; exact absurd (k0.len k2) (by decide)
  have n12 : a1 ≠ a2 := fun q => by subst q; exact absurd (k1.len k2) (by decide)
  have n31 : a3 ≠ a1 := fun q => by subst q; exact absurd (k3.len k1) (by decide)
  have n32 : a3 ≠ a2 := fun q => by subst q; exact absurd (k3.len k2) (by decide)
  have n40 : a4 ≠ a0 := fun q => by subst q; exact absurd (k4.len k0) (by decide)
  have n42 : a4 ≠ a2 := fun q => by subst q; exact absurd (k4.len k2) (by decide)
  have n43 : a4 ≠ a3 := fun q => by subst q; exact absurd (k4.len k3) (by decide)
  -- the statics' places
  obtain ⟨sa, hsa⟩ : ∃ sa : Nat → Nat, sa = fun j => if j = 0 then a0 else if j = 1 then a1 else if j = 2 then a2 else if j = 3 then a3 else a4 := ⟨_, rfl⟩
  have e0 : sa 0 = a0 := by rw [hsa]; rfl
  have e1 : sa 1 = a1 := by rw [hsa]; rfl
  have e2 : sa 2 = a2 := by rw [hsa]; rfl
  have e3 : sa 3 = a3 := by rw [hsa]; rfl
  have e4 : sa 4 = a4 := by rw [hsa]; rfl
  have g0 : f00 b L xs a0 a1 a2 a3 a4 (sa 0) = some (.inr (.inl (8, tI))) := by rw [e0]; exact if_pos rfl
  have g1 : f00 b L xs a0 a1 a2 a3 a4 (sa 1) = some (.inr (.inl (64, tK))) := by
    rw [e1]; unfold f00; rw [if_neg (fun q => n01 q.symm), if_pos rfl]
  have g2 : f00 b L xs a0 a1 a2 a3 a4 (sa 2) = some (.inr (.inl (4, cc4))) := by
    rw [e2]; unfold f00; rw [if_neg (fun q => n02 q.symm), if_neg (fun q => n12 q.symm), if_pos rfl]
  have g3 : f00 b L xs a0 a1 a2 a3 a4 (sa 3) = some (.inr (.inl (8, tI))) := by
    rw [e3]; unfold f00
    by_cases q : a3 = a0
    · rw [if_pos q]
    · rw [if_neg q, if_neg n31, if_neg n32, if_pos rfl]
  have g4 : f00 b L xs a0 a1 a2 a3 a4 (sa 4) = some (.inr (.inl (64, tK))) := by
    rw [e4]; unfold f00
    rw [if_neg n40]
    by_cases q : a4 = a1
    · rw [if_pos q]
    · rw [if_neg q, if_neg n42, if_neg n43, if_pos rfl]
  have hlt : ∀ j, j < 5 → sa j < s.heap.size := by
    intro j hj
    have : j = 0 ∨ j = 1 ∨ j = 2 ∨ j = 3 ∨ j = 4 := by omega
    rcases this with rfl | rfl | rfl | rfl | rfl
    · rw [e0]; exact lt k0
    · rw [e1]; exact lt k1
    · rw [e2]; exact lt k2
    · rw [e3]; exact lt k3
    · rw [e4]; exact lt k4
  -- the script
  obtain ⟨n, sf, hn, hsc⟩ : ∃ n sf, n ≤ 2562 ∧ f00 b L xs a0 a1 a2 a3 a4 b = some (.inr (.inl (n, sf))) := by
    unfold f00
    by_cases q0 : b = a0
    · exact ⟨8, tI, by decide, if_pos q0⟩
    rw [if_neg q0]
    by_cases q1 : b = a1
    · exact ⟨64, tK, by decide, if_pos q1⟩
    rw [if_neg q1]
    by_cases q2 : b = a2
    · exact ⟨4, cc4, by decide, if_pos q2⟩
    rw [if_neg q2]
    by_cases q3 : b = a3
    · exact ⟨8, tI, by decide, if_pos q3⟩
    rw [if_neg q3]
    by_cases q4 : b = a4
    · exact ⟨64, tK, by decide, if_pos q4⟩
    rw [if_neg q4]
    exact ⟨L, xs, hL, if_pos rfl⟩
  -- the classes
  obtain ⟨cC0, iS0, u0⟩ := u_known hts inX0 (htbl _ mx_0)
  obtain ⟨cC1, iS1, u1⟩ := u_known hts inX1 (htbl _ mx_1)
  obtain ⟨cC2, iS2, u2⟩ := u_known hts inX2 (htbl _ mx_2)
  obtain ⟨cC3, iS3, u3⟩ := u_known hts inX3 (htbl _ mx_3)
  obtain ⟨cC4, iS4, u4⟩ := u_known hts inX4 (htbl _ mx_4)
  obtain ⟨cC5, iS5, u5⟩ := u_known hts inX5 (htbl _ mx_5)
  obtain ⟨D, hD⟩ : ∃ D : va_G, D = ((fun k => if k = 0 then cC0 else if k = 1 then cC1 else if k = 2 then cC2 else if k = 3 then cC3 else if k = 4 then cC4 else cC5), (fun k => if k = 0 then iS0 else if k = 1 then iS1 else if k = 2 then iS2 else if k = 3 then iS3 else if k = 4 then iS4 else iS5)) := ⟨_, rfl⟩
  have hva : va_K D vwCl [] s := by
    refine ⟨fun k q hq => ?_, fun k q hq => by simp at hq⟩
    rw [hD]
    match k, hq with
    | 0, hq => cases hq; exact u0
    | 1, hq => cases hq; exact u1
    | 2, hq => cases hq; exact u2
    | 3, hq => cases hq; exact u3
    | 4, hq => cases hq; exact u4
    | 5, hq => cases hq; exact u5
    | k + 6, hq => simp at hq
  have hK : ev_K D s.heap.size sa s := by
    refine ⟨hva, fun j q hq => ?_, fun q hq => va_Nw.of rfl (htbl _ (m_nq q hq)), va_AO.of (htbl _ m_ao)⟩
    match j, hq with
    | 0, hq => cases hq; rw [e0]; exact va_Zof (htbl _ mz_0) (htbl _ mi_0) t0 hA
    | 1, hq => cases hq; rw [e1]; exact va_Zof (htbl _ mz_1) (htbl _ mi_1) t1 hA
    | 2, hq => cases hq; rw [e2]; exact va_Zof (htbl _ mz_2) (htbl _ mi_2) t2 hA
    | 3, hq => cases hq; rw [e3]; exact va_Zof (htbl _ mz_3) (htbl _ mi_3) t3 hA
    | 4, hq => cases hq; rw [e4]; exact va_Zof (htbl _ mz_4) (htbl _ mi_4) t4 hA
    | j + 5, hq => simp [ev_sts] at hq
  obtain ⟨ss, _, _, _, hss, -⟩ := Cond.exactly_spec (hs _ m_se)
  have hXX : xk_K s.heap.size ss s := by
    refine ⟨vk_R.of (htbl _ m_sr) hss, vx_Zqof (htbl _ m_u1) (htbl _ m_ti) (hs _ m_u2) hA, vx_Zqof (htbl _ m_n1) (htbl _ m_ti) (hs _ m_n2) hA, fun w hw => va_Nw.of ?_ (htbl _ (m_xb w hw))⟩
    simp only [xB, List.mem_cons, List.not_mem_nil, or_false] at hw
    rcases hw with rfl | rfl | rfl | rfl <;> rfl
  have X : ev_X p room_1 s m #[Value.ref b] meth c D s.heap.size sa t_L_law 7 := ⟨hx, hb, hml, hret, hown, hnm, hlocks, hts, hK, (by decide : 7 + 1 ≤ 10), (by decide : 40 * (7 + 1) ≤ 354), Nat.le_refl _⟩
  have hP0 : ev_P D s (f00 b L xs a0 a1 a2 a3 a4, some (s.heap.size, 0)) s.heap := by
    refine ⟨fun a o ho => ?_, fun z u hu => by simp only [Option.some.injEq, Prod.mk.injEq] at hu; exact hu.1⟩
    have ho : f00 b L xs a0 a1 a2 a3 a4 a = some o := ho
    unfold f00 at ho
    by_cases q0 : a = a0
    · rw [if_pos q0] at ho; cases ho; rw [q0]; exact ev_AR.of k0
    rw [if_neg q0] at ho
    by_cases q1 : a = a1
    · rw [if_pos q1] at ho; cases ho; rw [q1]; exact ev_AR.of k1
    rw [if_neg q1] at ho
    by_cases q2 : a = a2
    · rw [if_pos q2] at ho; cases ho; rw [q2]; exact ev_AR.of k2
    rw [if_neg q2] at ho
    by_cases q3 : a = a3
    · rw [if_pos q3] at ho; cases ho; rw [q3]; exact ev_AR.of k3
    rw [if_neg q3] at ho
    by_cases q4 : a = a4
    · rw [if_pos q4] at ho; cases ho; rw [q4]; exact ev_AR.of k4
    rw [if_neg q4] at ho
    by_cases q5 : a = b
    · rw [if_pos q5] at ho; cases ho; rw [q5]
      obtain ⟨scr, h1, h2, h3, h4, h5⟩ := hX
      exact ⟨scr, h1, h2, h3, ⟨Nat.le_of_eq h4.symm, by rw [h4]⟩, h5⟩
    · rw [if_neg q5] at ho; cases ho
  obtain ⟨P, z, M, H, u, hO, hM, hMB, hH2, hu, hB9, hKK, n9, hr⟩ := lw_init (bs := s.heap.size) (sa := sa) b n s.heap.size sf tI tK (f00 b L xs a0 a1 a2 a3 a4) hn hsc g0 g1 g2 g3 g4 hlt hbl (Nat.le_refl _)
  have hM0 : s.heap.size ≤ M := by have := hO.2.1; omega
  have hcn : ev_cn H = M + 20 := by unfold ev_cn; rw [hH2]
  have hsn : ev_sn H = u := by unfold ev_sn; rw [hH2]
  rw [lg_entry_eq]
  have hW := ev_rch_W (p := p) (l := l) (e := e) (s := s) (m := m) (below := below) (meth := meth) (c := c) (c0 := s.heap.size) (s0 := 0) (Q := lw_Z below #[Value.ref b] s) (E := fun x => x = .inl (45, lwl b s.heap.size M 2 none none, [], H)) X ev_gl ok_L_law (ev_sound ev_gl ok_tbs 7)
    (fun cf hq => by
      simp only [Sum.inl.injEq] at hq
      subst hq
      intro Hp locs ls hP hS hLR
      exact lw_loop (D := D) hl ev_gl X hXX rfl rfl hO hn 600 2 (by omega) (by decide) s00 (ev_up H (s.heap.size + 9) (.inr (.inr (.inr (P, fun k => some (s.heap.size + 10 + 3 * k)))))) none none (M + 20) u (Iv_00 hO.1) hKK hH2 (by omega) (by omega) (by omega) Hp locs ls (ev_P.ext hB9 hP) hS hLR)
    (fun cf w hq _ => by cases hq)
    (fun x hq => by subst hq; exact ⟨by show ev_cn H - s.heap.size ≤ 601024; omega, by show ev_sn H - 0 ≤ 7293000; omega⟩) n9 _ (Nat.le_refl _) (Nat.le_refl _) hr
  have hfin := hW s.heap [] _ hP0 va_S.rf (ev_LR.entry [.ref b] (Nat.le_of_ble_eq_true rfl))
  refine W.cs ?_ ?_ hfin
  · show 0 = s.heap.size - s.heap.size
    omega
  · show 0 = 0 - 0
    omega
