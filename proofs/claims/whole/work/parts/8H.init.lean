/-! The law's beginning: both sides are made. -/
def cel (n : Nat) (sf : Nat → Int32) (k : Nat) : Int32 := if k < n then sf k else 0
section LIN
variable {bs : Nat} {sa : Nat → Nat}
theorem r_cell (d sc n k : Nat) (sf : Nat → Int32) (H : e_H) (hsc : H.1 sc = some (.inr (.inl (n, sf)))) (hn : n < 2 ^ 31) (hk : k < 2 ^ 31) : ev_run tbs bs sa (d + 1) 106 [.ref sc, .int (nI k)] H (some (.int (cel n sf k))) H := by
  refine RUN.mk (T := t_L_cell) rfl (Nat.le_of_ble_eq_true rfl) ?_
  repeat refine EV.s rfl rfl rfl ?_
  refine EV.alen (n := n) rfl (by simp [ev_len, hsc]) ?_
  unfold cel
  by_cases c : k < n
  · rw [if_pos c]
    refine EV.icF rfl (decide_eq_false (nI_ge c hn)) ?_
    repeat refine EV.s rfl rfl rfl ?_
    refine EV.iald (j := k) rfl hsc rfl c hn ?_
    repeat refine EV.s rfl rfl rfl ?_
    refine EV.ri rfl rfl ?_
    rfl
  · rw [if_neg c]
    refine EV.icT rfl (decide_eq_true (nI_le (by omega) hk)) ?_
    repeat refine EV.s rfl rfl rfl ?_
    refine EV.ri rfl rfl ?_
    rfl
theorem cS_facts {B P z : Nat} {F w ms : Nat → Nat → Int32} {H : e_H} {os : List e_O} (hD : (cas B z sa).Nodup) (hp : ∀ a, B + 10 ≤ a → a < B + 10 + 3 * P → H.1 a = (pgH B P F w ms H).1 a) (hf : (cas B z sa).map H.1 = os.map some) : H = wd (cas B z sa) os (pgH B P F w ms H) := by
  rw [pgH_self hp]
  obtain ⟨hl, h1⟩ := map_fact hf
  exact (wd_self hD hl h1).symm
set_option maxHeartbeats 4000000 in
set_option maxRecDepth 100000 in
theorem lw_init (sc n B : Nat) (sf I K : Nat → Int32) (f0 : Nat → Option e_O) (hn : n ≤ 2562) (hsc : f0 sc = some (.inr (.inl (n, sf)))) (g0 : f0 (sa 0) = some (.inr (.inl (8, I)))) (g1 : f0 (sa 1) = some (.inr (.inl (64, K)))) (g2 : f0 (sa 2) = some (.inr (.inl (4, cc4)))) (g3 : f0 (sa 3) = some (.inr (.inl (8, I)))) (g4 : f0 (sa 4) = some (.inr (.inl (64, K)))) (hlt : ∀ j, j < 5 → sa j < B) (hscB : sc < B) (hbB : bs ≤ B) :
    ∃ P z M H u, lwO bs B P z M sc sa ∧ M = z + 10 ∧ M ≤ B + 200 ∧ H.2 = some (M + 20, u) ∧ u ≤ 9000 ∧ H.1 (B + 9) = some (.inr (.inr (.inr (P, pga B P)))) ∧ lwK B P z M sc n sa (va_cpy (kdf K I (cel n sf 1).toInt64 1) (fun _ => 0) 0 0 8) (va_cpy (kdf K I (cel n sf 1).toInt64 2) (fun _ => 0) 0 0 8) I K sf s00 (mS M P (va_cpy (kdf K I (cel n sf 1).toInt64 1) (fun _ => 0) 0 0 8) (va_cpy (kdf K I (cel n sf 1).toInt64 2) (fun _ => 0) 0 0 8) I K s00) (ev_up H (B + 9) (.inr (.inr (.inr (P, fun k => some (B + 10 + 3 * k)))))) ∧ ev_E tbs bs sa 7 t_L_law (fun x => x = .inl (45, lwl sc B M 2 none none, [], H)) (0, [some (.ref sc), none, none, none, none, none, none], [], (f0, some (B, 0))) := by
  have l0 := hlt 0 (by decide)
  have l1 := hlt 1 (by decide)
  have l2 := hlt 2 (by decide)
  have l3 := hlt 3 (by decide)
  have l4 := hlt 4 (by decide)
  have n01 : sa 0 ≠ sa 1 := fun q => by rw [q, g1] at g0; simp at g0
  have n02 : sa 0 ≠ sa 2 := fun q => by rw [q, g2] at g0; simp at g0
  have n12 : sa 1 ≠ sa 2 := fun q => by rw [q, g2] at g1; simp at g1
  have n34 : sa 3 ≠ sa 4 := fun q => by rw [q, g4] at g3; simp at g3
  obtain ⟨rv, H1, ⟨rfl, z, P, hP, hz, L, gm, gs, gh, hH1⟩, hr1⟩ := i_monitor (bs := bs) (sa := sa) 1 B 11 (cel n sf 0) (cel n sf 1).toInt64 I K f0 n01 l0 l1 hbB
  have hP40 := pgs_le (cel n sf 0)
  rw [← hP] at hP40
  obtain ⟨M, hM⟩ : ∃ M, M = z + 10 := ⟨_, rfl⟩
  have hDa : (xas B sa ++ [z, z + 1, z + 2, z + 3, z + 4, z + 5, z + 6, z + 7, z + 8, z + 9]).Nodup := by simp [xas]; omega
  have hDc : (cas B z sa).Nodup := by simp [cas]; omega
  have hDm : (mas M sa).Nodup := by simp [mas]; omega
  have hOK : cOK bs B P z sa := ⟨hDc, fun a h1 h2 => by simp [cas]; omega, hbB, by omega⟩
  have hO : lwO bs B P z M sc sa := ⟨hP40.2, hz, hM, hOK, hDm, hlt, hscB⟩
  have H1_2 : H1.2 = some (M, 462 + 49 * P) := by rw [hH1, hM]; rfl
  have low : ∀ a, a < B → H1.1 a = f0 a := by
    intro a ha
    rw [hH1]
    by_cases hm : a ∈ xas B sa ++ [z, z + 1, z + 2, z + 3, z + 4, z + 5, z + 6, z + 7, z + 8, z + 9]
    · have : a = sa 0 ∨ a = sa 1 := by simp [xas] at hm; omega
      rcases this with rfl | rfl
      · rw [wd_at (q := 1) hDa rfl rfl, g0]
      · rw [wd_at (q := 2) hDa rfl rfl, g1]
    · rw [wd_out hm, pgH_out (by omega)]
  obtain ⟨rv2, H2, ⟨rfl, o, ho, hH2⟩, hr2⟩ := i_model (bs := bs) (sa := sa) 3 M (462 + 49 * P + 30) (cel n sf 0) (cel n sf 1).toInt64 I K H1.1 hDm (by rw [low _ l3]; exact g3) (by rw [low _ l4]; exact g4) (by omega)
  rw [← hP] at ho
  have hmok := ho.ok
  have hnM : M + 19 ∉ mas M sa := by simp [mas]; omega
  obtain ⟨G2, hG2⟩ : ∃ G2, G2 = wd [M + 19] [.inr (.inr (.inl (1, fun _ => 0)))] (H1.1, some (M + 20, 462 + 49 * P + 30 + 2120 + 1)) := ⟨_, rfl⟩
  obtain ⟨H3, hH3⟩ : ∃ H3, H3 = wd (mas M sa) o G2 := ⟨_, rfl⟩
  have hi3 : ∀ a, a < M → H3.1 a = H1.1 a := by
    intro a ha
    rw [hH3]
    by_cases hm : a ∈ mas M sa
    · rcases mas_out (Or.inl ha) hm with rfl | rfl
      · rw [wd_at (q := 19) hDm rfl hmok.2.1, low _ l3, g3]
      · rw [wd_at (q := 20) hDm rfl hmok.2.2.1, low _ l4, g4]
    · rw [wd_out hm, hG2, wd_out (by simp; omega)]
  have hB9 : H3.1 (B + 9) = some (.inr (.inr (.inr (P, pga B P)))) := by
    rw [hi3 _ (by omega), hH1]; exact wd_at (q := 11) hDa rfl rfl
  obtain ⟨H4, hH4⟩ : ∃ H4, H4 = ev_up H3 (B + 9) (.inr (.inr (.inr (P, fun k => some (B + 10 + 3 * k))))) := ⟨_, rfl⟩
  have h43 : ∀ a, a ≠ B + 9 → H4.1 a = H3.1 a := fun a ha => by rw [hH4, ev_up_1, if_neg ha]
  have hcell : ∀ a, a < M → a ≠ B + 9 → H4.1 a = H1.1 a := fun a h1 h2 => by rw [h43 a h2, hi3 a h1]
  have hlow : ∀ a, a < B → H4.1 a = f0 a := fun a ha => by rw [hcell a (by omega) (by omega), low a ha]
  refine ⟨P, z, M, H3, 462 + 49 * P + 30 + 2120 + 1, hO, hM, by omega, by rw [hH3, hG2]; rfl, by omega, hB9, ?_, ?_⟩
  · rw [← hH4]
    refine ⟨⟨H4, -1, -1, -1, -1, fun _ => 0, 0, fun _ => 0, fun _ => 0, fun _ => 0, fun _ => none, L, gm, gs, gh, fun _ => 0, fun _ => 0, fun _ => 0, ?_, by rw [if_pos rfl]; exact ⟨rfl, rfl, rfl, rfl⟩⟩, ⟨o, H4, ho, hmok, ?_⟩, ⟨fun _ => 0, ?_⟩, ?_⟩
    · refine cS_facts hDc (fun a h1 h2 => ?_) ?_
      · rw [hcell a (by omega) (by omega), hH1, wd_out (by simp [xas]; omega)]
        show (if B + 10 ≤ a ∧ a < B + 10 + 3 * P then _ else _) = if B + 10 ≤ a ∧ a < B + 10 + 3 * P then _ else _
        rw [if_pos ⟨h1, h2⟩, if_pos ⟨h1, h2⟩]
      · have e0 : H4.1 (B) = some (.inl (4, [.ref (B + 9), .ref (B + 1), .ref (B + 2), .ref (B + 3), .ref z, .ref (B + 7), .long 0, .int 0, .int 0, .int 0, .int 0])) := by rw [hcell _ (by omega) (by omega), hH1]; exact wd_at (q := 0) hDa rfl rfl
        have e1 : H4.1 (B + 1) = some (.inr (.inl (64, fun _ => 0))) := by rw [hcell _ (by omega) (by omega), hH1]; exact wd_at (q := 3) hDa rfl rfl
        have e2 : H4.1 (B + 2) = some (.inr (.inl (8, fun _ => 0))) := by rw [hcell _ (by omega) (by omega), hH1]; exact wd_at (q := 4) hDa rfl rfl
        have e3 : H4.1 (B + 3) = some (.inl (0, [.ref (B + 4), .ref (B + 5), .ref (B + 6), .int 0])) := by rw [hcell _ (by omega) (by omega), hH1]; exact wd_at (q := 5) hDa rfl rfl
        have e4 : H4.1 (B + 4) = some (.inr (.inl (64, fun _ => 0))) := by rw [hcell _ (by omega) (by omega), hH1]; exact wd_at (q := 6) hDa rfl rfl
        have e5 : H4.1 (B + 5) = some (.inr (.inl (64, fun _ => 0))) := by rw [hcell _ (by omega) (by omega), hH1]; exact wd_at (q := 7) hDa rfl rfl
        have e6 : H4.1 (B + 6) = some (.inr (.inl (8, fun _ => 0))) := by rw [hcell _ (by omega) (by omega), hH1]; exact wd_at (q := 8) hDa rfl rfl
        have e7 : H4.1 (B + 7) = some (.inl (2, [.ref (B + 8), .int (-1), .int (-1), .int (-1), .int (-1)])) := by rw [hcell _ (by omega) (by omega), hH1]; exact wd_at (q := 9) hDa rfl rfl
        have e8 : H4.1 (B + 8) = some (.inr (.inr (.inr (32, fun _ => none)))) := by rw [hcell _ (by omega) (by omega), hH1]; exact wd_at (q := 10) hDa rfl rfl
        have e9 : H4.1 (z) = some (.inl (3, [.ref (z + 1), .ref (z + 5), .ref (z + 6), .ref (z + 7), .ref (z + 8), .ref (z + 9)])) := by rw [hcell _ (by omega) (by omega), hH1]; exact wd_at (q := 12) hDa rfl rfl
        have e10 : H4.1 (z + 1) = some (.inl (0, [.ref (z + 2), .ref (z + 3), .ref (z + 4), .int L])) := by rw [hcell _ (by omega) (by omega), hH1]; exact wd_at (q := 13) hDa rfl rfl
        have e11 : H4.1 (z + 2) = some (.inr (.inl (64, gm))) := by rw [hcell _ (by omega) (by omega), hH1]; exact wd_at (q := 14) hDa rfl rfl
        have e12 : H4.1 (z + 3) = some (.inr (.inl (64, gs))) := by rw [hcell _ (by omega) (by omega), hH1]; exact wd_at (q := 15) hDa rfl rfl
        have e13 : H4.1 (z + 4) = some (.inr (.inl (8, gh))) := by rw [hcell _ (by omega) (by omega), hH1]; exact wd_at (q := 16) hDa rfl rfl
        have e14 : H4.1 (z + 5) = some (.inr (.inl (8, va_cpy (kdf K I (cel n sf 1).toInt64 1) (fun _ => 0) 0 0 8))) := by rw [hcell _ (by omega) (by omega), hH1]; exact wd_at (q := 17) hDa rfl rfl
        have e15 : H4.1 (z + 6) = some (.inr (.inl (8, va_cpy (kdf K I (cel n sf 1).toInt64 2) (fun _ => 0) 0 0 8))) := by rw [hcell _ (by omega) (by omega), hH1]; exact wd_at (q := 18) hDa rfl rfl
        have e16 : H4.1 (z + 7) = some (.inr (.inl (8, fun _ => 0))) := by rw [hcell _ (by omega) (by omega), hH1]; exact wd_at (q := 19) hDa rfl rfl
        have e17 : H4.1 (z + 8) = some (.inr (.inl (16, fun _ => 0))) := by rw [hcell _ (by omega) (by omega), hH1]; exact wd_at (q := 20) hDa rfl rfl
        have e18 : H4.1 (z + 9) = some (.inr (.inl (16, fun _ => 0))) := by rw [hcell _ (by omega) (by omega), hH1]; exact wd_at (q := 21) hDa rfl rfl
        have f9 : H4.1 (B + 9) = some (.inr (.inr (.inr (P, fun k => some (B + 10 + 3 * k))))) := by rw [hH4, ev_up_1, if_pos rfl]
        have s0 : H4.1 (sa 0) = _ := (hlow _ l0).trans g0
        have s1 : H4.1 (sa 1) = _ := (hlow _ l1).trans g1
        have s2 : H4.1 (sa 2) = _ := (hlow _ l2).trans g2
        simp only [cas, List.map_cons, List.map_nil]
        rw [e0, e1, e2, e3, e4, e5, e6, e7, e8, e9, e10, e11, e12, e13, e14, e15, e16, e17, e18, f9, s0, s1, s2]
        rfl
    · refine mo_move (h := G2) hDm hmok (fun a h1 h2 => ?_) ?_ ?_
      · rw [h43 a (by omega), hH3]
      · rw [h43 _ (by omega), hH3]
      · rw [h43 _ (by omega), hH3]
    · rw [h43 _ (by omega), hH3, wd_out hnM, hG2]
      exact wd_at (q := 0) (by simp) rfl rfl
    · rw [hlow _ hscB]; exact hsc
  · have hq0 : ∀ (as : List Nat) (os : List e_O) (c : Option (Nat × Nat)), sc ∉ as → (wd as os (f0, c)).1 sc = some (.inr (.inl (n, sf))) := fun as os c h => by rw [wd_out h]; exact hsc
    have hq1 : ∀ (as : List Nat) (os : List e_O) (c : Option (Nat × Nat)), sc ∉ as → (wd as os (H1.1, c)).1 sc = some (.inr (.inl (n, sf))) := fun as os c h => by rw [wd_out h]; exact (low _ hscB).trans hsc
    refine EV.cls (H' := wd [] [] (f0, some (B, 0))) (wd_nil _).symm ?_
    refine EI.newO (B + 1) 11 [B] [.inl (4, [.null, .null, .null, .null, .null, .null, .long 0, .int 0, .int 0, .int 0, .int 0])] (by simp) rfl rfl rfl rfl rfl rfl ?_
    repeat refine EV.s rfl rfl rfl ?_
    refine EV.call rfl (r_cell 6 sc n 0 sf _ (hq0 _ _ _ (by simp; omega)) (by omega) (by decide)) ?_
    repeat refine EV.s rfl rfl rfl ?_
    refine EV.call rfl (r_cell 6 sc n 1 sf _ (hq0 _ _ _ (by simp; omega)) (by omega) (by decide)) ?_
    repeat refine EV.s rfl rfl rfl ?_
    refine EV.cls (H' := wd [B, sa 0, sa 1] [.inl (4, [.null, .null, .null, .null, .null, .null, .long 0, .int 0, .int 0, .int 0, .int 0]), .inr (.inl (8, I)), .inr (.inl (64, K))] (f0, some (B + 1, 11))) ?_ ?_
    · have ew : wd [sa 0, sa 1] [.inr (.inl (8, I)), .inr (.inl (64, K))] (f0, some (B + 1, 11)) = (f0, some (B + 1, 11)) := by
        rw [wd_cons, wd_cons, wd_nil, up_same (h := (f0, some (B + 1, 11))) g1, up_same (h := (f0, some (B + 1, 11))) g0]
      show wd [B] [.inl (4, [.null, .null, .null, .null, .null, .null, .long 0, .int 0, .int 0, .int 0, .int 0])] (f0, some (B + 1, 11)) = wd ([B] ++ [sa 0, sa 1]) ([.inl (4, [.null, .null, .null, .null, .null, .null, .long 0, .int 0, .int 0, .int 0, .int 0])] ++ [.inr (.inl (8, I)), .inr (.inl (64, K))]) (f0, some (B + 1, 11))
      rw [wd_app rfl, ew]
    refine EV.call rfl hr1 ?_
    repeat refine EV.s rfl rfl rfl ?_
    refine EV.cls (H' := wd [] [] (H1.1, some (M, 462 + 49 * P))) (by rw [wd_nil, ← H1_2]) ?_
    refine EI.newO (M + 1) (462 + 49 * P + 30) [M] [.inl (5, [.int 0, .int 0, .null, .null, .null, .null, .null, .null, .null, .null, .null, .null, .null, .int 0, .int 0, .int 0, .int 0, .long 0, .null, .null, .null, .null, .null, .null, .null, .int 0, .int 0, .int 0, .int 0, .int 0])] (by simp) rfl rfl rfl rfl rfl rfl ?_
    repeat refine EV.s rfl rfl rfl ?_
    refine EV.call rfl (r_cell 6 sc n 0 sf _ (hq1 _ _ _ (by simp; omega)) (by omega) (by decide)) ?_
    repeat refine EV.s rfl rfl rfl ?_
    refine EV.call rfl (r_cell 6 sc n 1 sf _ (hq1 _ _ _ (by simp; omega)) (by omega) (by decide)) ?_
    repeat refine EV.s rfl rfl rfl ?_
    refine EV.call rfl hr2 ?_
    repeat refine EV.s rfl rfl rfl ?_
    rw [hH2]
    refine EI.newL 1 (M + 20) (462 + 49 * P + 30 + 2120 + 1) (mas M sa ++ [M + 19]) (o ++ [.inr (.inr (.inl (1, fun _ => 0)))]) hnM (by rw [hmok.1]; rfl) rfl rfl (by decide) rfl rfl rfl rfl ?_
    refine EV.cls (H' := H3) (by rw [wd_app (by rw [hmok.1]; rfl), hH3, hG2]) ?_
    refine EV.s rfl rfl rfl ?_
    refine EV.s rfl rfl rfl ?_
    refine EV.s rfl rfl rfl ?_
    exact EV.fin rfl
end LIN
