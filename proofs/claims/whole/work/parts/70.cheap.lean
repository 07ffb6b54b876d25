/-! The class's heap: fixed cells over the pages. -/
def pfs (B : Nat) (F : Nat → Nat → Int32) (k : Nat) : List Value := [.ref (B + 11 + 3 * k), .ref (B + 12 + 3 * k), .int (F 0 k), .int (F 1 k), .int (F 2 k), .int (F 3 k), .int (F 4 k), .int (F 5 k)]
def pcl (B : Nat) (F w ms : Nat → Nat → Int32) (k i : Nat) : e_O := if i = 0 then .inl (1, pfs B F k) else if i = 1 then .inr (.inl (32, w k)) else .inr (.inl (8, ms k))
def pgH (B P : Nat) (F w ms : Nat → Nat → Int32) (h : e_H) : e_H := (fun b => if B + 10 ≤ b ∧ b < B + 10 + 3 * P then some (pcl B F w ms ((b - (B + 10)) / 3) ((b - (B + 10)) % 3)) else h.1 b, h.2)
def cas (B z : Nat) (sa : Nat → Nat) : List Nat := [B, B + 1, B + 2, B + 3, B + 4, B + 5, B + 6, B + 7, B + 8, B + 9, z, z + 1, z + 2, z + 3, z + 4, z + 5, z + 6, z + 7, z + 8, z + 9, sa 0, sa 1, sa 2]
def xfs (B z : Nat) (c0 c1 c2 c3 : Int32) (lg : Int64) : List Value := [.ref (B + 9), .ref (B + 1), .ref (B + 2), .ref (B + 3), .ref z, .ref (B + 7), .long lg, .int c3, .int c1, .int c2, .int c0]
def cos (B P z : Nat) (c0 c1 c2 c3 : Int32) (lg : Int64) (o0 o1 o2 o3 : Int32) (Bf D : Nat → Int32) (L : Int32) (hm hs hh : Nat → Int32) (sp : Nat → Option Nat) (L2 : Int32) (gm gs gh key mark X S Bk I K : Nat → Int32) : List e_O := [.inl (4, xfs B z c0 c1 c2 c3 lg), .inr (.inl (64, Bf)), .inr (.inl (8, D)), .inl (0, [.ref (B + 4), .ref (B + 5), .ref (B + 6), .int L]), .inr (.inl (64, hm)), .inr (.inl (64, hs)), .inr (.inl (8, hh)), .inl (2, [.ref (B + 8), .int o0, .int o1, .int o2, .int o3]), .inr (.inr (.inr (32, sp))), .inr (.inr (.inr (P, fun k => some (B + 10 + 3 * k)))), .inl (3, [.ref (z + 1), .ref (z + 5), .ref (z + 6), .ref (z + 7), .ref (z + 8), .ref (z + 9)]), .inl (0, [.ref (z + 2), .ref (z + 3), .ref (z + 4), .int L2]), .inr (.inl (64, gm)), .inr (.inl (64, gs)), .inr (.inl (8, gh)), .inr (.inl (8, key)), .inr (.inl (8, mark)), .inr (.inl (8, X)), .inr (.inl (16, S)), .inr (.inl (16, Bk)), .inr (.inl (8, I)), .inr (.inl (64, K)), .inr (.inl (4, cc4))]
theorem pg_0 {B P k : Nat} {F w ms : Nat → Nat → Int32} {h : e_H} (hk : k < P) : (pgH B P F w ms h).1 (B + 10 + 3 * k) = some (.inl (1, pfs B F k)) := by
  show (if B + 10 ≤ B + 10 + 3 * k ∧ B + 10 + 3 * k < B + 10 + 3 * P then _ else _) = _
  rw [if_pos (by omega), show (B + 10 + 3 * k - (B + 10)) / 3 = k by omega, show (B + 10 + 3 * k - (B + 10)) % 3 = 0 by omega]; rfl
theorem pg_1 {B P k : Nat} {F w ms : Nat → Nat → Int32} {h : e_H} (hk : k < P) : (pgH B P F w ms h).1 (B + 11 + 3 * k) = some (.inr (.inl (32, w k))) := by
  show (if B + 10 ≤ B + 11 + 3 * k ∧ B + 11 + 3 * k < B + 10 + 3 * P then _ else _) = _
  rw [if_pos (by omega), show (B + 11 + 3 * k - (B + 10)) / 3 = k by omega, show (B + 11 + 3 * k - (B + 10)) % 3 = 1 by omega]; rfl
theorem pg_2 {B P k : Nat} {F w ms : Nat → Nat → Int32} {h : e_H} (hk : k < P) : (pgH B P F w ms h).1 (B + 12 + 3 * k) = some (.inr (.inl (8, ms k))) := by
  show (if B + 10 ≤ B + 12 + 3 * k ∧ B + 12 + 3 * k < B + 10 + 3 * P then _ else _) = _
  rw [if_pos (by omega), show (B + 12 + 3 * k - (B + 10)) / 3 = k by omega, show (B + 12 + 3 * k - (B + 10)) % 3 = 2 by omega]; rfl
theorem pg_u0 {B P k : Nat} {F F' w ms : Nat → Nat → Int32} {h : e_H} {fs : List Value} (hk : k < P) (hF : ∀ i q, q ≠ k → F' i q = F i q) (hfs : fs = pfs B F' k) : ev_up (pgH B P F w ms h) (B + 10 + 3 * k) (.inl (1, fs)) = pgH B P F' w ms h := by
  subst hfs
  refine Prod.ext ?_ rfl
  funext b
  rw [ev_up_1]
  show _ = if B + 10 ≤ b ∧ b < B + 10 + 3 * P then _ else _
  by_cases e : b = B + 10 + 3 * k
  · rw [if_pos e, if_pos (by omega), e, show (B + 10 + 3 * k - (B + 10)) / 3 = k by omega, show (B + 10 + 3 * k - (B + 10)) % 3 = 0 by omega]; rfl
  · rw [if_neg e]
    show (if B + 10 ≤ b ∧ b < B + 10 + 3 * P then _ else _) = _
    by_cases c : B + 10 ≤ b ∧ b < B + 10 + 3 * P
    · rw [if_pos c, if_pos c]
      unfold pcl
      by_cases i0 : (b - (B + 10)) % 3 = 0
      · rw [if_pos i0, if_pos i0]
        have hq : (b - (B + 10)) / 3 ≠ k := by omega
        unfold pfs
        rw [hF 0 _ hq, hF 1 _ hq, hF 2 _ hq, hF 3 _ hq, hF 4 _ hq, hF 5 _ hq]
      · rw [if_neg i0, if_neg i0]
    · rw [if_neg c, if_neg c]
theorem pg_u1 {B P k : Nat} {F w ms : Nat → Nat → Int32} {h : e_H} {f : Nat → Int32} (hk : k < P) : ev_up (pgH B P F w ms h) (B + 11 + 3 * k) (.inr (.inl (32, f))) = pgH B P F (upp w k f) ms h := by
  refine Prod.ext ?_ rfl
  funext b
  rw [ev_up_1]
  show _ = if B + 10 ≤ b ∧ b < B + 10 + 3 * P then _ else _
  by_cases e : b = B + 11 + 3 * k
  · rw [if_pos e, if_pos (by omega), e, show (B + 11 + 3 * k - (B + 10)) / 3 = k by omega, show (B + 11 + 3 * k - (B + 10)) % 3 = 1 by omega]
    unfold pcl
    rw [if_neg (by decide), if_pos rfl, upp_at]
  · rw [if_neg e]
    show (if B + 10 ≤ b ∧ b < B + 10 + 3 * P then _ else _) = _
    by_cases c : B + 10 ≤ b ∧ b < B + 10 + 3 * P
    · rw [if_pos c, if_pos c]
      unfold pcl
      by_cases i1 : (b - (B + 10)) % 3 = 1
      · have i0 : ¬ (b - (B + 10)) % 3 = 0 := by omega
        rw [if_neg i0, if_neg i0, if_pos i1, if_pos i1, upp_ne _ _ (by omega)]
      · rw [if_neg i1, if_neg i1]
    · rw [if_neg c, if_neg c]
theorem pg_u2 {B P k : Nat} {F w ms : Nat → Nat → Int32} {h : e_H} {f : Nat → Int32} (hk : k < P) : ev_up (pgH B P F w ms h) (B + 12 + 3 * k) (.inr (.inl (8, f))) = pgH B P F w (upp ms k f) h := by
  refine Prod.ext ?_ rfl
  funext b
  rw [ev_up_1]
  show _ = if B + 10 ≤ b ∧ b < B + 10 + 3 * P then _ else _
  by_cases e : b = B + 12 + 3 * k
  · rw [if_pos e, if_pos (by omega), e, show (B + 12 + 3 * k - (B + 10)) / 3 = k by omega, show (B + 12 + 3 * k - (B + 10)) % 3 = 2 by omega]
    unfold pcl
    rw [if_neg (by decide), if_neg (by decide), upp_at]
  · rw [if_neg e]
    show (if B + 10 ≤ b ∧ b < B + 10 + 3 * P then _ else _) = _
    by_cases c : B + 10 ≤ b ∧ b < B + 10 + 3 * P
    · rw [if_pos c, if_pos c]
      unfold pcl
      by_cases i0 : (b - (B + 10)) % 3 = 0
      · rw [if_pos i0, if_pos i0]
      · by_cases i1 : (b - (B + 10)) % 3 = 1
        · rw [if_neg i0, if_neg i0, if_pos i1, if_pos i1]
        · rw [if_neg i0, if_neg i0, if_neg i1, if_neg i1, upp_ne _ _ (by omega)]
    · rw [if_neg c, if_neg c]
theorem uF_ne {F : Nat → Nat → Int32} {i k : Nat} {x : Int32} : ∀ a q, q ≠ k → uF F i k x a q = F a q := by
  intro a q hq
  unfold uF upp
  by_cases e : a = i
  · rw [if_pos e]; show (if q = k then x else F i q) = _; rw [if_neg hq, e]
  · rw [if_neg e]
/-- cells outside the fixed ones -/
theorem wd_upo {as : List Nat} {os : List e_O} {h : e_H} {a : Nat} {o : e_O} (hn : a ∉ as) : ev_up (wd as os h) a o = wd as os (ev_up h a o) := by
  refine Prod.ext ?_ rfl
  funext b
  rw [ev_up_1]
  by_cases e : b = a
  · rw [if_pos e, e, wd_out hn, ev_up_1, if_pos rfl]
  · rw [if_neg e]
    by_cases hb : b ∈ as
    · obtain ⟨q, hq⟩ := List.getElem?_of_mem hb
      show (match ev_lk as os b with | some o => some o | none => h.1 b) = match ev_lk as os b with | some o => some o | none => (ev_up h a o).1 b
      rw [ev_up_1, if_neg e]
    · rw [wd_out hb, wd_out hb, ev_up_1, if_neg e]
/-- a callee over its own world, in a heap that holds it -/
theorem RUN.lift {bs : Nat} {sa : Nat → Nat} {d y : Nat} {avs : List Value} {rv : Option Value} {as1 : List Nat} {os1 os2 : List e_O} {H H' : e_H} (hr : ∀ h0, ev_run tbs bs sa d y avs (wd as1 os1 h0) rv (wd as1 os2 h0)) (hn : as1.Nodup) (hl : as1.length = os1.length) (h1 : ∀ (q a : Nat) (o : e_O), as1[q]? = some a → os1[q]? = some o → H.1 a = some o) (h2 : wd as1 os2 H = H') : ev_run tbs bs sa d y avs H rv H' := by
  have q := hr H
  rw [wd_self hn hl h1, h2] at q
  exact q
/-- what the reading methods need -/
def cR (B P : Nat) (F : Nat → Nat → Int32) (H : e_H) : Prop := (∃ fs, H.1 B = some (.inl (4, .ref (B + 9) :: fs))) ∧ H.1 (B + 9) = some (.inr (.inr (.inr (P, fun k => some (B + 10 + 3 * k))))) ∧ ∀ k, k < P → H.1 (B + 10 + 3 * k) = some (.inl (1, pfs B F k))
