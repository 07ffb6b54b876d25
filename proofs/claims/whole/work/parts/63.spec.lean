/-! What each call does: the state that both sides keep.
    F: per page, 0 type, 1 owner, 2 address, 3 rights, 4 ident, 5 state; words, measures, buffer, lettings go; (idents, wrong tags, wrong versions, takings back); (ended, gave, faulted, made) -/
abbrev zS : Type := (Nat → Nat → Int32) × (Nat → Nat → Int32) × (Nat → Nat → Int32) × (Nat → Int32) × Int64 × (Int32 × Int32 × Int32 × Int32) × (Int32 × Int32 × Int32 × Int32)
abbrev cn (x : Int32) : Nat := x.toNatClampNeg
def uF (F : Nat → Nat → Int32) (i p : Nat) (x : Int32) : Nat → Nat → Int32 := upp F i (upd (F i) p x)
abbrev ty (P : Nat) (F : Nat → Nat → Int32) (p t : Int32) : Prop := 0 ≤ p ∧ p < nI P ∧ F 0 (cn p) = t
abbrev inI (x : Int32) (n : Nat) : Prop := 0 ≤ x ∧ x < nI n
def clF (F : Nat → Nat → Int32) (p : Nat) : Nat → Nat → Int32 := uF (uF (uF (uF (uF (uF F 0 p 0) 1 p (-1)) 2 p 0) 3 p 0) 4 p 0) 5 p 0
def q_create (P : Nat) (p : Int32) : zS → Int32 × zS
  | (F, w, ms, B, lg, (c0, c1, c2, c3), tl) => if ty P F p 0 then (0, (uF (uF (uF F 0 (cn p) 1) 5 (cn p) 0) 4 (cn p) (c0 + 1), w, ms, B, lg, (c0 + 1, c1, c2, c3), tl)) else (1, (F, w, ms, B, lg, (c0, c1, c2, c3), tl))
def q_thread (P : Nat) (K I : Nat → Int32) (e p en : Int32) : zS → Int32 × zS
  | (F, w, ms, z) => if ty P F e 1 ∧ ty P F p 0 then if F 5 (cn e) = 0 then if inI en 1024 then
      (0, (uF (uF F 0 (cn p) 2) 1 (cn p) e, upp w (cn p) (upd (w (cn p)) 0 en), upp ms (cn e) (va_cpy (mea K I (ms (cn e)) 2 en (F 3 (cn p)) (upd (w (cn p)) 0 en)) (ms (cn e)) 0 0 8), z))
    else (3, (F, w, ms, z)) else (2, (F, w, ms, z)) else (1, (F, w, ms, z))
def q_data (P : Nat) (K I : Nat → Int32) (e p a r : Int32) : zS → Int32 × zS
  | (F, w, ms, B, z) => if ty P F e 1 ∧ ty P F p 0 then if F 5 (cn e) = 0 then if inI a 32 ∧ inI r 8 ∧ fat P (F 0) (F 1) (F 2) e a = none then
      (0, (uF (uF (uF (uF F 0 (cn p) 3) 1 (cn p) e) 2 (cn p) a) 3 (cn p) r, upp w (cn p) (va_cpy B (w (cn p)) 0 0 32), upp ms (cn e) (va_cpy (mea K I (ms (cn e)) 3 a r (va_cpy B (w (cn p)) 0 0 32)) (ms (cn e)) 0 0 8), B, z))
    else (3, (F, w, ms, B, z)) else (2, (F, w, ms, B, z)) else (1, (F, w, ms, B, z))
def q_versions (P : Nat) (p : Int32) : zS → Int32 × zS
  | (F, z) => if ty P F p 0 then (0, (uF F 0 (cn p) 4, z)) else (1, (F, z))
def q_finalise (P : Nat) (K I : Nat → Int32) (e : Int32) : zS → Int32 × zS
  | (F, w, ms, z) => if ty P F e 1 then if F 5 (cn e) = 0 then (0, (uF F 5 (cn e) 1, w, upp ms (cn e) (va_cpy (sha K I (fun j => if j < 8 then ms (cn e) j else -1) 9) (ms (cn e)) 0 0 8), z)) else (2, (F, w, ms, z)) else (1, (F, w, ms, z))
def q_stop (P : Nat) (e : Int32) : zS → Int32 × zS
  | (F, z) => if ty P F e 1 then if F 5 (cn e) = 2 then (2, (F, z)) else (0, (uF F 5 (cn e) 2, z)) else (1, (F, z))
abbrev rmv (P : Nat) (F : Nat → Nat → Int32) (p : Int32) : Prop := if F 0 (cn p) = 1 then F 5 (cn p) = 2 ∧ cnt (F 1) p P = 0 else F 0 (cn p) = 4 ∨ (ty P F (F 1 (cn p)) 1 ∧ F 5 (cn (F 1 (cn p))) = 2)
def q_remove (P : Nat) (p : Int32) : zS → Int32 × zS
  | (F, w, ms, z) => if inI p P ∧ F 0 (cn p) ≠ 0 then if rmv P F p then (0, (clF F (cn p), upp w (cn p) (zf (w (cn p)) 0 32), upp ms (cn p) (zf (ms (cn p)) 0 8), z)) else (2, (F, w, ms, z)) else (1, (F, w, ms, z))
/-- a THREAD's run -/
def q_run (P : Nat) (p n : Int32) (r : Nat → Int32) (pc : Int32) : zS → Int32 × zS
  | (F, w, ms, B, lg, c, _) => match rnn P F ms (cn (F 1 (cn p))) (cn n) w r pc 0 0 (-1) with
    | (hw, w', r', pc', m', gv', ft') => (hw, (F, rnf w' (cn p) hw pc' r', ms, B, lg, c, (hw, gv', ft', m')))
abbrev fin1 (P : Nat) (F : Nat → Nat → Int32) (e : Int32) : Prop := ty P F e 1 ∧ F 5 (cn e) = 1
def q_enter (P : Nat) (p a b n : Int32) (s : zS) : Int32 × zS :=
  if ty P s.1 p 2 then if fin1 P s.1 (s.1 1 (cn p)) ∧ s.2.1 (cn p) 1 = 0 then if inI n 5001 then
    q_run P p n (fun k => if k = 0 then a else if k = 1 then b else if k < 8 then 0 else s.2.1 (cn p) (3 + k)) (s.2.1 (cn p) 0) s
  else (-6, s) else (-2, s) else (-1, s)
def q_resume (P : Nat) (p n : Int32) (s : zS) : Int32 × zS :=
  if ty P s.1 p 2 then if fin1 P s.1 (s.1 1 (cn p)) ∧ s.2.1 (cn p) 1 ≠ 0 then if inI n 5001 then
    q_run P p n (fun k => s.2.1 (cn p) (3 + k)) (s.2.1 (cn p) 2) s
  else (-6, s) else (-2, s) else (-1, s)
def q_told (x : Int32) : zS → Int32
  | (_, _, _, _, _, _, (en, gv, ft, m)) => if en = -1 then -1 else if x = 0 then en else if x = 1 then gv else if x = 2 then ft else if x = 3 then m else -1
def evB (F w : Nat → Nat → Int32) (B : Nat → Int32) (lg : Int64) (p : Nat) : Nat → Int32 := upd (upd (upd (upd (upd (upd (upd (upd B 0 (F 0 p)) 1 (F 2 p)) 2 (F 3 p)) 3 (F 4 (cn (F 1 p)))) 4 (up64 lg)) 5 lg.toInt32) 6 0) 7 0
def evC (F w : Nat → Nat → Int32) (B key : Nat → Int32) (lg : Int64) (p : Nat) : Nat → Int32 := xk (va_cpy (w p) (evB F w B lg p) 0 8 32) 8 (sm cc4 key (up64 lg) lg.toInt32) 32
def evD (F w : Nat → Nat → Int32) (B K I key mark : Nat → Int32) (lg : Int64) (p : Nat) : Nat → Int32 := va_cpy (hmo K I mark (evC F w B key lg p) 40) (evC F w B key lg p) 0 40 8
def svW (w : Nat → Nat → Int32) (v s : Nat) (x : Int64) : Nat → Nat → Int32 := upp w v (upd (upd (w v) (2 * s) (up64 x)) (2 * s + 1) x.toInt32)
def q_evict (P : Nat) (K I key mark : Nat → Int32) (p v sl : Int32) : zS → Int32 × zS
  | (F, w, ms, B, lg, z) => if (ty P F p 2 ∨ ty P F p 3) ∧ ty P F v 4 then if fin1 P F (F 1 (cn p)) then if inI sl 16 ∧ jn (w (cn v) (2 * cn sl)) (w (cn v) (2 * cn sl + 1)) = 0 then
      (0, (clF F (cn p), upp (svW w (cn v) (cn sl) (lg + 1)) (cn p) (zf (w (cn p)) 0 32), upp ms (cn p) (zf (ms (cn p)) 0 8), evD F w B K I key mark (lg + 1) (cn p), lg + 1, z))
    else (3, (F, w, ms, B, lg, z)) else (2, (F, w, ms, B, lg, z)) else (1, (F, w, ms, B, lg, z))
abbrev tgd (K I mark B : Nat → Int32) : Prop := ∀ j, j < 8 → B (40 + j) = hmo K I mark B 40 j
abbrev frs (F w : Nat → Nat → Int32) (B : Nat → Int32) (e v s : Nat) : Prop := (jn (B 4) (B 5) ≠ 0 ∧ jn (B 4) (B 5) = jn (w v (2 * s)) (w v (2 * s + 1))) ∧ B 3 = F 4 e
def q_reload (P : Nat) (K I key mark : Nat → Int32) (p e v sl : Int32) : zS → Int32 × zS
  | (F, w, ms, B, lg, (c0, c1, c2, c3), tl) => if ty P F p 0 ∧ ty P F e 1 ∧ ty P F v 4 then if F 5 (cn e) = 1 then if inI sl 16 then if tgd K I mark B then if frs F w B (cn e) (cn v) (cn sl) then
      (0, ((if B 0 = 2 then uF (uF F 0 (cn p) 2) 1 (cn p) e else uF (uF (uF (uF F 0 (cn p) 3) 1 (cn p) e) 2 (cn p) (B 1)) 3 (cn p) (B 2)), svW (upp w (cn p) (xk (va_cpy B (w (cn p)) 8 0 32) 0 (sm cc4 key (B 4) (B 5)) 32)) (cn v) (cn sl) 0, ms, B, lg, (c0, c1, c2, c3 + 1), tl))
    else (5, (F, w, ms, B, lg, (c0, c1, c2 + 1, c3), tl)) else (4, (F, w, ms, B, lg, (c0, c1 + 1, c2, c3), tl)) else (3, (F, w, ms, B, lg, (c0, c1, c2, c3), tl)) else (2, (F, w, ms, B, lg, (c0, c1, c2, c3), tl)) else (1, (F, w, ms, B, lg, (c0, c1, c2, c3), tl))
def q_page (P : Nat) (p x : Int32) : zS → Int32
  | (F, w, _) => if inI p P then (if x = 0 then F 0 (cn p) else if x = 1 then F 1 (cn p) else if x = 2 then (if F 0 (cn p) = 3 then F 2 (cn p) else -1) else if x = 3 then F 3 (cn p) else if x = 4 then F 4 (cn p) else if x = 5 then (if F 0 (cn p) = 1 then F 5 (cn p) else -1) else if x = 6 then cnt (F 1) p P else if x = 7 then (if F 0 (cn p) = 2 ∧ w (cn p) 1 ≠ 0 then 1 else 0) else -1) else -1
def q_measure (P : Nat) (e k : Int32) : zS → Int32
  | (F, _, ms, _) => if ty P F e 1 ∧ inI k 8 then ms (cn e) (cn k) else 0
def q_slot (P : Nat) (v sl : Int32) : zS → Int64
  | (F, w, _) => if ty P F v 4 ∧ inI sl 16 then jn (w (cn v) (2 * cn sl)) (w (cn v) (2 * cn sl + 1)) else 0
def q_count (P : Nat) (x : Int32) : zS → Int32
  | (F, _, _, _, lg, (c0, c1, c2, c3), _) => if x = 0 then nI P else if 1 ≤ x ∧ x ≤ 5 then cnt (F 0) (x - 1) P else if x = 6 then lg.toInt32 else if x = 7 then c3 else if x = 8 then c1 else if x = 9 then c2 else if x = 10 then c0 else -1
/-- a FREE page is clear; owners are ENCLAVEs -/
def Iv (P : Nat) (s : zS) : Prop := ∀ p, p < P →
  (s.1 0 p = 0 → s.1 2 p = 0 ∧ s.1 5 p = 0 ∧ (∀ i, i < 32 → s.2.1 p i = 0) ∧ (∀ i, i < 8 → s.2.2.1 p i = 0)) ∧
  (s.1 0 p = 0 ∨ s.1 0 p = 1 ∨ s.1 0 p = 2 ∨ s.1 0 p = 3 ∨ s.1 0 p = 4) ∧
  (s.1 0 p = 2 ∨ s.1 0 p = 3 → ∃ e, e < P ∧ s.1 1 p = nI e ∧ s.1 0 e = 1) ∧
  (s.1 0 p ≠ 2 → s.1 0 p ≠ 3 → s.1 1 p = -1) ∧
  (s.1 0 p ≠ 3 → s.1 3 p = 0) ∧ (s.1 0 p ≠ 1 → s.1 4 p = 0)
/-- the model's world -/
def mas (M : Nat) (sa : Nat → Nat) : List Nat := [M, M + 1, M + 2, M + 3, M + 4, M + 5, M + 6, M + 7, M + 8, M + 9, M + 10, M + 11, M + 12, M + 13, M + 14, M + 15, M + 16, M + 17, M + 18, sa 3, sa 4]
def mo (M P : Nat) (th c0 c1 c2 c3 : Int32) (lg : Int64) (pc mk en gv ft : Int32) (F w ms : Nat → Nat → Int32) (B key mark A H G T S St r I K : Nat → Int32) : List e_O := [.inl (5, (mf M P th c0 c1 c2 c3 lg pc mk en gv ft)), .inr (.inl (40, F 0)), .inr (.inl (40, F 1)), .inr (.inl (40, F 2)), .inr (.inl (40, F 3)), .inr (.inl (40, F 4)), .inr (.inl (40, F 5)), .inr (.inl (1280, fl32 w)), .inr (.inl (320, fl8 ms)), .inr (.inl (64, B)), .inr (.inl (8, key)), .inr (.inl (8, mark)), .inr (.inl (80, A)), .inr (.inl (8, H)), .inr (.inl (64, G)), .inr (.inl (8, T)), .inr (.inl (16, S)), .inr (.inl (16, St)), .inr (.inl (8, r)), .inr (.inl (8, I)), .inr (.inl (64, K))]
def mS (M P : Nat) (key mark I K : Nat → Int32) (s : zS) (o : List e_O) : Prop := match s with
  | (F, w, ms, B, lg, (c0, c1, c2, c3), (en, gv, ft, m)) => ∃ th pc A H G T S St r, o = (mo M P th c0 c1 c2 c3 lg pc m en gv ft F w ms B key mark A H G T S St r I K)
