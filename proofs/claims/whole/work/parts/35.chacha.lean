/-! ChaCha20's block, as both sides compute it; the Sealer's methods. -/
def rl (x b : Int32) : Int32 := (x <<< (b &&& 31)) ||| us x (32 - b)
theorem rl_16 (x : Int32) : rl x 16 = rr x 16 := by
  unfold rl rr; rw [Int32.or_comm, show (32 - 16 : Int32) = 16 from by decide]
theorem rl_12 (x : Int32) : rl x 12 = rr x 20 := by
  unfold rl rr; rw [Int32.or_comm, show (32 - 12 : Int32) = 20 from by decide, show (32 - 20 : Int32) = 12 from by decide]
theorem rl_8 (x : Int32) : rl x 8 = rr x 24 := by
  unfold rl rr; rw [Int32.or_comm, show (32 - 8 : Int32) = 24 from by decide, show (32 - 24 : Int32) = 8 from by decide]
theorem rl_7 (x : Int32) : rl x 7 = rr x 25 := by
  unfold rl rr; rw [Int32.or_comm, show (32 - 7 : Int32) = 25 from by decide, show (32 - 25 : Int32) = 7 from by decide]
def qa (B : Nat → Int32) (a b : Nat) : Nat → Int32 := upd B a (B a + B b)
def qx (B : Nat → Int32) (d a : Nat) (r : Int32) : Nat → Int32 := upd B d (rr (B d ^^^ B a) r)
def qr (B : Nat → Int32) (a b c d : Nat) : Nat → Int32 := qx (qa (qx (qa (qx (qa (qx (qa B a b) d a 16) c d) b c 20) a b) d a 24) c d) b c 25
def dr (B : Nat → Int32) : Nat → Int32 := qr (qr (qr (qr (qr (qr (qr (qr B 0 4 8 12) 1 5 9 13) 2 6 10 14) 3 7 11 15) 0 5 10 15) 1 6 11 12) 2 7 8 13) 3 4 9 14
def drs (B : Nat → Int32) : Nat → Nat → Int32
  | 0 => B
  | n + 1 => dr (drs B n)
/-- two rows that are alike in their first 16 places -/
def al (B C : Nat → Int32) : Prop := ∀ k, k < 16 → B k = C k
theorem qa_al {B C : Nat → Int32} {a b : Nat} (h : al B C) (ha : a < 16) (hb : b < 16) : al (qa B a b) (qa C a b) := by
  intro k hk
  simp only [qa, upd]
  rw [h a ha, h b hb, h k hk]
theorem qx_al {B C : Nat → Int32} {d a : Nat} {r : Int32} (h : al B C) (hd : d < 16) (ha : a < 16) : al (qx B d a r) (qx C d a r) := by
  intro k hk
  simp only [qx, upd]
  rw [h a ha, h d hd, h k hk]
theorem qr_al {B C : Nat → Int32} {a b c d : Nat} (h : al B C) (ha : a < 16) (hb : b < 16) (hc : c < 16) (hd : d < 16) : al (qr B a b c d) (qr C a b c d) :=
  qx_al (qa_al (qx_al (qa_al (qx_al (qa_al (qx_al (qa_al h ha hb) hd ha) hc hd) hb hc) ha hb) hd ha) hc hd) hb hc
theorem dr_al {B C : Nat → Int32} (h : al B C) : al (dr B) (dr C) := by
  unfold dr
  refine qr_al (qr_al (qr_al (qr_al (qr_al (qr_al (qr_al (qr_al h ?_ ?_ ?_ ?_) ?_ ?_ ?_ ?_) ?_ ?_ ?_ ?_) ?_ ?_ ?_ ?_) ?_ ?_ ?_ ?_) ?_ ?_ ?_ ?_) ?_ ?_ ?_ ?_) ?_ ?_ ?_ ?_ <;> decide
theorem drs_al {B C : Nat → Int32} (h : al B C) : ∀ n, al (drs B n) (drs C n) := by
  intro n
  induction n with
  | zero => exact h
  | succ n ih => exact dr_al ih
/-- the block's first words -/
def cst (C key : Nat → Int32) (ct u l : Int32) : Nat → Int32 := fun k => if k < 4 then C k else if k < 12 then key (k - 4) else if k = 12 then ct else if k = 13 then 0 else if k = 14 then u else l
def cha (C key : Nat → Int32) (ct u l : Int32) : Nat → Int32 := fun k => drs (cst C key ct u l) 10 k + cst C key ct u l k
section CHA
variable {bs : Nat} {sa : Nat → Nat}
theorem r_turnLeft (d : Nat) (x b : Int32) (h : e_H) : ev_run tbs bs sa (d + 1) 33 [.int x, .int b] h (some (.int (rl x b))) h := by
  refine RUN.mk (T := t_X3_turnLeft) rfl (Nat.le_of_ble_eq_true rfl) ?_
  repeat refine EV.s rfl rfl rfl ?_
  refine EV.ri rfl rfl ?_
  rfl
theorem r_tl (d : Nat) (b c : Int32) (hb : ∀ x, rl x b = rr x c) (x : Int32) (h : e_H) : ev_run tbs bs sa (d + 1) 33 [.int x, .int b] h (some (.int (rr x c))) h := by
  rw [← hb x]; exact r_turnLeft d x b h
set_option maxHeartbeats 1000000 in
theorem r_mixQuarter (d : Nat) (z bl a b c e : Nat) (v0 v1 v2 v3 v4 : Value) (B : Nat → Int32) (h : e_H) (hD : [z, bl].Nodup) (hbb : bs ≤ bl) (ha : a < 16) (hb : b < 16) (hc : c < 16) (he : e < 16) :
    ev_run tbs bs sa (d + 2) 32 [.ref z, .int (nI a), .int (nI b), .int (nI c), .int (nI e)] (wd [z, bl] [.inl (3, [v0, v1, v2, v3, v4, .ref bl]), .inr (.inl (16, B))] h) none (wd [z, bl] [.inl (3, [v0, v1, v2, v3, v4, .ref bl]), .inr (.inl (16, qr B a b c e))] h) := by
  refine RUN.mk (T := t_X3_mixQuarter) rfl (Nat.le_of_ble_eq_true rfl) ?_
  repeat (first | refine EV.s rfl rfl rfl ?_ | refine EW.get 0 hD rfl rfl rfl rfl ?_)
  refine EW.iald 1 a hD rfl rfl rfl rfl ha (by decide) ?_
  repeat (first | refine EV.s rfl rfl rfl ?_ | refine EW.get 0 hD rfl rfl rfl rfl ?_)
  refine EW.iald 1 b hD rfl rfl rfl rfl hb (by decide) ?_
  repeat refine EV.s rfl rfl rfl ?_
  refine EW.iast 1 a hD rfl rfl rfl hbb rfl ha (by decide) ?_
  repeat (first | refine EV.s rfl rfl rfl ?_ | refine EW.get 0 hD rfl rfl rfl rfl ?_)
  refine EW.iald 1 e hD rfl rfl rfl rfl he (by decide) ?_
  repeat (first | refine EV.s rfl rfl rfl ?_ | refine EW.get 0 hD rfl rfl rfl rfl ?_)
  refine EW.iald 1 a hD rfl rfl rfl rfl ha (by decide) ?_
  repeat refine EV.s rfl rfl rfl ?_
  refine EV.call rfl (r_tl _ _ _ rl_16 _ _) ?_
  refine EW.iast 1 e hD rfl rfl rfl hbb rfl he (by decide) ?_
  repeat (first | refine EV.s rfl rfl rfl ?_ | refine EW.get 0 hD rfl rfl rfl rfl ?_)
  refine EW.iald 1 c hD rfl rfl rfl rfl hc (by decide) ?_
  repeat (first | refine EV.s rfl rfl rfl ?_ | refine EW.get 0 hD rfl rfl rfl rfl ?_)
  refine EW.iald 1 e hD rfl rfl rfl rfl he (by decide) ?_
  repeat refine EV.s rfl rfl rfl ?_
  refine EW.iast 1 c hD rfl rfl rfl hbb rfl hc (by decide) ?_
  repeat (first | refine EV.s rfl rfl rfl ?_ | refine EW.get 0 hD rfl rfl rfl rfl ?_)
  refine EW.iald 1 b hD rfl rfl rfl rfl hb (by decide) ?_
  repeat (first | refine EV.s rfl rfl rfl ?_ | refine EW.get 0 hD rfl rfl rfl rfl ?_)
  refine EW.iald 1 c hD rfl rfl rfl rfl hc (by decide) ?_
  repeat refine EV.s rfl rfl rfl ?_
  refine EV.call rfl (r_tl _ _ _ rl_12 _ _) ?_
  refine EW.iast 1 b hD rfl rfl rfl hbb rfl hb (by decide) ?_
  repeat (first | refine EV.s rfl rfl rfl ?_ | refine EW.get 0 hD rfl rfl rfl rfl ?_)
  refine EW.iald 1 a hD rfl rfl rfl rfl ha (by decide) ?_
  repeat (first | refine EV.s rfl rfl rfl ?_ | refine EW.get 0 hD rfl rfl rfl rfl ?_)
  refine EW.iald 1 b hD rfl rfl rfl rfl hb (by decide) ?_
  repeat refine EV.s rfl rfl rfl ?_
  refine EW.iast 1 a hD rfl rfl rfl hbb rfl ha (by decide) ?_
  repeat (first | refine EV.s rfl rfl rfl ?_ | refine EW.get 0 hD rfl rfl rfl rfl ?_)
  refine EW.iald 1 e hD rfl rfl rfl rfl he (by decide) ?_
  repeat (first | refine EV.s rfl rfl rfl ?_ | refine EW.get 0 hD rfl rfl rfl rfl ?_)
  refine EW.iald 1 a hD rfl rfl rfl rfl ha (by decide) ?_
  repeat refine EV.s rfl rfl rfl ?_
  refine EV.call rfl (r_tl _ _ _ rl_8 _ _) ?_
  refine EW.iast 1 e hD rfl rfl rfl hbb rfl he (by decide) ?_
  repeat (first | refine EV.s rfl rfl rfl ?_ | refine EW.get 0 hD rfl rfl rfl rfl ?_)
  refine EW.iald 1 c hD rfl rfl rfl rfl hc (by decide) ?_
  repeat (first | refine EV.s rfl rfl rfl ?_ | refine EW.get 0 hD rfl rfl rfl rfl ?_)
  refine EW.iald 1 e hD rfl rfl rfl rfl he (by decide) ?_
  repeat refine EV.s rfl rfl rfl ?_
  refine EW.iast 1 c hD rfl rfl rfl hbb rfl hc (by decide) ?_
  repeat (first | refine EV.s rfl rfl rfl ?_ | refine EW.get 0 hD rfl rfl rfl rfl ?_)
  refine EW.iald 1 b hD rfl rfl rfl rfl hb (by decide) ?_
  repeat (first | refine EV.s rfl rfl rfl ?_ | refine EW.get 0 hD rfl rfl rfl rfl ?_)
  refine EW.iald 1 c hD rfl rfl rfl rfl hc (by decide) ?_
  repeat refine EV.s rfl rfl rfl ?_
  refine EV.call rfl (r_tl _ _ _ rl_7 _ _) ?_
  refine EW.iast 1 b hD rfl rfl rfl hbb rfl hb (by decide) ?_
  refine EV.ret rfl ?_
  rfl
end CHA
