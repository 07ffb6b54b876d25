/-! One step of the evaluator is a step of the machine. -/
def ev_ln : Instr → Nat
  | .bipush _ => 2
  | .ldc _ => 2
  | .iload _ => 2
  | .lload _ => 2
  | .aload _ => 2
  | .istore _ => 2
  | .lstore _ => 2
  | .astore _ => 2
  | .newarray _ => 2
  | .sipush _ => 3
  | .ldc2_w _ => 3
  | .iinc _ _ => 3
  | .if_icmp _ _ => 3
  | .ifCond _ _ => 3
  | .ifnull _ => 3
  | .ifnonnull _ => 3
  | .goto _ => 3
  | .getfield _ => 3
  | .putfield _ => 3
  | .getstatic _ => 3
  | .new _ => 3
  | .anewarray _ => 3
  | .invokestatic _ => 3
  | .invokespecial _ => 3
  | .invokevirtual _ => 3
  | .tableswitch _ _ _ _ => 0
  | _ => 1
def ev_okc (pc x1 : Nat) (v : Value) (ts : List Nat) (i : Instr) : Bool := match i with
  | .iconst n => decide (v = .int (Int32.ofInt n))
  | .bipush n => decide (v = .int (Int8.ofInt n).toInt32)
  | .sipush n => decide (v = .int (Int16.ofInt n).toInt32)
  | .lconst n => decide (v = .long (Int64.ofNat n))
  | .iload_n k => decide ((k : Nat) = x1)
  | .iload k => decide (k = x1)
  | .lload_n k => decide ((k : Nat) = x1)
  | .lload k => decide (k = x1)
  | .aload_n k => decide ((k : Nat) = x1)
  | .aload k => decide (k = x1)
  | .istore_n k => decide ((k : Nat) = x1)
  | .istore k => decide (k = x1)
  | .lstore_n k => decide ((k : Nat) = x1)
  | .lstore k => decide (k = x1)
  | .astore_n k => decide ((k : Nat) = x1)
  | .astore k => decide (k = x1)
  | .iinc k n => decide (k = x1) && decide (v = .int (Int32.ofInt n))
  | .if_icmp _ off => decide ((pc : Int) + off = (x1 : Int))
  | .ifCond _ off => decide ((pc : Int) + off = (x1 : Int))
  | .ifnull off => decide ((pc : Int) + off = (x1 : Int))
  | .ifnonnull off => decide ((pc : Int) + off = (x1 : Int))
  | .goto off => decide ((pc : Int) + off = (x1 : Int))
  | .tableswitch df lo hi offs => decide (lo = 0) && (decide (hi + 1 = (offs.size : Int)) && decide (ts.map (fun t : Nat => (t : Int) - (pc : Int)) = df :: offs.toList))
  | _ => true
def ev_okB (bytes : ByteArray) (pc : Nat) (q : e_E) : Bool := decide (decode bytes pc = .ok (q.1, q.2.1 - pc)) && (decide (pc < q.2.1) && ((decide (ev_ln q.1 = 0) || decide (q.2.1 = pc + ev_ln q.1)) && ev_okc pc q.2.2.1 q.2.2.2.2.1 q.2.2.2.2.2 q.1))
def ev_fk : FieldType → Nat
  | .int => 0
  | .long => 1
  | .object _ => 2
  | .array _ => 2
  | _ => 7
/-- the words of a call -/
def ev_cal (own : String) (idx : Nat) (T : e_M) (n : Nat) : Prop := (Cond.methodLink own idx T.1.2.1 ∈ ev_GW ∨ ∃ host, (own, idx, T.1.2.1, host) ∈ ev_nq) ∧ Cond.initialized T.1.2.1.cls ∈ ev_GW ∧ Cond.code T.1.2.1 T.1.2.2.1 T.1.2.2.2.1 T.1.2.2.2.2 ∈ ev_GW ∧ (T.1.2.1.cls ≠ "java/lang/invoke/MethodHandle" ∧ T.1.2.1.cls ≠ "java/lang/invoke/VarHandle" ∧ (parseMethodDescriptor T.1.2.1.desc).map (fun d => d.parameters.length) = some n) ∧ T.1.2.2.2.1 ≤ 21
def ev_okW (tb : Nat → Option e_M) (own nm : String) (x1 x2 : Nat) (v : Value) (ts : List Nat) (i : Instr) : Prop := match i with
  | .ldc idx => ∃ z : Int32, v = .int z ∧ Cond.constant own idx z ∈ ev_GW
  | .ldc2_w idx => ∃ z : Int64, v = .long z ∧ Cond.constantLong own idx z ∈ ev_GW
  | .getfield idx => ∃ r : vw_C, vwCl[x1]? = some r ∧ (∀ w ∈ u_ws r.1 r.2.1 r.2.2, w ∈ ev_GW) ∧ x2 < r.2.2 ∧ Cond.fieldLink own idx (r.2.1 x2).1 (r.2.1 x2).2.1 (r.2.1 x2).2.2.1 ∈ ev_GW
  | .putfield idx => ∃ (r : vw_C) (ty : Nat → FieldType), vwCl[x1]? = some r ∧ (∀ w ∈ u_ws r.1 r.2.1 r.2.2, w ∈ ev_GW) ∧ x2 < r.2.2 ∧ Cond.fieldLink own idx (r.2.1 x2).1 (r.2.1 x2).2.1 (r.2.1 x2).2.2.1 ∈ ev_GW ∧ (∀ k, k < r.2.2 → parseFieldDescriptor (r.2.1 k).2.2.1 = some (ty k)) ∧ (∀ a, a < r.2.2 → ∀ b, b < r.2.2 → a ≠ b → (r.2.1 a).2.1 ≠ (r.2.1 b).2.1) ∧ ev_fk (ty x2) = ev_kd v ∧ ((r.2.1 x2).2.2.2 = false ∨ ((r.2.1 x2).2.2.2 = true ∧ nm = "<init>" ∧ (r.2.1 x2).1 = own))
  | .getstatic idx => ∃ q : String × String, ev_sts[x1]? = some q ∧ Cond.fieldLink own idx q.1 q.2 "[I" ∈ ev_GW
  | .new idx => ∃ (r : vw_C) (ty : Nat → FieldType), vwCl[x1]? = some r ∧ (∀ w ∈ u_ws r.1 r.2.1 r.2.2, w ∈ ev_GW) ∧ x2 = r.2.2 ∧ (∀ k, k < r.2.2 → parseFieldDescriptor (r.2.1 k).2.2.1 = some (ty k)) ∧ Cond.classLink own idx r.1 ∈ ev_GW ∧ Cond.instantiable r.1 r.2.2 ∈ ev_GW ∧ Cond.initialized r.1 ∈ ev_GW ∧ ts.length = r.2.2 ∧ ∀ j, j < r.2.2 → defaultValue (ty j) = vp_V (ts.map ev_z) j
  | .anewarray idx => Cond.classLink own idx "EnclaveMonitor$Page" ∈ ev_GW
  | .invokestatic idx => if x1 = 1001 then Cond.methodLink own idx arraycopyName ∈ ev_GW else ∃ T, tb x1 = some T ∧ ev_cal own idx T x2 ∧ Cond.static T.1.2.1 ∈ ev_GW
  | .invokespecial idx => if x1 = 1000 then Cond.methodLink own idx objectInit ∈ ev_GW else ∃ T, tb x1 = some T ∧ ev_cal own idx T x2 ∧ T.1.2.1.name = "<init>" ∧ Cond.instanceMethod T.1.2.1 ∈ ev_GW ∧ T.1.2.2.2.2 = none
  | .invokevirtual idx => ∃ (T : e_M) (ci : Nat) (r : vw_C), tb x1 = some T ∧ ts = [ci] ∧ vwCl[ci]? = some r ∧ T.1.2.1.cls = r.1 ∧ ev_cal own idx T x2 ∧ Cond.instanceMethod T.1.2.1 ∈ ev_GW ∧ Cond.selects r.1 T.1.2.1 T.1.2.1 ∈ ev_GW
  | _ => True
def ev_okE (tb : Nat → Option e_M) (T : e_M) (pc : Nat) (q : e_E) : Prop := ev_okB T.1.2.2.1 pc q = true ∧ ev_okW tb T.1.1 T.1.2.1.name q.2.2.1 q.2.2.2.1 q.2.2.2.2.1 q.2.2.2.2.2 q.1
def ev_ok (tb : Nat → Option e_M) (T : e_M) : Prop := T.1.2.1.cls = T.1.1 ∧ plainName T.1.1 = true ∧ ∀ q ∈ T.2, ev_okE tb T q.1 q.2
theorem ev_fnd_mem : ∀ (l : List (Nat × e_E)) (pc : Nat) (q : e_E), ev_fnd l pc = some q → (pc, q) ∈ l := by
  intro l
  induction l with
  | nil => intro pc q h; cases h
  | cons e r ih =>
    intro pc q h
    unfold ev_fnd at h
    cases hb : Nat.beq e.1 pc with
    | true =>
      rw [hb] at h
      have e1 := Nat.eq_of_beq_eq_true hb
      have h : some e.2 = some q := h
      cases h
      rw [← e1]
      exact List.mem_cons_self
    | false =>
      rw [hb] at h
      exact List.mem_cons_of_mem _ (ih pc q h)
def ev_glob : Prop := Cond.native arraycopyName ∈ ev_GW ∧ Cond.static arraycopyName ∈ ev_GW ∧ Cond.initialized "java/lang/System" ∈ ev_GW ∧ Cond.instanceMethod objectInit ∈ ev_GW ∧ Cond.code objectInit ⟨#[0xb1]⟩ 1 none ∈ ev_GW ∧ Cond.arrayClass .int ∈ ev_GW ∧ Cond.arrayClass .long ∈ ev_GW
def ev_X (p : Program) (R : Room) (s : State) (m : MethodId) (args : Array Value) (meth : Method) (c : Code) (D : va_G) (bs : Nat) (sa : Nat → Nat) (T : e_M) (d : Nat) : Prop :=
  p.tables.exec = Jvm.exec ∧ c.code = T.1.2.2.1 ∧ c.maxLocals = T.1.2.2.2.1 ∧ meth.sig.returnType = T.1.2.2.2.2 ∧ s.vm.findClass T.1.1 = some m.cls ∧ meth.name = T.1.2.1.name ∧ meth.locks = false ∧ (∀ w ∈ ev_GW, w.before args s = true) ∧ ev_K D bs sa s ∧ d + 1 ≤ R.frames ∧ 40 * (d + 1) ≤ R.locals ∧ bs ≤ s.heap.size
def ev_G (p : Program) (l : Launch) (e : Env) (R : Room) (s : State) (m : MethodId) (args : Array Value) (below : List Frame) (meth : Method) (c : Code) (D : va_G) (bs : Nat) (T : e_M) (c0 s0 : Nat) (Q : State → Prop) (cf : e_C) : Prop :=
  ∀ (H : Heap) (locs : List Loc) (ls : Array Slot), ev_P D s cf.2.2.2 H → va_S (fun q => bs ≤ q) s.heap H locs → ev_LR ls T.1.2.2.2.1 cf.2.1 → W p l e R s m args below meth c H locs (ev_cn cf.2.2.2 - c0) (ev_sn cf.2.2.2 - s0) Q (F0 m cf.1 ls cf.2.2.1)
theorem ev_kd0 {w : Value} {k : Nat} (h : ev_kd w = k) (hk : k = 0) : ∃ x, w = .int x := by
  subst hk; cases w <;> first | exact ⟨_, rfl⟩ | (simp [ev_kd] at h)
theorem ev_kd1 {w : Value} {k : Nat} (h : ev_kd w = k) (hk : k = 1) : ∃ x, w = .long x := by
  subst hk; cases w <;> first | exact ⟨_, rfl⟩ | (simp [ev_kd] at h)
theorem ev_kd2 {w : Value} {k : Nat} (h : ev_kd w = k) (hk : k = 2) : w = .null ∨ ∃ x, w = .ref x := by
  subst hk; cases w <;> first | exact Or.inl rfl | exact Or.inr ⟨_, rfl⟩ | (simp [ev_kd] at h)
theorem ev_fit {ty : FieldType} {w : Value} (h : ev_fk ty = ev_kd w) : narrow ty w = w ∧ fits ty w = true := by
  cases ty <;> cases w <;> first | exact ⟨rfl, rfl⟩ | (simp [ev_fk, ev_kd] at h)
theorem ev_ld_spec {lo : e_L} {i k : Nat} {w : Value} (h : ev_ld lo i k = some w) : lo[i]? = some (some w) ∧ ev_kd w = k := by
  unfold ev_ld at h
  split at h
  · rename_i u hu
    cases hb : Nat.beq (ev_kd u) k with
    | true => rw [hb] at h; cases h; exact ⟨hu, Nat.eq_of_beq_eq_true hb⟩
    | false => rw [hb] at h; cases h
  · cases h
theorem ev_cond {b : Bool} {α : Type} {x y : Option α} {z : α} (h : cond b x none = some z) : b = true ∧ x = some z := by
  cases b with
  | true => exact ⟨rfl, h⟩
  | false => cases h
theorem ev_obj_spec {h : e_H} {a ci : Nat} {fs : List Value} (q : ev_obj h a ci = some fs) : h.1 a = some (.inl (ci, fs)) := by
  unfold ev_obj at q
  split at q
  · rename_i c f hc
    obtain ⟨q1, q2⟩ := ev_cond (y := some fs) q
    cases q2
    rw [hc, Nat.eq_of_beq_eq_true q1]
  · cases q
theorem ev_ia_spec {h : e_H} {a : Nat} {x : Nat × (Nat → Int32)} (q : ev_ia h a = some x) : h.1 a = some (.inr (.inl x)) := by
  unfold ev_ia at q
  split at q
  · rename_i c hc; cases q; exact hc
  · cases q
theorem ev_la_spec {h : e_H} {a : Nat} {x : Nat × (Nat → Int64)} (q : ev_la h a = some x) : h.1 a = some (.inr (.inr (.inl x))) := by
  unfold ev_la at q
  split at q
  · rename_i c hc; cases q; exact hc
  · cases q
theorem ev_ra_spec {h : e_H} {a : Nat} {x : Nat × (Nat → Option Nat)} (q : ev_ra h a = some x) : h.1 a = some (.inr (.inr (.inr x))) := by
  unfold ev_ra at q
  split at q
  · rename_i c hc; cases q; exact hc
  · cases q
theorem ev_in_spec {i : Int32} {n : Nat} (h : ev_in i n = true) : ¬ i < 0 ∧ i.toNatClampNeg < n := by
  unfold ev_in at h
  rw [Bool.and_eq_true] at h
  exact ⟨by simpa using h.1, Nat.lt_of_succ_le (Nat.le_of_ble_eq_true h.2)⟩
theorem ev_in_not {i : Int32} {n : Nat} (h : ev_in i n = true) : ¬ (i < 0 ∨ n ≤ i.toNatClampNeg) := by
  obtain ⟨h1, h2⟩ := ev_in_spec h
  rintro (q | q)
  · exact h1 q
  · omega
section EVS
variable {p : Program} {l : Launch} {e : Env} {R : Room} {s : State} {m : MethodId} {args : Array Value} {below : List Frame} {meth : Method} {c : Code} {D : va_G} {bs : Nat} {sa : Nat → Nat} {T : e_M} {d c0 s0 : Nat} {Q : State → Prop} {tb : Nat → Option e_M}
variable {pc nx x1 x2 : Nat} {v : Value} {ts : List Nat} {lo : e_L} {sk : List Value} {h : e_H} {cf' : e_C}
/-- a load -/
theorem ev_s_load {k : Nat} {i : Instr} (X : ev_X p R s m args meth c D bs sa T d) (hd : decode T.1.2.2.1 pc = .ok (i, ev_ln i)) (hn : nx = pc + ev_ln i)
    (hi : (k = 0 ∧ (i = .iload x1 ∨ ∃ j : Fin 4, i = .iload_n j ∧ (j : Nat) = x1)) ∨ (k = 1 ∧ (i = .lload x1 ∨ ∃ j : Fin 4, i = .lload_n j ∧ (j : Nat) = x1)) ∨ (k = 2 ∧ (i = .aload x1 ∨ ∃ j : Fin 4, i = .aload_n j ∧ (j : Nat) = x1)))
    (hs : ev_load k nx x1 lo sk h = some (.inl cf')) (kk : ev_G p l e R s m args below meth c D bs T c0 s0 Q cf') : ev_G p l e R s m args below meth c D bs T c0 s0 Q (pc, lo, sk, h) := by
  obtain ⟨hx, hb, -⟩ := X
  unfold ev_load at hs
  split at hs
  · rename_i w hw
    obtain ⟨hl, hk⟩ := ev_ld_spec hw
    have hs : some (Sum.inl (nx, lo, w :: sk, h)) = some (.inl cf') := hs
    cases hs
    intro H locs ls hP hS hL
    have hv := hL.2.2.2 x1 w hl
    have kk := kk H locs ls hP hS hL
    subst hn
    rcases hi with ⟨hk0, rfl | ⟨j, rfl, hj⟩⟩ | ⟨hk0, rfl | ⟨j, rfl, hj⟩⟩ | ⟨hk0, rfl | ⟨j, rfl, hj⟩⟩
    · obtain ⟨x, rfl⟩ := ev_kd0 hk hk0; exact lv_iload hx hb hd hv kk
    · obtain ⟨x, rfl⟩ := ev_kd0 hk hk0; exact lv_iload_n hx hb hd hj hv kk
    · obtain ⟨x, rfl⟩ := ev_kd1 hk hk0; exact lv_lload hx hb hd hv kk
    · obtain ⟨x, rfl⟩ := ev_kd1 hk hk0; exact lv_lload_n hx hb hd hj hv kk
    · rcases ev_kd2 hk hk0 with rfl | ⟨x, rfl⟩
      · exact lv_aloadN hx hb hd hv kk
      · exact lv_aload hx hb hd hv kk
    · rcases ev_kd2 hk hk0 with rfl | ⟨x, rfl⟩
      · exact lv_aload_nN hx hb hd hj hv kk
      · exact lv_aload_n hx hb hd hj hv kk
  · cases hs
/-- a store -/
theorem ev_s_store {k : Nat} {i : Instr} (X : ev_X p R s m args meth c D bs sa T d) (hd : decode T.1.2.2.1 pc = .ok (i, ev_ln i)) (hn : nx = pc + ev_ln i)
    (hi : (k = 0 ∧ (i = .istore x1 ∨ ∃ j : Fin 4, i = .istore_n j ∧ (j : Nat) = x1)) ∨ (k = 2 ∧ (i = .astore x1 ∨ ∃ j : Fin 4, i = .astore_n j ∧ (j : Nat) = x1)))
    (hs : ev_store k nx x1 lo sk h = some (.inl cf')) (kk : ev_G p l e R s m args below meth c D bs T c0 s0 Q cf') : ev_G p l e R s m args below meth c D bs T c0 s0 Q (pc, lo, sk, h) := by
  obtain ⟨hx, hb, -⟩ := X
  unfold ev_store at hs
  split at hs
  · rename_i w r
    obtain ⟨hq, hs⟩ := ev_cond (y := some (Sum.inl cf')) hs
    rw [Bool.and_eq_true, Bool.and_eq_true] at hq
    have hk := Nat.eq_of_beq_eq_true hq.1
    have hlen : x1 < lo.length := Nat.lt_of_succ_le (Nat.le_of_ble_eq_true hq.2.1)
    have hnc := hq.2.2
    have hs : some (Sum.inl (nx, lo.set x1 (some w), r, h)) = some (.inl cf') := hs
    cases hs
    intro H locs ls hP hS hL
    subst hn
    have hh := hL.has
    have hll : lo.length = T.1.2.2.2.1 := hL.1
    have h1 : x1 < T.1.2.2.2.1 := by omega
    rcases hi with ⟨hk0, hi⟩ | ⟨hk0, hi⟩
    · obtain ⟨x, rfl⟩ := ev_kd0 hk hk0
      rcases hi with rfl | ⟨j, rfl, hj⟩
      · exact lv_istore hx hb hd hh h1 rfl (fun ls' hl => kk H locs ls' hP hS (ev_LR.st1 hll h1 hnc hl))
      · exact lv_istore_n hx hb hd hj hh h1 rfl (fun ls' hl => kk H locs ls' hP hS (ev_LR.st1 hll h1 hnc hl))
    · rcases ev_kd2 hk hk0 with rfl | ⟨x, rfl⟩
      · rcases hi with rfl | ⟨j, rfl, hj⟩
        · exact lv_astoreN hx hb hd hh h1 rfl (fun ls' hl => kk H locs ls' hP hS (ev_LR.st1 hll h1 hnc hl))
        · exact lv_astore_nN hx hb hd hj hh h1 rfl (fun ls' hl => kk H locs ls' hP hS (ev_LR.st1 hll h1 hnc hl))
      · rcases hi with rfl | ⟨j, rfl, hj⟩
        · exact lv_astore hx hb hd hh h1 rfl (fun ls' hl => kk H locs ls' hP hS (ev_LR.st1 hll h1 hnc hl))
        · exact lv_astore_n hx hb hd hj hh h1 rfl (fun ls' hl => kk H locs ls' hP hS (ev_LR.st1 hll h1 hnc hl))
  · cases hs
theorem ev_s_storeL {i : Instr} (X : ev_X p R s m args meth c D bs sa T d) (hd : decode T.1.2.2.1 pc = .ok (i, ev_ln i)) (hn : nx = pc + ev_ln i)
    (hi : i = .lstore x1 ∨ ∃ j : Fin 4, i = .lstore_n j ∧ (j : Nat) = x1)
    (hs : ev_storeL nx x1 lo sk h = some (.inl cf')) (kk : ev_G p l e R s m args below meth c D bs T c0 s0 Q cf') : ev_G p l e R s m args below meth c D bs T c0 s0 Q (pc, lo, sk, h) := by
  obtain ⟨hx, hb, -⟩ := X
  unfold ev_storeL at hs
  split at hs
  · rename_i x r
    obtain ⟨hq, hs⟩ := ev_cond (y := some (Sum.inl cf')) hs
    rw [Bool.and_eq_true] at hq
    have hlen : x1 + 1 < lo.length := Nat.lt_of_succ_le (Nat.le_of_ble_eq_true hq.1)
    have hnc := hq.2
    have hs : some (Sum.inl (nx, (lo.set x1 (some (.long x))).set (x1 + 1) none, r, h)) = some (.inl cf') := hs
    cases hs
    intro H locs ls hP hS hL
    subst hn
    have hh := hL.has
    have hll : lo.length = T.1.2.2.2.1 := hL.1
    have h1 : x1 + 1 < T.1.2.2.2.1 := by omega
    rcases hi with rfl | ⟨j, rfl, hj⟩
    · exact lv_lstore hx hb hd hh h1 rfl (fun ls' hl => kk H locs ls' hP hS (ev_LR.st2 hll h1 hnc hl))
    · exact lv_lstore_n hx hb hd hj hh h1 rfl (fun ls' hl => kk H locs ls' hP hS (ev_LR.st2 hll h1 hnc hl))
  · cases hs
theorem ev_s_inc {n : Int} (X : ev_X p R s m args meth c D bs sa T d) (hd : decode T.1.2.2.1 pc = .ok (.iinc x1 n, 3)) (hn : nx = pc + 3) (hv : v = .int (Int32.ofInt n))
    (hs : ev_inc nx x1 v lo sk h = some (.inl cf')) (kk : ev_G p l e R s m args below meth c D bs T c0 s0 Q cf') : ev_G p l e R s m args below meth c D bs T c0 s0 Q (pc, lo, sk, h) := by
  obtain ⟨hx, hb, -⟩ := X
  subst hv
  unfold ev_inc at hs
  split at hs
  · rename_i x cst hw hc
    cases hc
    obtain ⟨hl, hk⟩ := ev_ld_spec hw
    obtain ⟨hnc, hs⟩ := ev_cond (y := some (Sum.inl cf')) hs
    have hs : some (Sum.inl (nx, lo.set x1 (some (.int (x + Int32.ofInt n))), sk, h)) = some (.inl cf') := hs
    cases hs
    intro H locs ls hP hS hL
    subst hn
    have hh := hL.has
    have hll : lo.length = T.1.2.2.2.1 := hL.1
    have h1 : x1 < T.1.2.2.2.1 := by have := (List.getElem?_eq_some_iff.mp hl).1; omega
    obtain ⟨j, hj⟩ := List.getElem?_of_mem (ev_ll_mem.mpr hl)
    exact lv_iinc hx hb hd hh hj rfl h1 rfl (fun ls' hl => kk H locs ls' hP hS (ev_LR.st1 hll h1 hnc hl))
  · cases hs
end EVS
