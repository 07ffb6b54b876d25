/-! A PURE EVALUATOR of the bytecode that the system uses: frames of one method at a time, calls by a relation; its soundness over the machine is the next part's. -/
/-- a cell: an object (number of its sort, fields), or an array: ints, longs, references -/
abbrev e_O : Type := (Nat × List Value) ⊕ ((Nat × (Nat → Int32)) ⊕ ((Nat × (Nat → Int64)) ⊕ (Nat × (Nat → Option Nat))))
/-- a heap: cells; and, while cells may be made, the heap's size and the slots that are used -/
abbrev e_H : Type := (Nat → Option e_O) × Option (Nat × Nat)
abbrev e_L : Type := List (Option Value)
/-- an entry of a method's table: instruction, next pc, two numbers, a value, a list of targets -/
abbrev e_E : Type := Instr × Nat × Nat × Nat × Value × List Nat
/-- a method: own sort's name, name, bytes, locals, answer's type; its table -/
abbrev e_M : Type := (String × MethodName × ByteArray × Nat × Option FieldType) × List (Nat × e_E)
abbrev e_C : Type := Nat × e_L × List Value × e_H
abbrev e_R : Type := e_C ⊕ (Option Value ⊕ (Nat × List Value × Nat × e_L × List Value))
def ev_fnd : List (Nat × e_E) → Nat → Option e_E
  | [], _ => none
  | e :: r, pc => cond (Nat.beq e.1 pc) (some e.2) (ev_fnd r pc)
def ev_up (h : e_H) (a : Nat) (o : e_O) : e_H := (fun b => cond (Nat.beq b a) (some o) (h.1 b), h.2)
def ev_kd : Value → Nat
  | .int _ => 0
  | .long _ => 1
  | .null => 2
  | .ref _ => 2
  | _ => 3
def ev_ld (lo : e_L) (i k : Nat) : Option Value := match lo[i]? with
  | some (some w) => cond (Nat.beq (ev_kd w) k) (some w) none
  | _ => none
/-- the place ahead holds nothing of two places -/
def ev_nc1 (lo : e_L) (j : Nat) : Bool := match lo[j]? with
  | some (some w) => Nat.beq w.category 1
  | _ => true
def ev_nc (lo : e_L) : Nat → Bool
  | 0 => true
  | j + 1 => ev_nc1 lo j
def ev_go (nx : Nat) (lo : e_L) (sk : List Value) (h : e_H) : Option e_R := some (.inl (nx, lo, sk, h))
def ev_load (k : Nat) (nx i : Nat) (lo : e_L) (sk : List Value) (h : e_H) : Option e_R := match ev_ld lo i k with
  | some w => ev_go nx lo (w :: sk) h
  | none => none
def ev_store (k : Nat) (nx i : Nat) (lo : e_L) (sk : List Value) (h : e_H) : Option e_R := match sk with
  | w :: r => cond (Nat.beq (ev_kd w) k && (Nat.blt i lo.length && ev_nc lo i)) (ev_go nx (lo.set i (some w)) r h) none
  | _ => none
def ev_storeL (nx i : Nat) (lo : e_L) (sk : List Value) (h : e_H) : Option e_R := match sk with
  | .long x :: r => cond (Nat.blt (i + 1) lo.length && ev_nc lo i) (ev_go nx ((lo.set i (some (.long x))).set (i + 1) none) r h) none
  | _ => none
def ev_inc (nx i : Nat) (v : Value) (lo : e_L) (sk : List Value) (h : e_H) : Option e_R := match ev_ld lo i 0, v with
  | some (.int x), .int c => cond (ev_nc lo i) (ev_go nx (lo.set i (some (.int (x + c)))) sk h) none
  | _, _ => none
def ev_bin (f : Int32 → Int32 → Int32) (nx : Nat) (lo : e_L) (sk : List Value) (h : e_H) : Option e_R := match sk with
  | .int y :: .int x :: r => ev_go nx lo (.int (f x y) :: r) h
  | _ => none
def ev_un (f : Int32 → Value) (nx : Nat) (lo : e_L) (sk : List Value) (h : e_H) : Option e_R := match sk with
  | .int x :: r => ev_go nx lo (f x :: r) h
  | _ => none
def ev_binL (f : Int64 → Int64 → Value) (nx : Nat) (lo : e_L) (sk : List Value) (h : e_H) : Option e_R := match sk with
  | .long y :: .long x :: r => ev_go nx lo (f x y :: r) h
  | _ => none
def ev_shL (f : Int64 → Int32 → Int64) (nx : Nat) (lo : e_L) (sk : List Value) (h : e_H) : Option e_R := match sk with
  | .int y :: .long x :: r => ev_go nx lo (.long (f x y) :: r) h
  | _ => none
def ev_div (q : Bool) (nx : Nat) (lo : e_L) (sk : List Value) (h : e_H) : Option e_R := match sk with
  | .int y :: .int x :: r => cond (decide (y = 0)) none (ev_go nx lo (.int (cond q (x / y) (x - x / y * y)) :: r) h)
  | _ => none
def ev_cmp (c : ClassFile.Cond) (x y : Int32) : Bool := match c with
  | .eq => decide (x = y)
  | .ne => decide (x ≠ y)
  | .lt => decide (x < y)
  | .ge => decide (y ≤ x)
  | .gt => decide (y < x)
  | .le => decide (x ≤ y)
def ev_tsw (ts : List Nat) (x : Int32) : Nat := match ts with
  | [] => 0
  | df :: tg => if 0 ≤ x.toInt ∧ x.toInt < (tg.length : Int) then tg.getD x.toInt.toNat df else df
def ev_in (i : Int32) (n : Nat) : Bool := decide (¬ i < 0) && Nat.blt i.toNatClampNeg n
def ev_sum (sk : List Value) : Nat := (sk.map fun v => v.category).sum
/-- a new cell -/
def ev_new (h : e_H) (o : e_O) (n : Nat) : Option (Nat × e_H) := match h.2 with
  | some (z, u) => some (z, (fun b => cond (Nat.beq b z) (some o) (h.1 b), some (z + 1, u + n)))
  | none => none
def ev_obj (h : e_H) (a ci : Nat) : Option (List Value) := match h.1 a with
  | some (.inl (c, fs)) => cond (Nat.beq c ci) (some fs) none
  | _ => none
def ev_ia (h : e_H) (a : Nat) : Option (Nat × (Nat → Int32)) := match h.1 a with
  | some (.inr (.inl x)) => some x
  | _ => none
def ev_la (h : e_H) (a : Nat) : Option (Nat × (Nat → Int64)) := match h.1 a with
  | some (.inr (.inr (.inl x))) => some x
  | _ => none
def ev_ra (h : e_H) (a : Nat) : Option (Nat × (Nat → Option Nat)) := match h.1 a with
  | some (.inr (.inr (.inr x))) => some x
  | _ => none
def ev_len (h : e_H) (a : Nat) : Option Nat := match h.1 a with
  | some (.inr (.inl x)) => some x.1
  | some (.inr (.inr (.inl x))) => some x.1
  | some (.inr (.inr (.inr x))) => some x.1
  | _ => none
/-- the kinds of fields, and what they hold at first -/
def ev_z (n : Nat) : Value := if n = 0 then .int 0 else if n = 1 then .long 0 else .null
def ev_get (x1 x2 nx : Nat) (lo : e_L) (sk : List Value) (h : e_H) : Option e_R := match sk with
  | .ref a :: r => match ev_obj h a x1 with
    | some fs => match fs[x2]? with
      | some w => ev_go nx lo (w :: r) h
      | none => none
    | none => none
  | _ => none
def ev_put (bs : Nat) (v : Value) (x1 x2 nx : Nat) (lo : e_L) (sk : List Value) (h : e_H) : Option e_R := match sk with
  | w :: .ref a :: r => match ev_obj h a x1 with
    | some fs => cond (Nat.ble bs a && (Nat.blt x2 fs.length && Nat.beq (ev_kd w) (ev_kd v))) (ev_go nx lo r (ev_up h a (.inl (x1, fs.set x2 w)))) none
    | none => none
  | _ => none
def ev_iald (nx : Nat) (lo : e_L) (sk : List Value) (h : e_H) : Option e_R := match sk with
  | .int i :: .ref a :: r => match ev_ia h a with
    | some x => cond (ev_in i x.1) (ev_go nx lo (.int (x.2 i.toNatClampNeg) :: r) h) none
    | none => none
  | _ => none
def ev_iast (bs nx : Nat) (lo : e_L) (sk : List Value) (h : e_H) : Option e_R := match sk with
  | .int w :: .int i :: .ref a :: r => match ev_ia h a with
    | some x => cond (Nat.ble bs a && ev_in i x.1) (ev_go nx lo r (ev_up h a (.inr (.inl (x.1, upd x.2 i.toNatClampNeg w))))) none
    | none => none
  | _ => none
def ev_lald (nx : Nat) (lo : e_L) (sk : List Value) (h : e_H) : Option e_R := match sk with
  | .int i :: .ref a :: r => match ev_la h a with
    | some x => cond (ev_in i x.1) (ev_go nx lo (.long (x.2 i.toNatClampNeg) :: r) h) none
    | none => none
  | _ => none
def ev_last (bs nx : Nat) (lo : e_L) (sk : List Value) (h : e_H) : Option e_R := match sk with
  | .long w :: .int i :: .ref a :: r => match ev_la h a with
    | some x => cond (Nat.ble bs a && ev_in i x.1) (ev_go nx lo r (ev_up h a (.inr (.inr (.inl (x.1, vp_updL x.2 i.toNatClampNeg w)))))) none
    | none => none
  | _ => none
def ev_aald (nx : Nat) (lo : e_L) (sk : List Value) (h : e_H) : Option e_R := match sk with
  | .int i :: .ref a :: r => match ev_ra h a with
    | some x => cond (ev_in i x.1) (ev_go nx lo (va_rf (x.2 i.toNatClampNeg) :: r) h) none
    | none => none
  | _ => none
/-- a reference into an array: null, or an object of sort x1 -/
def ev_aast (bs x1 nx : Nat) (lo : e_L) (sk : List Value) (h : e_H) : Option e_R := match sk with
  | .null :: .int i :: .ref a :: r => match ev_ra h a with
    | some x => cond (Nat.ble bs a && ev_in i x.1) (ev_go nx lo r (ev_up h a (.inr (.inr (.inr (x.1, va_up x.2 i.toNatClampNeg none)))))) none
    | none => none
  | .ref b :: .int i :: .ref a :: r => match ev_ra h a, ev_obj h b x1 with
    | some x, some _ => cond (Nat.ble bs a && ev_in i x.1) (ev_go nx lo r (ev_up h a (.inr (.inr (.inr (x.1, va_up x.2 i.toNatClampNeg (some b))))))) none
    | _, _ => none
  | _ => none
def ev_alen (nx : Nat) (lo : e_L) (sk : List Value) (h : e_H) : Option e_R := match sk with
  | .ref a :: r => match ev_len h a with
    | some n => ev_go nx lo (.int (Int32.ofNat n) :: r) h
    | none => none
  | _ => none
def ev_newa (o : Nat → e_O) (nx : Nat) (lo : e_L) (sk : List Value) (h : e_H) : Option e_R := match sk with
  | .int n :: r => cond (decide (¬ n < 0) && Nat.ble n.toNatClampNeg 5000) (match ev_new h (o n.toNatClampNeg) n.toNatClampNeg with
    | some (z, h') => ev_go nx lo (.ref z :: r) h'
    | none => none) none
  | _ => none
def ev_cpy (bs nx : Nat) (lo : e_L) (sk : List Value) (h : e_H) : Option e_R := match sk with
  | .int n :: .int dp :: .ref a :: .int sp :: .ref a0 :: r => match ev_ia h a0, ev_ia h a with
    | some x, some y => cond (Nat.ble bs a && (Nat.ble (ev_sum r) 8 && (decide (¬ sp < 0) && (decide (¬ dp < 0) && (decide (¬ n < 0) && (Nat.ble (sp.toNatClampNeg + n.toNatClampNeg) x.1 && Nat.ble (dp.toNatClampNeg + n.toNatClampNeg) y.1))))))
        (ev_go nx lo r (ev_up h a (.inr (.inl (y.1, va_cpy x.2 y.2 sp.toNatClampNeg dp.toNatClampNeg n.toNatClampNeg))))) none
    | _, _ => none
  | _ => none
/-- a call of the method x1 with x2 arguments (the receiver not counted): static, of a constructor, of an object of sort ts -/
def ev_callS (x1 x2 nx : Nat) (lo : e_L) (sk : List Value) : Option e_R :=
  cond (Nat.ble x2 sk.length && Nat.ble (ev_sum (sk.drop x2)) 8) (some (.inr (.inr (x1, (sk.take x2).reverse, nx, lo, sk.drop x2)))) none
def ev_callI (x1 x2 nx : Nat) (lo : e_L) (sk : List Value) : Option e_R := match sk.drop x2 with
  | .ref b :: r => cond (Nat.ble x2 sk.length && Nat.ble (ev_sum r) 8) (some (.inr (.inr (x1, .ref b :: (sk.take x2).reverse, nx, lo, r)))) none
  | _ => none
def ev_callV (x1 x2 nx : Nat) (ts : List Nat) (lo : e_L) (sk : List Value) (h : e_H) : Option e_R := match sk.drop x2, ts with
  | .ref b :: r, [ci] => match ev_obj h b ci with
    | some _ => cond (Nat.ble x2 sk.length && Nat.ble (ev_sum r) 8) (some (.inr (.inr (x1, .ref b :: (sk.take x2).reverse, nx, lo, r)))) none
    | none => none
  | _, _ => none
def ev_oin (nx : Nat) (lo : e_L) (sk : List Value) (h : e_H) : Option e_R := match sk with
  | .ref _ :: r => cond (Nat.ble (ev_sum r) 8) (ev_go nx lo r h) none
  | _ => none
def ev_nob (o : e_O) (n nx : Nat) (lo : e_L) (sk : List Value) (h : e_H) : Option e_R := match ev_new h o n with
  | some (z, h') => ev_go nx lo (.ref z :: sk) h'
  | none => none
def ev_rk : FieldType → Nat
  | .long => 1
  | .object _ => 2
  | .array _ => 2
  | .float => 9
  | .double => 9
  | _ => 0
def ev_ret (k : Nat) (rt : Option FieldType) (sk : List Value) : Option e_R := match sk, rt with
  | [w], some ty => cond (Nat.beq (ev_kd w) k && (Nat.beq (ev_rk ty) k && decide (narrow ty w = w))) (some (.inr (.inl (some w)))) none
  | _, _ => none
def ev_rtv (rt : Option FieldType) (sk : List Value) : Option e_R := match sk, rt with
  | [], none => some (.inr (.inl none))
  | _, _ => none
def ev_l2i (nx : Nat) (lo : e_L) (sk : List Value) (h : e_H) : Option e_R := match sk with
  | .long x :: r => ev_go nx lo (.int x.toInt32 :: r) h
  | _ => none
def ev_dup (nx : Nat) (lo : e_L) (sk : List Value) (h : e_H) : Option e_R := match sk with
  | w :: r => cond (Nat.beq w.category 1) (ev_go nx lo (w :: w :: r) h) none
  | _ => none
def ev_dup2 (nx : Nat) (lo : e_L) (sk : List Value) (h : e_H) : Option e_R := match sk with
  | w :: u :: r => cond (Nat.beq w.category 1 && Nat.beq u.category 1) (ev_go nx lo (w :: u :: w :: u :: r) h) none
  | _ => none
def ev_icm (c : ClassFile.Cond) (x1 nx : Nat) (lo : e_L) (sk : List Value) (h : e_H) : Option e_R := match sk with
  | .int y :: .int x :: r => ev_go (cond (ev_cmp c x y) x1 nx) lo r h
  | _ => none
def ev_ifc (c : ClassFile.Cond) (x1 nx : Nat) (lo : e_L) (sk : List Value) (h : e_H) : Option e_R := match sk with
  | .int x :: r => ev_go (cond (ev_cmp c x 0) x1 nx) lo r h
  | _ => none
/-- x1: if it is null -/
def ev_ifn (x1 nx : Nat) (lo : e_L) (sk : List Value) (h : e_H) : Option e_R := match sk with
  | .null :: r => ev_go x1 lo r h
  | .ref _ :: r => ev_go nx lo r h
  | _ => none
def ev_tss (ts : List Nat) (lo : e_L) (sk : List Value) (h : e_H) : Option e_R := match sk with
  | .int x :: r => ev_go (ev_tsw ts x) lo r h
  | _ => none
def ev_ins (bs : Nat) (sa : Nat → Nat) (rt : Option FieldType) (nx x1 x2 : Nat) (v : Value) (ts : List Nat) (lo : e_L) (sk : List Value) (h : e_H) (i : Instr) : Option e_R := match i with
  | .iconst _ => ev_go nx lo (v :: sk) h
  | .bipush _ => ev_go nx lo (v :: sk) h
  | .sipush _ => ev_go nx lo (v :: sk) h
  | .lconst _ => ev_go nx lo (v :: sk) h
  | .ldc _ => ev_go nx lo (v :: sk) h
  | .ldc2_w _ => ev_go nx lo (v :: sk) h
  | .aconst_null => ev_go nx lo (.null :: sk) h
  | .iload_n _ => ev_load 0 nx x1 lo sk h
  | .iload _ => ev_load 0 nx x1 lo sk h
  | .lload_n _ => ev_load 1 nx x1 lo sk h
  | .lload _ => ev_load 1 nx x1 lo sk h
  | .aload_n _ => ev_load 2 nx x1 lo sk h
  | .aload _ => ev_load 2 nx x1 lo sk h
  | .istore_n _ => ev_store 0 nx x1 lo sk h
  | .istore _ => ev_store 0 nx x1 lo sk h
  | .lstore_n _ => ev_storeL nx x1 lo sk h
  | .lstore _ => ev_storeL nx x1 lo sk h
  | .astore_n _ => ev_store 2 nx x1 lo sk h
  | .astore _ => ev_store 2 nx x1 lo sk h
  | .iinc _ _ => ev_inc nx x1 v lo sk h
  | .iadd => ev_bin (fun x y => x + y) nx lo sk h
  | .isub => ev_bin (fun x y => x - y) nx lo sk h
  | .imul => ev_bin (fun x y => x * y) nx lo sk h
  | .iand => ev_bin (fun x y => x &&& y) nx lo sk h
  | .ior => ev_bin (fun x y => x ||| y) nx lo sk h
  | .ixor => ev_bin (fun x y => x ^^^ y) nx lo sk h
  | .ishl => ev_bin (fun x y => x <<< (y &&& 31)) nx lo sk h
  | .ishr => ev_bin (fun x y => x >>> (y &&& 31)) nx lo sk h
  | .iushr => ev_bin (fun x y => (x.toUInt32 >>> (y.toUInt32 &&& Int32.toUInt32 31)).toInt32) nx lo sk h
  | .idiv => ev_div true nx lo sk h
  | .irem => ev_div false nx lo sk h
  | .ineg => ev_un (fun x => .int (-x)) nx lo sk h
  | .i2l => ev_un (fun x => .long x.toInt64) nx lo sk h
  | .i2s => ev_un (fun x => .int x.toInt16.toInt32) nx lo sk h
  | .l2i => ev_l2i nx lo sk h
  | .ladd => ev_binL (fun x y => .long (x + y)) nx lo sk h
  | .land => ev_binL (fun x y => .long (x &&& y)) nx lo sk h
  | .lor => ev_binL (fun x y => .long (x ||| y)) nx lo sk h
  | .lcmp => ev_binL (fun x y => .int (lg_cmp x y)) nx lo sk h
  | .lshl => ev_shL (fun x y => x <<< (y.toInt64 &&& 63)) nx lo sk h
  | .lshr => ev_shL (fun x y => x >>> (y.toInt64 &&& 63)) nx lo sk h
  | .lushr => ev_shL (fun x y => (x.toUInt64 >>> (y.toInt64.toUInt64 &&& Int64.toUInt64 63)).toInt64) nx lo sk h
  | .dup => ev_dup nx lo sk h
  | .dup2 => ev_dup2 nx lo sk h
  | .if_icmp c _ => ev_icm c x1 nx lo sk h
  | .ifCond c _ => ev_ifc c x1 nx lo sk h
  | .ifnull _ => ev_ifn x1 nx lo sk h
  | .ifnonnull _ => ev_ifn nx x1 lo sk h
  | .goto _ => ev_go x1 lo sk h
  | .tableswitch _ _ _ _ => ev_tss ts lo sk h
  | .getfield _ => ev_get x1 x2 nx lo sk h
  | .putfield _ => ev_put bs v x1 x2 nx lo sk h
  | .getstatic _ => ev_go nx lo (.ref (sa x1) :: sk) h
  | .iaload => ev_iald nx lo sk h
  | .iastore => ev_iast bs nx lo sk h
  | .laload => ev_lald nx lo sk h
  | .lastore => ev_last bs nx lo sk h
  | .aaload => ev_aald nx lo sk h
  | .aastore => ev_aast bs 1 nx lo sk h
  | .arraylength => ev_alen nx lo sk h
  | .newarray .int => ev_newa (fun n => .inr (.inl (n, fun _ => 0))) nx lo sk h
  | .newarray .long => ev_newa (fun n => .inr (.inr (.inl (n, fun _ => 0)))) nx lo sk h
  | .anewarray _ => ev_newa (fun n => .inr (.inr (.inr (n, fun _ => none)))) nx lo sk h
  | .new _ => ev_nob (.inl (x1, ts.map ev_z)) x2 nx lo sk h
  | .invokestatic _ => if x1 = 1001 then ev_cpy bs nx lo sk h else ev_callS x1 x2 nx lo sk
  | .invokespecial _ => if x1 = 1000 then ev_oin nx lo sk h else ev_callI x1 x2 nx lo sk
  | .invokevirtual _ => ev_callV x1 x2 nx ts lo sk h
  | .ireturn => ev_ret 0 rt sk
  | .lreturn => ev_ret 1 rt sk
  | .areturn => ev_ret 2 rt sk
  | .return_ => ev_rtv rt sk
  | _ => none
def ev_stp (bs : Nat) (sa : Nat → Nat) (T : e_M) (cf : e_C) : Option e_R := match ev_fnd T.2 cf.1 with
  | some (i, nx, x1, x2, v, ts) => ev_ins bs sa T.1.2.2.2.2 nx x1 x2 v ts cf.2.1 cf.2.2.1 cf.2.2.2 i
  | none => none
/-- n steps at most, to an end that E names: a place in the frame, or the method's answer; calls go by K -/
def ev_rch (bs : Nat) (sa : Nat → Nat) (K : Nat → List Value → e_H → Option Value → e_H → Prop) (T : e_M) (E : e_C ⊕ (Option Value × e_H) → Prop) : Nat → e_C → Prop
  | 0, cf => E (.inl cf)
  | n + 1, cf => E (.inl cf) ∨ match ev_stp bs sa T cf with
    | some (.inl cf') => ev_rch bs sa K T E n cf'
    | some (.inr (.inl v)) => E (.inr (v, cf.2.2.2))
    | some (.inr (.inr (y, as, nx, lo, r))) => ∃ v h', K y as cf.2.2.2 v h' ∧ ev_rch bs sa K T E n (nx, lo, v.toList ++ r, h')
    | none => False
def ev_args (vs : List Value) : e_L := vs.flatMap fun v => if v.category = 2 then [some v, none] else [some v]
/-- a method's first locals -/
def ev_loc (n : Nat) (vs : List Value) : e_L := ev_args vs ++ List.replicate (n - (ev_args vs).length) none
/-- the method y, with these arguments in this heap, ends so; d frames deep at most; tb: the methods -/
def ev_run (tb : Nat → Option e_M) (bs : Nat) (sa : Nat → Nat) : Nat → Nat → List Value → e_H → Option Value → e_H → Prop
  | 0 => fun _ _ _ _ _ => False
  | d + 1 => fun y as h v h' => ∃ T n, tb y = some T ∧ (ev_args as).length ≤ T.1.2.2.2.1 ∧ ev_rch bs sa (ev_run tb bs sa d) T (fun x => x = .inr (v, h')) n (0, ev_loc T.1.2.2.2.1 as, [], h)
/-- to an end that E names -/
def ev_E (tb : Nat → Option e_M) (bs : Nat) (sa : Nat → Nat) (d : Nat) (T : e_M) (E : e_C ⊕ (Option Value × e_H) → Prop) (cf : e_C) : Prop := ∃ n, ev_rch bs sa (ev_run tb bs sa d) T E n cf
