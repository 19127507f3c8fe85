section
/-! J: the kit's W with the locals, the world and the frame bundled; a rule an instruction. -/
section
variable {p : Program} {l : Launch} {e : Env} {R : Room} {s : State} {m : MethodId} {args : Array Value} {below : List Frame} {meth : Method} {c : Code} {Q : State → Prop} {cc : ByteArray} {nL : Nat} {Ts : List Cond} {own : String} {D : va_G} {cl : List vw_C} {tys : List (ClassId × FieldType)} {A : Nat → Prop} {cells slots pc : Nat} {lv lv' : List (Nat × Value)} {st : List Value} {ws ws' : va_W}
def jX (p : Program) (s : State) (m : MethodId) (args : Array Value) (c : Code) (cc : ByteArray) (nL : Nat) (Ts : List Cond) (own : String) (D : va_G) (cl : List vw_C) (tys : List (ClassId × FieldType)) (A : Nat → Prop) : Prop :=
  p.tables.exec = Jvm.exec ∧ c.code = cc ∧ c.maxLocals = nL ∧ s.vm.findClass own = some m.cls ∧ (∀ w ∈ Ts, w.before args s = true) ∧ va_K D cl tys s ∧ (∀ q : Nat, s.heap.size ≤ q → A q)
def J (p : Program) (l : Launch) (e : Env) (R : Room) (s : State) (m : MethodId) (args : Array Value) (below : List Frame) (meth : Method) (c : Code) (nL : Nat) (D : va_G) (cl : List vw_C) (A : Nat → Prop) (Q : State → Prop) (cells slots pc : Nat) (lv : List (Nat × Value)) (st : List Value) (ws : va_W) : Prop :=
  ∀ (ls : Array Slot) (H : Heap) (locs : List Loc), lv_has ls nL lv → va_P D cl ws H → va_D A ws → va_S A s.heap H locs → W p l e R s m args below meth c H locs cells slots Q (F0 m pc ls st)
theorem jX.fix (X : jX p s m args c cc nL Ts own D cl tys A) : CallFix p m c cc nL s args Ts own := ⟨X.1, X.2.1, X.2.2.1, X.2.2.2.1, X.2.2.2.2.1⟩
theorem jX.hts (X : jX p s m args c cc nL Ts own D cl tys A) : ∀ w ∈ Ts, w.before args s = true := X.2.2.2.2.1
theorem jX.hown (X : jX p s m args c cc nL Ts own D cl tys A) : s.vm.findClass own = some m.cls := X.2.2.2.1
theorem jX.hK (X : jX p s m args c cc nL Ts own D cl tys A) : va_K D cl tys s := X.2.2.2.2.2.1
theorem jX.hA (X : jX p s m args c cc nL Ts own D cl tys A) : ∀ q : Nat, s.heap.size ≤ q → A q := X.2.2.2.2.2.2
theorem J_iconst (X : jX p s m args c cc nL Ts own D cl tys A) {n : Int} {v : Int32} (hdg : decode cc pc = .ok (.iconst n, 1)) (hv : Int32.ofInt n = v) (kk : J p l e R s m args below meth c nL D cl A Q cells slots (pc + 1) lv (.int v :: st) ws) : J p l e R s m args below meth c nL D cl A Q cells slots pc lv st ws := fun ls H locs hl hP hD hS => lv_iconst X.1 X.2.1 hdg hv (kk ls H locs hl hP hD hS)
theorem J_bipush (X : jX p s m args c cc nL Ts own D cl tys A) {n : Int} {v : Int32} (hdg : decode cc pc = .ok (.bipush n, 2)) (hv : (Int8.ofInt n).toInt32 = v) (kk : J p l e R s m args below meth c nL D cl A Q cells slots (pc + 2) lv (.int v :: st) ws) : J p l e R s m args below meth c nL D cl A Q cells slots pc lv st ws := fun ls H locs hl hP hD hS => lv_bipush X.1 X.2.1 hdg hv (kk ls H locs hl hP hD hS)
theorem J_sipush (X : jX p s m args c cc nL Ts own D cl tys A) {n : Int} {v : Int32} (hdg : decode cc pc = .ok (.sipush n, 3)) (hv : (Int16.ofInt n).toInt32 = v) (kk : J p l e R s m args below meth c nL D cl A Q cells slots (pc + 3) lv (.int v :: st) ws) : J p l e R s m args below meth c nL D cl A Q cells slots pc lv st ws := fun ls H locs hl hP hD hS => lv_sipush X.1 X.2.1 hdg hv (kk ls H locs hl hP hD hS)
theorem J_lconst (X : jX p s m args c cc nL Ts own D cl tys A) {n : Fin 2} {v : Int64} (hdg : decode cc pc = .ok (.lconst n, 1)) (hv : Int64.ofNat (n : Nat) = v) (kk : J p l e R s m args below meth c nL D cl A Q cells slots (pc + 1) lv (.long v :: st) ws) : J p l e R s m args below meth c nL D cl A Q cells slots pc lv st ws := fun ls H locs hl hP hD hS => lv_lconst X.1 X.2.1 hdg hv (kk ls H locs hl hP hD hS)
theorem J_ldc (X : jX p s m args c cc nL Ts own D cl tys A) {index : Nat} {v : Int32} (hin : Cond.constant own index v ∈ Ts) (hdg : decode cc pc = .ok (.ldc index, 2)) (kk : J p l e R s m args below meth c nL D cl A Q cells slots (pc + 2) lv (.int v :: st) ws) : J p l e R s m args below meth c nL D cl A Q cells slots pc lv st ws := fun ls H locs hl hP hD hS => lv_ldc X.1 X.2.1 X.hown (X.hts _ hin) hdg (kk ls H locs hl hP hD hS)
theorem J_ldc2 (X : jX p s m args c cc nL Ts own D cl tys A) {index : Nat} {v : Int64} (hin : Cond.constantLong own index v ∈ Ts) (hdg : decode cc pc = .ok (.ldc2_w index, 3)) (kk : J p l e R s m args below meth c nL D cl A Q cells slots (pc + 3) lv (.long v :: st) ws) : J p l e R s m args below meth c nL D cl A Q cells slots pc lv st ws := fun ls H locs hl hP hD hS => lv_ldc2 X.1 X.2.1 X.hown (X.hts _ hin) hdg (kk ls H locs hl hP hD hS)
theorem J_iload_n (X : jX p s m args c cc nL Ts own D cl tys A) {k : Fin 4} {i : Nat} {x : Int32} (hdg : decode cc pc = .ok (.iload_n k, 1)) (j : Nat) (hi : (k : Nat) = i) (hj : lv[j]? = some (i, .int x)) (kk : J p l e R s m args below meth c nL D cl A Q cells slots (pc + 1) lv (.int x :: st) ws) : J p l e R s m args below meth c nL D cl A Q cells slots pc lv st ws := fun ls H locs hl hP hD hS => lv_iload_n X.1 X.2.1 hdg hi (lv_at hl j hj) (kk ls H locs hl hP hD hS)
theorem J_iload (X : jX p s m args c cc nL Ts own D cl tys A) {i : Nat} {x : Int32} (hdg : decode cc pc = .ok (.iload i, 2)) (j : Nat) (hj : lv[j]? = some (i, .int x)) (kk : J p l e R s m args below meth c nL D cl A Q cells slots (pc + 2) lv (.int x :: st) ws) : J p l e R s m args below meth c nL D cl A Q cells slots pc lv st ws := fun ls H locs hl hP hD hS => lv_iload X.1 X.2.1 hdg (lv_at hl j hj) (kk ls H locs hl hP hD hS)
theorem J_lload_n (X : jX p s m args c cc nL Ts own D cl tys A) {k : Fin 4} {i : Nat} {x : Int64} (hdg : decode cc pc = .ok (.lload_n k, 1)) (j : Nat) (hi : (k : Nat) = i) (hj : lv[j]? = some (i, .long x)) (kk : J p l e R s m args below meth c nL D cl A Q cells slots (pc + 1) lv (.long x :: st) ws) : J p l e R s m args below meth c nL D cl A Q cells slots pc lv st ws := fun ls H locs hl hP hD hS => lv_lload_n X.1 X.2.1 hdg hi (lv_at hl j hj) (kk ls H locs hl hP hD hS)
theorem J_lload (X : jX p s m args c cc nL Ts own D cl tys A) {i : Nat} {x : Int64} (hdg : decode cc pc = .ok (.lload i, 2)) (j : Nat) (hj : lv[j]? = some (i, .long x)) (kk : J p l e R s m args below meth c nL D cl A Q cells slots (pc + 2) lv (.long x :: st) ws) : J p l e R s m args below meth c nL D cl A Q cells slots pc lv st ws := fun ls H locs hl hP hD hS => lv_lload X.1 X.2.1 hdg (lv_at hl j hj) (kk ls H locs hl hP hD hS)
theorem J_aload_n (X : jX p s m args c cc nL Ts own D cl tys A) {k : Fin 4} {i : Nat} {x : Nat} (hdg : decode cc pc = .ok (.aload_n k, 1)) (j : Nat) (hi : (k : Nat) = i) (hj : lv[j]? = some (i, .ref x)) (kk : J p l e R s m args below meth c nL D cl A Q cells slots (pc + 1) lv (.ref x :: st) ws) : J p l e R s m args below meth c nL D cl A Q cells slots pc lv st ws := fun ls H locs hl hP hD hS => lv_aload_n X.1 X.2.1 hdg hi (lv_at hl j hj) (kk ls H locs hl hP hD hS)
theorem J_aload (X : jX p s m args c cc nL Ts own D cl tys A) {i : Nat} {x : Nat} (hdg : decode cc pc = .ok (.aload i, 2)) (j : Nat) (hj : lv[j]? = some (i, .ref x)) (kk : J p l e R s m args below meth c nL D cl A Q cells slots (pc + 2) lv (.ref x :: st) ws) : J p l e R s m args below meth c nL D cl A Q cells slots pc lv st ws := fun ls H locs hl hP hD hS => lv_aload X.1 X.2.1 hdg (lv_at hl j hj) (kk ls H locs hl hP hD hS)
theorem J_istore_n (X : jX p s m args c cc nL Ts own D cl tys A) {k : Fin 4} {i : Nat} {x : Int32} (lv' : List (Nat × Value)) (hdg : decode cc pc = .ok (.istore_n k, 1)) (hi : (k : Nat) = i) (hn : i < nL) (hl2 : (i, Value.int x) :: lv.filter (fun q => !(q.1 == i) && !(q.1 + 1 == i && q.2.category == 2)) = lv') (kk : J p l e R s m args below meth c nL D cl A Q cells slots (pc + 1) lv' st ws) : J p l e R s m args below meth c nL D cl A Q cells slots pc lv (.int x :: st) ws := fun ls H locs hl hP hD hS => lv_istore_n X.1 X.2.1 hdg hi hl hn hl2 (fun ls h2 => kk ls H locs h2 hP hD hS)
theorem J_istore (X : jX p s m args c cc nL Ts own D cl tys A) {i : Nat} {x : Int32} (lv' : List (Nat × Value)) (hdg : decode cc pc = .ok (.istore i, 2)) (hn : i < nL) (hl2 : (i, Value.int x) :: lv.filter (fun q => !(q.1 == i) && !(q.1 + 1 == i && q.2.category == 2)) = lv') (kk : J p l e R s m args below meth c nL D cl A Q cells slots (pc + 2) lv' st ws) : J p l e R s m args below meth c nL D cl A Q cells slots pc lv (.int x :: st) ws := fun ls H locs hl hP hD hS => lv_istore X.1 X.2.1 hdg hl hn hl2 (fun ls h2 => kk ls H locs h2 hP hD hS)
theorem J_lstore_n (X : jX p s m args c cc nL Ts own D cl tys A) {k : Fin 4} {i : Nat} {x : Int64} (lv' : List (Nat × Value)) (hdg : decode cc pc = .ok (.lstore_n k, 1)) (hi : (k : Nat) = i) (hn : i + 1 < nL) (hl2 : (i, Value.long x) :: lv.filter (fun q => !(q.1 == i) && (!(q.1 == i + 1) && !(q.1 + 1 == i && q.2.category == 2))) = lv') (kk : J p l e R s m args below meth c nL D cl A Q cells slots (pc + 1) lv' st ws) : J p l e R s m args below meth c nL D cl A Q cells slots pc lv (.long x :: st) ws := fun ls H locs hl hP hD hS => lv_lstore_n X.1 X.2.1 hdg hi hl hn hl2 (fun ls h2 => kk ls H locs h2 hP hD hS)
theorem J_lstore (X : jX p s m args c cc nL Ts own D cl tys A) {i : Nat} {x : Int64} (lv' : List (Nat × Value)) (hdg : decode cc pc = .ok (.lstore i, 2)) (hn : i + 1 < nL) (hl2 : (i, Value.long x) :: lv.filter (fun q => !(q.1 == i) && (!(q.1 == i + 1) && !(q.1 + 1 == i && q.2.category == 2))) = lv') (kk : J p l e R s m args below meth c nL D cl A Q cells slots (pc + 2) lv' st ws) : J p l e R s m args below meth c nL D cl A Q cells slots pc lv (.long x :: st) ws := fun ls H locs hl hP hD hS => lv_lstore X.1 X.2.1 hdg hl hn hl2 (fun ls h2 => kk ls H locs h2 hP hD hS)
theorem J_astore_n (X : jX p s m args c cc nL Ts own D cl tys A) {k : Fin 4} {i : Nat} {x : Nat} (lv' : List (Nat × Value)) (hdg : decode cc pc = .ok (.astore_n k, 1)) (hi : (k : Nat) = i) (hn : i < nL) (hl2 : (i, Value.ref x) :: lv.filter (fun q => !(q.1 == i) && !(q.1 + 1 == i && q.2.category == 2)) = lv') (kk : J p l e R s m args below meth c nL D cl A Q cells slots (pc + 1) lv' st ws) : J p l e R s m args below meth c nL D cl A Q cells slots pc lv (.ref x :: st) ws := fun ls H locs hl hP hD hS => lv_astore_n X.1 X.2.1 hdg hi hl hn hl2 (fun ls h2 => kk ls H locs h2 hP hD hS)
theorem J_astore (X : jX p s m args c cc nL Ts own D cl tys A) {i : Nat} {x : Nat} (lv' : List (Nat × Value)) (hdg : decode cc pc = .ok (.astore i, 2)) (hn : i < nL) (hl2 : (i, Value.ref x) :: lv.filter (fun q => !(q.1 == i) && !(q.1 + 1 == i && q.2.category == 2)) = lv') (kk : J p l e R s m args below meth c nL D cl A Q cells slots (pc + 2) lv' st ws) : J p l e R s m args below meth c nL D cl A Q cells slots pc lv (.ref x :: st) ws := fun ls H locs hl hP hD hS => lv_astore X.1 X.2.1 hdg hl hn hl2 (fun ls h2 => kk ls H locs h2 hP hD hS)
theorem J_iinc (X : jX p s m args c cc nL Ts own D cl tys A) {i : Nat} {n : Int} {x v : Int32} (lv' : List (Nat × Value)) (hdg : decode cc pc = .ok (.iinc i n, 3)) (j : Nat) (hj : lv[j]? = some (i, .int x)) (hv : x + Int32.ofInt n = v) (hn : i < nL) (hl2 : (i, Value.int v) :: lv.filter (fun q => !(q.1 == i) && !(q.1 + 1 == i && q.2.category == 2)) = lv') (kk : J p l e R s m args below meth c nL D cl A Q cells slots (pc + 3) lv' st ws) : J p l e R s m args below meth c nL D cl A Q cells slots pc lv st ws := fun ls H locs hl hP hD hS => lv_iinc X.1 X.2.1 hdg hl hj hv hn hl2 (fun ls h2 => kk ls H locs h2 hP hD hS)
theorem J_iadd (X : jX p s m args c cc nL Ts own D cl tys A) {x y : Int32} (hdg : decode cc pc = .ok (.iadd, 1)) (kk : J p l e R s m args below meth c nL D cl A Q cells slots (pc + 1) lv (.int (x + y) :: st) ws) : J p l e R s m args below meth c nL D cl A Q cells slots pc lv (.int y :: .int x :: st) ws := fun ls H locs hl hP hD hS => lv_iadd X.1 X.2.1 hdg (kk ls H locs hl hP hD hS)
theorem J_isub (X : jX p s m args c cc nL Ts own D cl tys A) {x y : Int32} (hdg : decode cc pc = .ok (.isub, 1)) (kk : J p l e R s m args below meth c nL D cl A Q cells slots (pc + 1) lv (.int (x - y) :: st) ws) : J p l e R s m args below meth c nL D cl A Q cells slots pc lv (.int y :: .int x :: st) ws := fun ls H locs hl hP hD hS => lv_isub X.1 X.2.1 hdg (kk ls H locs hl hP hD hS)
theorem J_imul (X : jX p s m args c cc nL Ts own D cl tys A) {x y : Int32} (hdg : decode cc pc = .ok (.imul, 1)) (kk : J p l e R s m args below meth c nL D cl A Q cells slots (pc + 1) lv (.int (x * y) :: st) ws) : J p l e R s m args below meth c nL D cl A Q cells slots pc lv (.int y :: .int x :: st) ws := fun ls H locs hl hP hD hS => lv_imul X.1 X.2.1 hdg (kk ls H locs hl hP hD hS)
theorem J_iand (X : jX p s m args c cc nL Ts own D cl tys A) {x y : Int32} (hdg : decode cc pc = .ok (.iand, 1)) (kk : J p l e R s m args below meth c nL D cl A Q cells slots (pc + 1) lv (.int (x &&& y) :: st) ws) : J p l e R s m args below meth c nL D cl A Q cells slots pc lv (.int y :: .int x :: st) ws := fun ls H locs hl hP hD hS => lv_iand X.1 X.2.1 hdg (kk ls H locs hl hP hD hS)
theorem J_ior (X : jX p s m args c cc nL Ts own D cl tys A) {x y : Int32} (hdg : decode cc pc = .ok (.ior, 1)) (kk : J p l e R s m args below meth c nL D cl A Q cells slots (pc + 1) lv (.int (x ||| y) :: st) ws) : J p l e R s m args below meth c nL D cl A Q cells slots pc lv (.int y :: .int x :: st) ws := fun ls H locs hl hP hD hS => lv_ior X.1 X.2.1 hdg (kk ls H locs hl hP hD hS)
theorem J_ixor (X : jX p s m args c cc nL Ts own D cl tys A) {x y : Int32} (hdg : decode cc pc = .ok (.ixor, 1)) (kk : J p l e R s m args below meth c nL D cl A Q cells slots (pc + 1) lv (.int (x ^^^ y) :: st) ws) : J p l e R s m args below meth c nL D cl A Q cells slots pc lv (.int y :: .int x :: st) ws := fun ls H locs hl hP hD hS => lv_ixor X.1 X.2.1 hdg (kk ls H locs hl hP hD hS)
theorem J_ishl (X : jX p s m args c cc nL Ts own D cl tys A) {x y : Int32} (hdg : decode cc pc = .ok (.ishl, 1)) (kk : J p l e R s m args below meth c nL D cl A Q cells slots (pc + 1) lv (.int (x <<< (y &&& 31)) :: st) ws) : J p l e R s m args below meth c nL D cl A Q cells slots pc lv (.int y :: .int x :: st) ws := fun ls H locs hl hP hD hS => lv_ishl X.1 X.2.1 hdg (kk ls H locs hl hP hD hS)
theorem J_ishr (X : jX p s m args c cc nL Ts own D cl tys A) {x y : Int32} (hdg : decode cc pc = .ok (.ishr, 1)) (kk : J p l e R s m args below meth c nL D cl A Q cells slots (pc + 1) lv (.int (x >>> (y &&& 31)) :: st) ws) : J p l e R s m args below meth c nL D cl A Q cells slots pc lv (.int y :: .int x :: st) ws := fun ls H locs hl hP hD hS => lv_ishr X.1 X.2.1 hdg (kk ls H locs hl hP hD hS)
theorem J_iushr (X : jX p s m args c cc nL Ts own D cl tys A) {x y : Int32} (hdg : decode cc pc = .ok (.iushr, 1)) (kk : J p l e R s m args below meth c nL D cl A Q cells slots (pc + 1) lv (.int ((x.toUInt32 >>> (y.toUInt32 &&& Int32.toUInt32 31)).toInt32) :: st) ws) : J p l e R s m args below meth c nL D cl A Q cells slots pc lv (.int y :: .int x :: st) ws := fun ls H locs hl hP hD hS => lv_iushr X.1 X.2.1 hdg rfl (kk ls H locs hl hP hD hS)
theorem J_idiv (X : jX p s m args c cc nL Ts own D cl tys A) {x y : Int32} (hdg : decode cc pc = .ok (.idiv, 1)) (hne : ¬ y = 0) (kk : J p l e R s m args below meth c nL D cl A Q cells slots (pc + 1) lv (.int (x / y) :: st) ws) : J p l e R s m args below meth c nL D cl A Q cells slots pc lv (.int y :: .int x :: st) ws := fun ls H locs hl hP hD hS => lv_idiv X.1 X.2.1 hdg hne (kk ls H locs hl hP hD hS)
theorem J_irem (X : jX p s m args c cc nL Ts own D cl tys A) {x y : Int32} (hdg : decode cc pc = .ok (.irem, 1)) (hne : ¬ y = 0) (kk : J p l e R s m args below meth c nL D cl A Q cells slots (pc + 1) lv (.int (x - x / y * y) :: st) ws) : J p l e R s m args below meth c nL D cl A Q cells slots pc lv (.int y :: .int x :: st) ws := fun ls H locs hl hP hD hS => lv_irem X.1 X.2.1 hdg hne (kk ls H locs hl hP hD hS)
theorem J_ineg (X : jX p s m args c cc nL Ts own D cl tys A) {x : Int32} (hdg : decode cc pc = .ok (.ineg, 1)) (kk : J p l e R s m args below meth c nL D cl A Q cells slots (pc + 1) lv (.int (-x) :: st) ws) : J p l e R s m args below meth c nL D cl A Q cells slots pc lv (.int x :: st) ws := fun ls H locs hl hP hD hS => lv_ineg X.1 X.2.1 hdg (kk ls H locs hl hP hD hS)
theorem J_ladd (X : jX p s m args c cc nL Ts own D cl tys A) {x y : Int64} (hdg : decode cc pc = .ok (.ladd, 1)) (kk : J p l e R s m args below meth c nL D cl A Q cells slots (pc + 1) lv (.long (x + y) :: st) ws) : J p l e R s m args below meth c nL D cl A Q cells slots pc lv (.long y :: .long x :: st) ws := fun ls H locs hl hP hD hS => lv_ladd X.1 X.2.1 hdg (kk ls H locs hl hP hD hS)
theorem J_lsub (X : jX p s m args c cc nL Ts own D cl tys A) {x y : Int64} (hdg : decode cc pc = .ok (.lsub, 1)) (kk : J p l e R s m args below meth c nL D cl A Q cells slots (pc + 1) lv (.long (x - y) :: st) ws) : J p l e R s m args below meth c nL D cl A Q cells slots pc lv (.long y :: .long x :: st) ws := fun ls H locs hl hP hD hS => lv_lsub X.1 X.2.1 hdg (kk ls H locs hl hP hD hS)
theorem J_lmul (X : jX p s m args c cc nL Ts own D cl tys A) {x y : Int64} (hdg : decode cc pc = .ok (.lmul, 1)) (kk : J p l e R s m args below meth c nL D cl A Q cells slots (pc + 1) lv (.long (x * y) :: st) ws) : J p l e R s m args below meth c nL D cl A Q cells slots pc lv (.long y :: .long x :: st) ws := fun ls H locs hl hP hD hS => lv_lmul X.1 X.2.1 hdg (kk ls H locs hl hP hD hS)
theorem J_land (X : jX p s m args c cc nL Ts own D cl tys A) {x y : Int64} (hdg : decode cc pc = .ok (.land, 1)) (kk : J p l e R s m args below meth c nL D cl A Q cells slots (pc + 1) lv (.long (x &&& y) :: st) ws) : J p l e R s m args below meth c nL D cl A Q cells slots pc lv (.long y :: .long x :: st) ws := fun ls H locs hl hP hD hS => lv_land X.1 X.2.1 hdg (kk ls H locs hl hP hD hS)
theorem J_lor (X : jX p s m args c cc nL Ts own D cl tys A) {x y : Int64} (hdg : decode cc pc = .ok (.lor, 1)) (kk : J p l e R s m args below meth c nL D cl A Q cells slots (pc + 1) lv (.long (x ||| y) :: st) ws) : J p l e R s m args below meth c nL D cl A Q cells slots pc lv (.long y :: .long x :: st) ws := fun ls H locs hl hP hD hS => lv_lor X.1 X.2.1 hdg (kk ls H locs hl hP hD hS)
theorem J_lxor (X : jX p s m args c cc nL Ts own D cl tys A) {x y : Int64} (hdg : decode cc pc = .ok (.lxor, 1)) (kk : J p l e R s m args below meth c nL D cl A Q cells slots (pc + 1) lv (.long (x ^^^ y) :: st) ws) : J p l e R s m args below meth c nL D cl A Q cells slots pc lv (.long y :: .long x :: st) ws := fun ls H locs hl hP hD hS => lv_lxor X.1 X.2.1 hdg (kk ls H locs hl hP hD hS)
theorem J_lushr (X : jX p s m args c cc nL Ts own D cl tys A) {x : Int64} {y : Int32} (hdg : decode cc pc = .ok (.lushr, 1)) (kk : J p l e R s m args below meth c nL D cl A Q cells slots (pc + 1) lv (.long ((x.toUInt64 >>> (y.toInt64.toUInt64 &&& Int64.toUInt64 63)).toInt64) :: st) ws) : J p l e R s m args below meth c nL D cl A Q cells slots pc lv (.int y :: .long x :: st) ws := fun ls H locs hl hP hD hS => lv_lushr X.1 X.2.1 hdg rfl (kk ls H locs hl hP hD hS)
theorem J_lshl (X : jX p s m args c cc nL Ts own D cl tys A) {x : Int64} {y : Int32} (hdg : decode cc pc = .ok (.lshl, 1)) (kk : J p l e R s m args below meth c nL D cl A Q cells slots (pc + 1) lv (.long (x <<< (y.toInt64 &&& 63)) :: st) ws) : J p l e R s m args below meth c nL D cl A Q cells slots pc lv (.int y :: .long x :: st) ws := fun ls H locs hl hP hD hS => lv_lshl X.1 X.2.1 hdg rfl (kk ls H locs hl hP hD hS)
theorem J_lshr (X : jX p s m args c cc nL Ts own D cl tys A) {x : Int64} {y : Int32} (hdg : decode cc pc = .ok (.lshr, 1)) (kk : J p l e R s m args below meth c nL D cl A Q cells slots (pc + 1) lv (.long (x >>> (y.toInt64 &&& 63)) :: st) ws) : J p l e R s m args below meth c nL D cl A Q cells slots pc lv (.int y :: .long x :: st) ws := fun ls H locs hl hP hD hS => lv_lshr X.1 X.2.1 hdg rfl (kk ls H locs hl hP hD hS)
theorem J_i2l (X : jX p s m args c cc nL Ts own D cl tys A) {x : Int32} (hdg : decode cc pc = .ok (.i2l, 1)) (kk : J p l e R s m args below meth c nL D cl A Q cells slots (pc + 1) lv (.long (x.toInt64) :: st) ws) : J p l e R s m args below meth c nL D cl A Q cells slots pc lv (.int x :: st) ws := fun ls H locs hl hP hD hS => lv_i2l X.1 X.2.1 hdg rfl (kk ls H locs hl hP hD hS)
theorem J_l2i (X : jX p s m args c cc nL Ts own D cl tys A) {x : Int64} (hdg : decode cc pc = .ok (.l2i, 1)) (kk : J p l e R s m args below meth c nL D cl A Q cells slots (pc + 1) lv (.int (x.toInt32) :: st) ws) : J p l e R s m args below meth c nL D cl A Q cells slots pc lv (.long x :: st) ws := fun ls H locs hl hP hD hS => lv_l2i X.1 X.2.1 hdg rfl (kk ls H locs hl hP hD hS)
theorem J_i2b (X : jX p s m args c cc nL Ts own D cl tys A) {x : Int32} (hdg : decode cc pc = .ok (.i2b, 1)) (kk : J p l e R s m args below meth c nL D cl A Q cells slots (pc + 1) lv (.int (x.toInt8.toInt32) :: st) ws) : J p l e R s m args below meth c nL D cl A Q cells slots pc lv (.int x :: st) ws := fun ls H locs hl hP hD hS => lv_i2b X.1 X.2.1 hdg rfl (kk ls H locs hl hP hD hS)
theorem J_lcmp (X : jX p s m args c cc nL Ts own D cl tys A) {x y : Int64} (hdg : decode cc pc = .ok (.lcmp, 1)) (kk : J p l e R s m args below meth c nL D cl A Q cells slots (pc + 1) lv (.int (lg_cmp x y) :: st) ws) : J p l e R s m args below meth c nL D cl A Q cells slots pc lv (.long y :: .long x :: st) ws := fun ls H locs hl hP hD hS => W.lcmp X.1 X.2.1 hdg (kk ls H locs hl hP hD hS)
theorem J_dup (X : jX p s m args c cc nL Ts own D cl tys A) {va : Value} (hdg : decode cc pc = .ok (.dup, 1)) (hva : va.category = 1) (kk : J p l e R s m args below meth c nL D cl A Q cells slots (pc + 1) lv (va :: va :: st) ws) : J p l e R s m args below meth c nL D cl A Q cells slots pc lv (va :: st) ws := fun ls H locs hl hP hD hS => lv_dup X.1 X.2.1 hdg hva (kk ls H locs hl hP hD hS)
theorem J_pop (X : jX p s m args c cc nL Ts own D cl tys A) {va : Value} (hdg : decode cc pc = .ok (.pop, 1)) (hva : va.category = 1) (kk : J p l e R s m args below meth c nL D cl A Q cells slots (pc + 1) lv st ws) : J p l e R s m args below meth c nL D cl A Q cells slots pc lv (va :: st) ws := fun ls H locs hl hP hD hS => lv_pop X.1 X.2.1 hdg hva (kk ls H locs hl hP hD hS)
theorem J_dup2 (X : jX p s m args c cc nL Ts own D cl tys A) {va vb : Value} (hdg : decode cc pc = .ok (.dup2, 1)) (hva : va.category = 1) (hvb : vb.category = 1) (kk : J p l e R s m args below meth c nL D cl A Q cells slots (pc + 1) lv (va :: vb :: va :: vb :: st) ws) : J p l e R s m args below meth c nL D cl A Q cells slots pc lv (va :: vb :: st) ws := fun ls H locs hl hP hD hS => lv_dup2_11 X.1 X.2.1 hdg hva hvb (kk ls H locs hl hP hD hS)
theorem J_dup_x1 (X : jX p s m args c cc nL Ts own D cl tys A) {va vb : Value} (hdg : decode cc pc = .ok (.dup_x1, 1)) (hva : va.category = 1) (hvb : vb.category = 1) (kk : J p l e R s m args below meth c nL D cl A Q cells slots (pc + 1) lv (va :: vb :: va :: st) ws) : J p l e R s m args below meth c nL D cl A Q cells slots pc lv (va :: vb :: st) ws := fun ls H locs hl hP hD hS => lv_dup_x1 X.1 X.2.1 hdg hva hvb (kk ls H locs hl hP hD hS)
theorem J_dup_x2 (X : jX p s m args c cc nL Ts own D cl tys A) {va vb vd : Value} (hdg : decode cc pc = .ok (.dup_x2, 1)) (hva : va.category = 1) (hvb : vb.category = 1) (hvd : vd.category = 1) (kk : J p l e R s m args below meth c nL D cl A Q cells slots (pc + 1) lv (va :: vb :: vd :: va :: st) ws) : J p l e R s m args below meth c nL D cl A Q cells slots pc lv (va :: vb :: vd :: st) ws := fun ls H locs hl hP hD hS => lv_dup_x2 X.1 X.2.1 hdg hva hvb hvd (kk ls H locs hl hP hD hS)
theorem J_if_eq (X : jX p s m args c cc nL Ts own D cl tys A) {x : Int32} {off : Int} (tgt : Nat) (hdg : decode cc pc = .ok (.ifCond .eq off, 3)) (ht : (pc : Int) + off = (tgt : Int)) (kt : x = 0 → J p l e R s m args below meth c nL D cl A Q cells slots tgt lv st ws) (kf : ¬ x = 0 → J p l e R s m args below meth c nL D cl A Q cells slots (pc + 3) lv st ws) : J p l e R s m args below meth c nL D cl A Q cells slots pc lv (.int x :: st) ws := fun ls H locs hl hP hD hS => lv_if_eq X.1 X.2.1 hdg ht (fun q => kt q ls H locs hl hP hD hS) (fun q => kf q ls H locs hl hP hD hS)
theorem J_if_ne (X : jX p s m args c cc nL Ts own D cl tys A) {x : Int32} {off : Int} (tgt : Nat) (hdg : decode cc pc = .ok (.ifCond .ne off, 3)) (ht : (pc : Int) + off = (tgt : Int)) (kt : ¬ x = 0 → J p l e R s m args below meth c nL D cl A Q cells slots tgt lv st ws) (kf : x = 0 → J p l e R s m args below meth c nL D cl A Q cells slots (pc + 3) lv st ws) : J p l e R s m args below meth c nL D cl A Q cells slots pc lv (.int x :: st) ws := fun ls H locs hl hP hD hS => lv_if_ne X.1 X.2.1 hdg ht (fun q => kt q ls H locs hl hP hD hS) (fun q => kf q ls H locs hl hP hD hS)
theorem J_if_lt (X : jX p s m args c cc nL Ts own D cl tys A) {x : Int32} {off : Int} (tgt : Nat) (hdg : decode cc pc = .ok (.ifCond .lt off, 3)) (ht : (pc : Int) + off = (tgt : Int)) (kt : x < 0 → J p l e R s m args below meth c nL D cl A Q cells slots tgt lv st ws) (kf : ¬ x < 0 → J p l e R s m args below meth c nL D cl A Q cells slots (pc + 3) lv st ws) : J p l e R s m args below meth c nL D cl A Q cells slots pc lv (.int x :: st) ws := fun ls H locs hl hP hD hS => lv_if_lt X.1 X.2.1 hdg ht (fun q => kt q ls H locs hl hP hD hS) (fun q => kf q ls H locs hl hP hD hS)
theorem J_if_ge (X : jX p s m args c cc nL Ts own D cl tys A) {x : Int32} {off : Int} (tgt : Nat) (hdg : decode cc pc = .ok (.ifCond .ge off, 3)) (ht : (pc : Int) + off = (tgt : Int)) (kt : 0 ≤ x → J p l e R s m args below meth c nL D cl A Q cells slots tgt lv st ws) (kf : ¬ 0 ≤ x → J p l e R s m args below meth c nL D cl A Q cells slots (pc + 3) lv st ws) : J p l e R s m args below meth c nL D cl A Q cells slots pc lv (.int x :: st) ws := fun ls H locs hl hP hD hS => lv_if_ge X.1 X.2.1 hdg ht (fun q => kt q ls H locs hl hP hD hS) (fun q => kf q ls H locs hl hP hD hS)
theorem J_if_gt (X : jX p s m args c cc nL Ts own D cl tys A) {x : Int32} {off : Int} (tgt : Nat) (hdg : decode cc pc = .ok (.ifCond .gt off, 3)) (ht : (pc : Int) + off = (tgt : Int)) (kt : 0 < x → J p l e R s m args below meth c nL D cl A Q cells slots tgt lv st ws) (kf : ¬ 0 < x → J p l e R s m args below meth c nL D cl A Q cells slots (pc + 3) lv st ws) : J p l e R s m args below meth c nL D cl A Q cells slots pc lv (.int x :: st) ws := fun ls H locs hl hP hD hS => lv_if_gt X.1 X.2.1 hdg ht (fun q => kt q ls H locs hl hP hD hS) (fun q => kf q ls H locs hl hP hD hS)
theorem J_if_le (X : jX p s m args c cc nL Ts own D cl tys A) {x : Int32} {off : Int} (tgt : Nat) (hdg : decode cc pc = .ok (.ifCond .le off, 3)) (ht : (pc : Int) + off = (tgt : Int)) (kt : x ≤ 0 → J p l e R s m args below meth c nL D cl A Q cells slots tgt lv st ws) (kf : ¬ x ≤ 0 → J p l e R s m args below meth c nL D cl A Q cells slots (pc + 3) lv st ws) : J p l e R s m args below meth c nL D cl A Q cells slots pc lv (.int x :: st) ws := fun ls H locs hl hP hD hS => lv_if_le X.1 X.2.1 hdg ht (fun q => kt q ls H locs hl hP hD hS) (fun q => kf q ls H locs hl hP hD hS)
theorem J_icmp_eq (X : jX p s m args c cc nL Ts own D cl tys A) {x y : Int32} {off : Int} (tgt : Nat) (hdg : decode cc pc = .ok (.if_icmp .eq off, 3)) (ht : (pc : Int) + off = (tgt : Int)) (kt : x = y → J p l e R s m args below meth c nL D cl A Q cells slots tgt lv st ws) (kf : ¬ x = y → J p l e R s m args below meth c nL D cl A Q cells slots (pc + 3) lv st ws) : J p l e R s m args below meth c nL D cl A Q cells slots pc lv (.int y :: .int x :: st) ws := fun ls H locs hl hP hD hS => lv_icmp_eq X.1 X.2.1 hdg ht (fun q => kt q ls H locs hl hP hD hS) (fun q => kf q ls H locs hl hP hD hS)
theorem J_icmp_ne (X : jX p s m args c cc nL Ts own D cl tys A) {x y : Int32} {off : Int} (tgt : Nat) (hdg : decode cc pc = .ok (.if_icmp .ne off, 3)) (ht : (pc : Int) + off = (tgt : Int)) (kt : ¬ x = y → J p l e R s m args below meth c nL D cl A Q cells slots tgt lv st ws) (kf : x = y → J p l e R s m args below meth c nL D cl A Q cells slots (pc + 3) lv st ws) : J p l e R s m args below meth c nL D cl A Q cells slots pc lv (.int y :: .int x :: st) ws := fun ls H locs hl hP hD hS => lv_icmp_ne X.1 X.2.1 hdg ht (fun q => kt q ls H locs hl hP hD hS) (fun q => kf q ls H locs hl hP hD hS)
theorem J_icmp_lt (X : jX p s m args c cc nL Ts own D cl tys A) {x y : Int32} {off : Int} (tgt : Nat) (hdg : decode cc pc = .ok (.if_icmp .lt off, 3)) (ht : (pc : Int) + off = (tgt : Int)) (kt : x < y → J p l e R s m args below meth c nL D cl A Q cells slots tgt lv st ws) (kf : ¬ x < y → J p l e R s m args below meth c nL D cl A Q cells slots (pc + 3) lv st ws) : J p l e R s m args below meth c nL D cl A Q cells slots pc lv (.int y :: .int x :: st) ws := fun ls H locs hl hP hD hS => lv_icmp_lt X.1 X.2.1 hdg ht (fun q => kt q ls H locs hl hP hD hS) (fun q => kf q ls H locs hl hP hD hS)
theorem J_icmp_ge (X : jX p s m args c cc nL Ts own D cl tys A) {x y : Int32} {off : Int} (tgt : Nat) (hdg : decode cc pc = .ok (.if_icmp .ge off, 3)) (ht : (pc : Int) + off = (tgt : Int)) (kt : y ≤ x → J p l e R s m args below meth c nL D cl A Q cells slots tgt lv st ws) (kf : ¬ y ≤ x → J p l e R s m args below meth c nL D cl A Q cells slots (pc + 3) lv st ws) : J p l e R s m args below meth c nL D cl A Q cells slots pc lv (.int y :: .int x :: st) ws := fun ls H locs hl hP hD hS => lv_icmp_ge X.1 X.2.1 hdg ht (fun q => kt q ls H locs hl hP hD hS) (fun q => kf q ls H locs hl hP hD hS)
theorem J_icmp_gt (X : jX p s m args c cc nL Ts own D cl tys A) {x y : Int32} {off : Int} (tgt : Nat) (hdg : decode cc pc = .ok (.if_icmp .gt off, 3)) (ht : (pc : Int) + off = (tgt : Int)) (kt : y < x → J p l e R s m args below meth c nL D cl A Q cells slots tgt lv st ws) (kf : ¬ y < x → J p l e R s m args below meth c nL D cl A Q cells slots (pc + 3) lv st ws) : J p l e R s m args below meth c nL D cl A Q cells slots pc lv (.int y :: .int x :: st) ws := fun ls H locs hl hP hD hS => lv_icmp_gt X.1 X.2.1 hdg ht (fun q => kt q ls H locs hl hP hD hS) (fun q => kf q ls H locs hl hP hD hS)
theorem J_icmp_le (X : jX p s m args c cc nL Ts own D cl tys A) {x y : Int32} {off : Int} (tgt : Nat) (hdg : decode cc pc = .ok (.if_icmp .le off, 3)) (ht : (pc : Int) + off = (tgt : Int)) (kt : x ≤ y → J p l e R s m args below meth c nL D cl A Q cells slots tgt lv st ws) (kf : ¬ x ≤ y → J p l e R s m args below meth c nL D cl A Q cells slots (pc + 3) lv st ws) : J p l e R s m args below meth c nL D cl A Q cells slots pc lv (.int y :: .int x :: st) ws := fun ls H locs hl hP hD hS => lv_icmp_le X.1 X.2.1 hdg ht (fun q => kt q ls H locs hl hP hD hS) (fun q => kf q ls H locs hl hP hD hS)
theorem J_goto (X : jX p s m args c cc nL Ts own D cl tys A) {off : Int} (tgt : Nat) (hdg : decode cc pc = .ok (.goto off, 3)) (ht : (pc : Int) + off = (tgt : Int)) (kk : J p l e R s m args below meth c nL D cl A Q cells slots tgt lv st ws) : J p l e R s m args below meth c nL D cl A Q cells slots pc lv st ws := fun ls H locs hl hP hD hS => lv_goto X.1 X.2.1 hdg ht (kk ls H locs hl hP hD hS)
theorem J_lookup (X : jX p s m args c cc nL Ts own D cl tys A) {dflt : Int} {ps : Array (Int × Int)} {len : Nat} {x : Int32} {off : Int} (tgt : Nat) (hdg : decode cc pc = .ok (.lookupswitch dflt ps, len)) (hp : (ps.toList.zip (ps.toList.drop 1)).all (fun (a, next) => a.1 < next.1) = true) (ho : Op.lookupswitch.offset ps.toList dflt x.toInt = off) (ht : (pc : Int) + off = (tgt : Int)) (kk : J p l e R s m args below meth c nL D cl A Q cells slots tgt lv st ws) : J p l e R s m args below meth c nL D cl A Q cells slots pc lv (.int x :: st) ws := fun ls H locs hl hP hD hS => lv_lookup X.1 X.2.1 hdg hp ho ht (kk ls H locs hl hP hD hS)
theorem J_tableOut (X : jX p s m args c cc nL Ts own D cl tys A) {dflt lo hi : Int} {offs : Array Int} {len : Nat} {x : Int32} (tgt : Nat) (hdg : decode cc pc = .ok (.tableswitch dflt lo hi offs, len)) (h : x.toInt < lo ∨ hi < x.toInt) (ht : (pc : Int) + dflt = (tgt : Int)) (kk : J p l e R s m args below meth c nL D cl A Q cells slots tgt lv st ws) : J p l e R s m args below meth c nL D cl A Q cells slots pc lv (.int x :: st) ws := fun ls H locs hl hP hD hS => lv_tableOut X.1 X.2.1 hdg h ht (kk ls H locs hl hP hD hS)
theorem J_tableIn (X : jX p s m args c cc nL Ts own D cl tys A) {dflt lo hi : Int} {offs : Array Int} {len : Nat} {x : Int32} {off : Int} (tgt : Nat) (hdg : decode cc pc = .ok (.tableswitch dflt lo hi offs, len)) (h1 : ¬ x.toInt < lo) (h2 : ¬ hi < x.toInt) (ho : offs[(x.toInt - lo).toNat]? = some off) (ht : (pc : Int) + off = (tgt : Int)) (kk : J p l e R s m args below meth c nL D cl A Q cells slots tgt lv st ws) : J p l e R s m args below meth c nL D cl A Q cells slots pc lv (.int x :: st) ws := fun ls H locs hl hP hD hS => lv_tableIn X.1 X.2.1 hdg h1 h2 ho ht (kk ls H locs hl hP hD hS)
theorem J_get (X : jX p s m args c cc nL Ts own D cl tys A) {ref C : String} {T : u_T} {N ci index : Nat} {a : Nat} (hin : ∀ w ∈ u_ws C T N, w ∈ Ts) (q0 : Nat) {fs : List Value} (he : ws[q0]? = some (a, .inr (ci, fs))) (hc : cl[ci]? = some (C, T, N)) (k : Nat) (hk : k < N) (hlink : Cond.fieldLink own index ref (T k).2.1 (T k).2.2.1 ∈ Ts) (hr : (T k).1 = ref) {v : Value} (hv : fs[k]? = some v) (hdg : decode cc pc = .ok (.getfield index, 3)) (kk : J p l e R s m args below meth c nL D cl A Q cells slots (pc + 3) lv (v :: st) ws) : J p l e R s m args below meth c nL D cl A Q cells slots pc lv (.ref a :: st) ws := fun ls H locs hl hP hD hS => va_get X.1 X.2.1 X.hts hin X.hown X.hK hP q0 he hc k hk (X.hts _ hlink) (fun x h => by rw [← hr]; exact h) hv hdg (kk ls H locs hl hP hD hS)
theorem J_getN (X : jX p s m args c cc nL Ts own D cl tys A) {host : String} {ref C : String} {T : u_T} {N ci index : Nat} {a : Nat} (hin : ∀ w ∈ u_ws C T N, w ∈ Ts) (q0 : Nat) {fs : List Value} (he : ws[q0]? = some (a, .inr (ci, fs))) (hc : cl[ci]? = some (C, T, N)) (k : Nat) (hk : k < N) (hlink : Cond.fieldLinkNest own index ref (T k).2.1 (T k).2.2.1 host ∈ Ts) (hr : (T k).1 = ref) {v : Value} (hv : fs[k]? = some v) (hdg : decode cc pc = .ok (.getfield index, 3)) (kk : J p l e R s m args below meth c nL D cl A Q cells slots (pc + 3) lv (v :: st) ws) : J p l e R s m args below meth c nL D cl A Q cells slots pc lv (.ref a :: st) ws := fun ls H locs hl hP hD hS => va_getN X.1 X.2.1 X.hts hin X.hown X.hK hP q0 he hc k hk (X.hts _ hlink) (fun x h => by rw [← hr]; exact h) hv hdg (kk ls H locs hl hP hD hS)
theorem J_put (X : jX p s m args c cc nL Ts own D cl tys A) {ref C : String} {T : u_T} {N ci index : Nat} {a : Nat} (hin : ∀ w ∈ u_ws C T N, w ∈ Ts) (ty0 : Nat → FieldType) (hty : ∀ k, k < N → parseFieldDescriptor (T k).2.2.1 = some (ty0 k)) (hnm : ∀ a, a < N → ∀ b, b < N → a ≠ b → (T a).2.1 ≠ (T b).2.1) (q0 : Nat) {fs : List Value} (he : ws[q0]? = some (a, .inr (ci, fs))) (hc : cl[ci]? = some (C, T, N)) (k : Nat) (hk : k < N) (hlink : Cond.fieldLink own index ref (T k).2.1 (T k).2.2.1 ∈ Ts) (hr : (T k).1 = ref) (hfin : (T k).2.2.2 = false) {ty : FieldType} {v : Value} (hd : parseFieldDescriptor (T k).2.2.1 = some ty) (hn : narrow ty v = v) (hfit : fits ty v = true) (hl2 : k < fs.length) (hdg : decode cc pc = .ok (.putfield index, 3)) (ws' : va_W) (hw : ws.set q0 (a, .inr (ci, fs.set k v)) = ws') (kk : J p l e R s m args below meth c nL D cl A Q cells slots (pc + 3) lv st ws') : J p l e R s m args below meth c nL D cl A Q cells slots pc lv (v :: .ref a :: st) ws := fun ls H locs hl hP hD hS => va_put X.1 X.2.1 X.hts hin ty0 hty hnm X.hown X.hK hP hD hS q0 he hc k hk (X.hts _ hlink) (fun x h => by rw [← hr]; exact h) hfin hd hn hfit hl2 hdg (fun H1 locs1 hP1 hD1 hS1 => kk ls H1 locs1 hl (hw ▸ hP1) (hw ▸ hD1) hS1)
theorem J_putN (X : jX p s m args c cc nL Ts own D cl tys A) {host : String} {ref C : String} {T : u_T} {N ci index : Nat} {a : Nat} (hin : ∀ w ∈ u_ws C T N, w ∈ Ts) (ty0 : Nat → FieldType) (hty : ∀ k, k < N → parseFieldDescriptor (T k).2.2.1 = some (ty0 k)) (hnm : ∀ a, a < N → ∀ b, b < N → a ≠ b → (T a).2.1 ≠ (T b).2.1) (q0 : Nat) {fs : List Value} (he : ws[q0]? = some (a, .inr (ci, fs))) (hc : cl[ci]? = some (C, T, N)) (k : Nat) (hk : k < N) (hlink : Cond.fieldLinkNest own index ref (T k).2.1 (T k).2.2.1 host ∈ Ts) (hr : (T k).1 = ref) (hfin : (T k).2.2.2 = false) {ty : FieldType} {v : Value} (hd : parseFieldDescriptor (T k).2.2.1 = some ty) (hn : narrow ty v = v) (hfit : fits ty v = true) (hl2 : k < fs.length) (hdg : decode cc pc = .ok (.putfield index, 3)) (ws' : va_W) (hw : ws.set q0 (a, .inr (ci, fs.set k v)) = ws') (kk : J p l e R s m args below meth c nL D cl A Q cells slots (pc + 3) lv st ws') : J p l e R s m args below meth c nL D cl A Q cells slots pc lv (v :: .ref a :: st) ws := fun ls H locs hl hP hD hS => va_putN X.1 X.2.1 X.hts hin ty0 hty hnm X.hown X.hK hP hD hS q0 he hc k hk (X.hts _ hlink) (fun x h => by rw [← hr]; exact h) hfin hd hn hfit hl2 hdg (fun H1 locs1 hP1 hD1 hS1 => kk ls H1 locs1 hl (hw ▸ hP1) (hw ▸ hD1) hS1)
theorem J_putF (X : jX p s m args c cc nL Ts own D cl tys A) {ref C : String} {T : u_T} {N ci index : Nat} {a : Nat} (hin : ∀ w ∈ u_ws C T N, w ∈ Ts) (ty0 : Nat → FieldType) (hty : ∀ k, k < N → parseFieldDescriptor (T k).2.2.1 = some (ty0 k)) (hnm : ∀ a, a < N → ∀ b, b < N → a ≠ b → (T a).2.1 ≠ (T b).2.1) (q0 : Nat) {fs : List Value} (he : ws[q0]? = some (a, .inr (ci, fs))) (hc : cl[ci]? = some (C, T, N)) (k : Nat) (hk : k < N) (hlink : Cond.fieldLink own index ref (T k).2.1 (T k).2.2.1 ∈ Ts) (hr : (T k).1 = ref) (hfin : (T k).2.2.2 = true) (hin2 : meth.name = "<init>") (hdecl : (T k).1 = own) {ty : FieldType} {v : Value} (hd : parseFieldDescriptor (T k).2.2.1 = some ty) (hn : narrow ty v = v) (hfit : fits ty v = true) (hl2 : k < fs.length) (hdg : decode cc pc = .ok (.putfield index, 3)) (ws' : va_W) (hw : ws.set q0 (a, .inr (ci, fs.set k v)) = ws') (kk : J p l e R s m args below meth c nL D cl A Q cells slots (pc + 3) lv st ws') : J p l e R s m args below meth c nL D cl A Q cells slots pc lv (v :: .ref a :: st) ws := fun ls H locs hl hP hD hS => va_putF X.1 X.2.1 X.hts hin ty0 hty hnm X.hown X.hK hP hD hS q0 he hc k hk (X.hts _ hlink) (fun x h => by rw [← hr]; exact h) hfin hin2 hdecl hd hn hfit hl2 hdg (fun H1 locs1 hP1 hD1 hS1 => kk ls H1 locs1 hl (hw ▸ hP1) (hw ▸ hD1) hS1)
theorem J_iald (X : jX p s m args c cc nL Ts own D cl tys A) {a : Nat} (q0 t0 : Nat) {cA : ClassId} {n : Nat} {f : Nat → Int32} (ha : ws[q0]? = some (a, .inl (cA, n, .inl f))) (ht : tys[t0]? = some (cA, .int)) {i : Int32} (hin : ¬ (i < 0 ∨ n ≤ i.toNatClampNeg)) (hdg : decode cc pc = .ok (.iaload, 1)) (kk : J p l e R s m args below meth c nL D cl A Q cells slots (pc + 1) lv (.int (f i.toNatClampNeg) :: st) ws) : J p l e R s m args below meth c nL D cl A Q cells slots pc lv (.int i :: .ref a :: st) ws := fun ls H locs hl hP hD hS => va_iald X.1 X.2.1 X.hK hP q0 t0 ha ht hin hdg (kk ls H locs hl hP hD hS)
theorem J_bald (X : jX p s m args c cc nL Ts own D cl tys A) {a : Nat} (q0 t0 : Nat) {cA : ClassId} {n : Nat} {f : Nat → Int32} (ha : ws[q0]? = some (a, .inl (cA, n, .inl f))) (ht : tys[t0]? = some (cA, .byte)) {i : Int32} (hin : ¬ (i < 0 ∨ n ≤ i.toNatClampNeg)) (hdg : decode cc pc = .ok (.baload, 1)) (kk : J p l e R s m args below meth c nL D cl A Q cells slots (pc + 1) lv (.int (f i.toNatClampNeg) :: st) ws) : J p l e R s m args below meth c nL D cl A Q cells slots pc lv (.int i :: .ref a :: st) ws := fun ls H locs hl hP hD hS => va_bald X.1 X.2.1 X.hK hP q0 t0 ha ht hin hdg (kk ls H locs hl hP hD hS)
theorem J_zald (X : jX p s m args c cc nL Ts own D cl tys A) {a : Nat} (q0 t0 : Nat) {cA : ClassId} {n : Nat} {f : Nat → Int32} (ha : ws[q0]? = some (a, .inl (cA, n, .inl f))) (ht : tys[t0]? = some (cA, .boolean)) {i : Int32} (hin : ¬ (i < 0 ∨ n ≤ i.toNatClampNeg)) (hdg : decode cc pc = .ok (.baload, 1)) (kk : J p l e R s m args below meth c nL D cl A Q cells slots (pc + 1) lv (.int (f i.toNatClampNeg) :: st) ws) : J p l e R s m args below meth c nL D cl A Q cells slots pc lv (.int i :: .ref a :: st) ws := fun ls H locs hl hP hD hS => va_zald X.1 X.2.1 X.hK hP q0 t0 ha ht hin hdg (kk ls H locs hl hP hD hS)
theorem J_cald (X : jX p s m args c cc nL Ts own D cl tys A) {a : Nat} (q0 t0 : Nat) {cA : ClassId} {n : Nat} {f : Nat → Int32} (ha : ws[q0]? = some (a, .inl (cA, n, .inl f))) (ht : tys[t0]? = some (cA, .char)) {i : Int32} (hin : ¬ (i < 0 ∨ n ≤ i.toNatClampNeg)) (hdg : decode cc pc = .ok (.caload, 1)) (kk : J p l e R s m args below meth c nL D cl A Q cells slots (pc + 1) lv (.int (f i.toNatClampNeg) :: st) ws) : J p l e R s m args below meth c nL D cl A Q cells slots pc lv (.int i :: .ref a :: st) ws := fun ls H locs hl hP hD hS => va_cald X.1 X.2.1 X.hK hP q0 t0 ha ht hin hdg (kk ls H locs hl hP hD hS)
theorem J_lald (X : jX p s m args c cc nL Ts own D cl tys A) {a : Nat} (q0 t0 : Nat) {cA : ClassId} {n : Nat} {f : Nat → Int64} (ha : ws[q0]? = some (a, .inl (cA, n, .inr (.inl f)))) (ht : tys[t0]? = some (cA, .long)) {i : Int32} (hin : ¬ (i < 0 ∨ n ≤ i.toNatClampNeg)) (hdg : decode cc pc = .ok (.laload, 1)) (kk : J p l e R s m args below meth c nL D cl A Q cells slots (pc + 1) lv (.long (f i.toNatClampNeg) :: st) ws) : J p l e R s m args below meth c nL D cl A Q cells slots pc lv (.int i :: .ref a :: st) ws := fun ls H locs hl hP hD hS => va_lald X.1 X.2.1 X.hK hP q0 t0 ha ht hin hdg (kk ls H locs hl hP hD hS)
theorem J_iast (X : jX p s m args c cc nL Ts own D cl tys A) {a : Nat} (q0 t0 : Nat) {cA : ClassId} {n : Nat} {f : Nat → Int32} (ha : ws[q0]? = some (a, .inl (cA, n, .inl f))) (ht : tys[t0]? = some (cA, .int)) {i : Int32} {x : Int32} (hin : ¬ (i < 0 ∨ n ≤ i.toNatClampNeg)) (hdg : decode cc pc = .ok (.iastore, 1)) (ws' : va_W) (hw : ws.set q0 (a, .inl (cA, n, .inl (upd f i.toNatClampNeg x))) = ws') (kk : J p l e R s m args below meth c nL D cl A Q cells slots (pc + 1) lv st ws') : J p l e R s m args below meth c nL D cl A Q cells slots pc lv (.int x :: .int i :: .ref a :: st) ws := fun ls H locs hl hP hD hS => va_iast X.1 X.2.1 X.hK hP hD hS q0 t0 ha ht hin hdg (fun H1 locs1 hP1 hD1 hS1 => kk ls H1 locs1 hl (hw ▸ hP1) (hw ▸ hD1) hS1)
theorem J_bast (X : jX p s m args c cc nL Ts own D cl tys A) {a : Nat} (q0 t0 : Nat) {cA : ClassId} {n : Nat} {f : Nat → Int32} (ha : ws[q0]? = some (a, .inl (cA, n, .inl f))) (ht : tys[t0]? = some (cA, .byte)) {i : Int32} {x : Int32} (hin : ¬ (i < 0 ∨ n ≤ i.toNatClampNeg)) (hdg : decode cc pc = .ok (.bastore, 1)) (ws' : va_W) (hw : ws.set q0 (a, .inl (cA, n, .inl (upd f i.toNatClampNeg (vp_nar .byte x)))) = ws') (kk : J p l e R s m args below meth c nL D cl A Q cells slots (pc + 1) lv st ws') : J p l e R s m args below meth c nL D cl A Q cells slots pc lv (.int x :: .int i :: .ref a :: st) ws := fun ls H locs hl hP hD hS => va_bast X.1 X.2.1 X.hK hP hD hS q0 t0 ha ht hin hdg (fun H1 locs1 hP1 hD1 hS1 => kk ls H1 locs1 hl (hw ▸ hP1) (hw ▸ hD1) hS1)
theorem J_zast (X : jX p s m args c cc nL Ts own D cl tys A) {a : Nat} (q0 t0 : Nat) {cA : ClassId} {n : Nat} {f : Nat → Int32} (ha : ws[q0]? = some (a, .inl (cA, n, .inl f))) (ht : tys[t0]? = some (cA, .boolean)) {i : Int32} {x : Int32} (hin : ¬ (i < 0 ∨ n ≤ i.toNatClampNeg)) (hdg : decode cc pc = .ok (.bastore, 1)) (ws' : va_W) (hw : ws.set q0 (a, .inl (cA, n, .inl (upd f i.toNatClampNeg (vp_nar .boolean x)))) = ws') (kk : J p l e R s m args below meth c nL D cl A Q cells slots (pc + 1) lv st ws') : J p l e R s m args below meth c nL D cl A Q cells slots pc lv (.int x :: .int i :: .ref a :: st) ws := fun ls H locs hl hP hD hS => va_zast X.1 X.2.1 X.hK hP hD hS q0 t0 ha ht hin hdg (fun H1 locs1 hP1 hD1 hS1 => kk ls H1 locs1 hl (hw ▸ hP1) (hw ▸ hD1) hS1)
theorem J_cast (X : jX p s m args c cc nL Ts own D cl tys A) {a : Nat} (q0 t0 : Nat) {cA : ClassId} {n : Nat} {f : Nat → Int32} (ha : ws[q0]? = some (a, .inl (cA, n, .inl f))) (ht : tys[t0]? = some (cA, .char)) {i : Int32} {x : Int32} (hin : ¬ (i < 0 ∨ n ≤ i.toNatClampNeg)) (hdg : decode cc pc = .ok (.castore, 1)) (ws' : va_W) (hw : ws.set q0 (a, .inl (cA, n, .inl (upd f i.toNatClampNeg (vp_nar .char x)))) = ws') (kk : J p l e R s m args below meth c nL D cl A Q cells slots (pc + 1) lv st ws') : J p l e R s m args below meth c nL D cl A Q cells slots pc lv (.int x :: .int i :: .ref a :: st) ws := fun ls H locs hl hP hD hS => va_cast X.1 X.2.1 X.hK hP hD hS q0 t0 ha ht hin hdg (fun H1 locs1 hP1 hD1 hS1 => kk ls H1 locs1 hl (hw ▸ hP1) (hw ▸ hD1) hS1)
theorem J_last (X : jX p s m args c cc nL Ts own D cl tys A) {a : Nat} (q0 t0 : Nat) {cA : ClassId} {n : Nat} {f : Nat → Int64} (ha : ws[q0]? = some (a, .inl (cA, n, .inr (.inl f)))) (ht : tys[t0]? = some (cA, .long)) {i : Int32} {x : Int64} (hin : ¬ (i < 0 ∨ n ≤ i.toNatClampNeg)) (hdg : decode cc pc = .ok (.lastore, 1)) (ws' : va_W) (hw : ws.set q0 (a, .inl (cA, n, .inr (.inl (vp_updL f i.toNatClampNeg x)))) = ws') (kk : J p l e R s m args below meth c nL D cl A Q cells slots (pc + 1) lv st ws') : J p l e R s m args below meth c nL D cl A Q cells slots pc lv (.long x :: .int i :: .ref a :: st) ws := fun ls H locs hl hP hD hS => va_last X.1 X.2.1 X.hK hP hD hS q0 t0 ha ht hin hdg (fun H1 locs1 hP1 hD1 hS1 => kk ls H1 locs1 hl (hw ▸ hP1) (hw ▸ hD1) hS1)
theorem J_alen (X : jX p s m args c cc nL Ts own D cl tys A) {a : Nat} (q0 t0 : Nat) {cA : ClassId} {x : vp_A} (ha : ws[q0]? = some (a, .inl (cA, x))) {ty : FieldType} (ht : tys[t0]? = some (cA, ty)) {v : Int32} (hv : Int32.ofNat x.1 = v) (hdg : decode cc pc = .ok (.arraylength, 1)) (kk : J p l e R s m args below meth c nL D cl A Q cells slots (pc + 1) lv (.int v :: st) ws) : J p l e R s m args below meth c nL D cl A Q cells slots pc lv (.ref a :: st) ws := fun ls H locs hl hP hD hS => va_alen X.1 X.2.1 X.hK hP q0 t0 ha ht hv hdg (kk ls H locs hl hP hD hS)
theorem J_sub (is : List Nat) (ws' : va_W) (hn : va_nd is = true) (h1 : is.filterMap (fun i => ws[i]?) = ws') (h2 : is.map (fun i => ws[i]?) = ws'.map some) (kk : J p l e R s m args below meth c nL D cl A Q cells slots pc lv st ws') : J p l e R s m args below meth c nL D cl A Q cells slots pc lv st ws := fun ls H locs hl hP hD hS => kk ls H locs hl (hP.sub is h1) (hD.sub is hn h2) hS
theorem J_lv (ks : List Nat) (lv' : List (Nat × Value)) (h : lv_pick lv ks = lv') (kk : J p l e R s m args below meth c nL D cl A Q cells slots pc lv' st ws) : J p l e R s m args below meth c nL D cl A Q cells slots pc lv st ws := fun ls H locs hl hP hD hS => kk ls H locs (lv_sub hl ks h) hP hD hS
theorem J_widen (k n : Nat) (h1 : cells ≤ k) (h2 : slots ≤ n) (kk : J p l e R s m args below meth c nL D cl A Q k n pc lv st ws) : J p l e R s m args below meth c nL D cl A Q cells slots pc lv st ws := fun ls H locs hl hP hD hS => W.widen h1 h2 (kk ls H locs hl hP hD hS)
theorem J_to (pc2 : Nat) (st2 : List Value) (ws2 : va_W) (h1 : pc = pc2) (h2 : st = st2) (h3 : ws = ws2) (kk : J p l e R s m args below meth c nL D cl A Q cells slots pc2 lv st2 ws2) : J p l e R s m args below meth c nL D cl A Q cells slots pc lv st ws := by subst h1; subst h2; subst h3; exact kk
theorem J_mmax (X : jX p s m args c cc nL Ts own D cl tys A) {index : Nat} (hl1 : Cond.methodLink own index Lib.Math.max.name ∈ Ts) (hl2 : Cond.static Lib.Math.max.name ∈ Ts) (hl3 : Cond.initialized "java/lang/Math" ∈ Ts) (hl4 : Cond.code Lib.Math.max.name Lib.Math.max.code 2 (some .int) ∈ Ts) (hframes : 1 ≤ R.frames) (hlocals : (st.map fun v => v.category).sum + 13 ≤ R.locals) (hc : cells ≤ R.cells) (hs : slots ≤ R.slots) {x y : Int32} (hdg : decode cc pc = .ok (.invokestatic index, 3)) (kk : J p l e R s m args below meth c nL D cl A Q cells slots (pc + 3) lv (.int (if x < y then y else x) :: st) ws) : J p l e R s m args below meth c nL D cl A Q cells slots pc lv (.int y :: .int x :: st) ws := fun ls H locs hl hP hD hS => va_mmax X.1 X.2.1 (X.2.2.1.trans hl.1.symm) X.hown (X.hts _ hl1) (X.hts _ hl2) (X.hts _ hl3) (X.hts _ hl4) hframes hlocals hc hs hdg (kk ls H locs hl hP hD hS)
theorem J_mmin (X : jX p s m args c cc nL Ts own D cl tys A) {index : Nat} (hl1 : Cond.methodLink own index Lib.Math.min.name ∈ Ts) (hl2 : Cond.static Lib.Math.min.name ∈ Ts) (hl3 : Cond.initialized "java/lang/Math" ∈ Ts) (hl4 : Cond.code Lib.Math.min.name Lib.Math.min.code 2 (some .int) ∈ Ts) (hframes : 1 ≤ R.frames) (hlocals : (st.map fun v => v.category).sum + 13 ≤ R.locals) (hc : cells ≤ R.cells) (hs : slots ≤ R.slots) {x y : Int32} (hdg : decode cc pc = .ok (.invokestatic index, 3)) (kk : J p l e R s m args below meth c nL D cl A Q cells slots (pc + 3) lv (.int (if y < x then y else x) :: st) ws) : J p l e R s m args below meth c nL D cl A Q cells slots pc lv (.int y :: .int x :: st) ws := fun ls H locs hl hP hD hS => va_mmin X.1 X.2.1 (X.2.2.1.trans hl.1.symm) X.hown (X.hts _ hl1) (X.hts _ hl2) (X.hts _ hl3) (X.hts _ hl4) hframes hlocals hc hs hdg (kk ls H locs hl hP hD hS)
end
end
section
section
variable {p : Program} {l : Launch} {e : Env} {R : Room} {s : State} {m : MethodId} {args : Array Value} {below : List Frame} {meth : Method} {c : Code} {Q : State → Prop} {cc : ByteArray} {nL : Nat} {Ts : List Cond} {own : String} {D : va_G} {cl : List vw_C} {tys : List (ClassId × FieldType)} {A : Nat → Prop} {cells slots pc : Nat} {lv lv' : List (Nat × Value)} {st : List Value} {ws ws' : va_W}
def jB (D : va_G) (cl : List vw_C) (tys : List (ClassId × FieldType)) (A : Nat → Prop) (w : va_W) (t : State) : Prop := va_P D cl w t.heap ∧ va_K D cl tys t ∧ va_D A w
def jPre (D : va_G) (cl : List vw_C) (tys : List (ClassId × FieldType)) (wc : va_W) (sz : Nat) : State → Prop := fun U => U.heap.size = sz ∧ jB D cl tys (fun _ => True) wc U
def jQi (D : va_G) (cl : List vw_C) (tys : List (ClassId × FieldType)) (r : Int32) {S : Type} (w1 : S → va_W) (A : Nat → Prop) : Array Value → State → Outcome → State → Prop := va_Qi (fun (r2 : Int32) (_ : S) => r2 = r) (fun u t => jB D cl tys A (w1 u) t) A
def jQv (D : va_G) (cl : List vw_C) (tys : List (ClassId × FieldType)) {S : Type} (w1 : S → va_W) (A : Nat → Prop) : Array Value → State → Outcome → State → Prop := va_Qv (fun (_ : S) => True) (fun u t => jB D cl tys A (w1 u) t) A
def jQr (D : va_G) (cl : List vw_C) (tys : List (ClassId × FieldType)) {S : Type} (w1 : S → Nat → va_W) (A : Nat → Prop) : Array Value → State → Outcome → State → Prop := va_Qr (fun (_ : S) => True) (fun u a t => jB D cl tys A (w1 u a) t) A
/-- y, from the cells wc: it answers r, and the cells are w1 u for some u -/
def jMi (l : Launch) (y : MethodName) (wy : List Cond) (rm : Room) (D : va_G) (cl : List vw_C) (tys : List (ClassId × FieldType)) (av : List Value) (wc : va_W) (r : Int32) {S : Type} (w1 : S → va_W) : Prop :=
  ∀ sz : Nat, Met l y wy rm (va_Pc av (jPre D cl tys wc sz)) (jQi D cl tys r w1 (va_A wc sz)) rm.cells rm.slots (va_A wc sz)
def jMv (l : Launch) (y : MethodName) (wy : List Cond) (rm : Room) (D : va_G) (cl : List vw_C) (tys : List (ClassId × FieldType)) (av : List Value) (wc : va_W) {S : Type} (w1 : S → va_W) : Prop :=
  ∀ sz : Nat, Met l y wy rm (va_Pc av (jPre D cl tys wc sz)) (jQv D cl tys w1 (va_A wc sz)) rm.cells rm.slots (va_A wc sz)
def jMr (l : Launch) (y : MethodName) (wy : List Cond) (rm : Room) (D : va_G) (cl : List vw_C) (tys : List (ClassId × FieldType)) (av : List Value) (wc : va_W) {S : Type} (w1 : S → Nat → va_W) : Prop :=
  ∀ sz : Nat, Met l y wy rm (va_Pc av (jPre D cl tys wc sz)) (jQr D cl tys w1 (va_A wc sz)) rm.cells rm.slots (va_A wc sz)
theorem jBlind {av : List Value} {wc : va_W} {sz : Nat} : FrameBlind (va_Pc av (jPre D cl tys wc sz)) := fun a U g mk q => by
  obtain ⟨q0, q1, qP, qK, qD⟩ := q
  exact ⟨q0, q1, qP, va_K.moved (u := U) (U := U.calling g mk a) (Vm.Alike.refl U.vm) qK, qD⟩
theorem jPreS {H : Heap} {As : List Value} {wc : va_W} (hK : va_K D cl tys s) (hP : va_P D cl wc H) (hD : va_D A wc) : PreS s H (va_Pc As (jPre D cl tys wc H.size)) As :=
  ⟨jBlind, fun U hU hW => ⟨rfl, by rw [hU], by rw [hU]; exact hP, va_K.moved hW.alike hK, hD.weaken (fun _ _ _ _ => trivial)⟩⟩
theorem jPreV {H : Heap} {As : List Value} {wc : va_W} {b ci q0 : Nat} {fs : List Value} {C : String} {T : u_T} {N : Nat} (hK : va_K D cl tys s) (hP : va_P D cl wc H) (hD : va_D A wc) (hc : cl[ci]? = some (C, T, N)) (he : wc[q0]? = some (b, .inr (ci, fs))) : PreV s H C b (va_Pc (.ref b :: As) (jPre D cl tys wc H.size)) As :=
  ⟨jBlind, va_recv hK hP hc he, fun U hU hW => ⟨rfl, by rw [hU], by rw [hU]; exact hP, va_K.moved hW.alike hK, hD.weaken (fun _ _ _ _ => trivial)⟩⟩
theorem jMi.of {y : MethodName} {wy wy2 : List Cond} {rm : Room} {ret : Option FieldType} {maxL : Nat} {av : List Value} {wc : va_W} {r : Int32} {S : Type} {w1 : S → va_W} (hy : plainName y.cls = true) (hw : wy = Cond.code y cc maxL ret :: wy2) (hav : (lg_sl av).length ≤ maxL)
    (body : ∀ (p : Program) (e : Env) (s : State) (m : MethodId) (args : Array Value) (below : List Frame) (meth : Method) (c : Code) (A : Nat → Prop), jX p s m args c cc maxL wy y.cls D cl tys A → meth.sig.returnType = ret → meth.locks = false → meth.name = y.name → J p l e rm s m args below meth c maxL D cl A (MQ below (jQi D cl tys r w1 A) args s rm.cells rm.slots A) 0 0 0 (lv_args 0 av) [] wc) : jMi l y wy rm D cl tys av wc r w1 := by
  intro sz
  refine Met.ofW (cc := cc) (maxL := maxL) (ret := ret) hy hw ?_
  intro p e s m args below meth c s₁ B hml hv
  obtain ⟨rfl, hsz, hP, hK, hD0⟩ := hv
  subst hsz
  have hts := atoms_spec (ws := wy) B.pre
  have hown : s.vm.findClass y.cls = some m.cls := findClass_of_methodNamed B.named
  have hD := hD0.self (sz := s.heap.size)
  have X : jX p s m av.toArray c cc maxL wy y.cls D cl tys (va_A wc s.heap.size) := ⟨B.exec, B.bytes, hml, hown, hts, hK, fun q h => Or.inr h⟩
  rw [lg_entry_eq]
  exact body p e s m _ below meth c _ X B.returns B.notSynchronized (name_of_methodNamed B.named B.method).1 _ s.heap [] (lv_entry av hav) hP hD va_S.rf
theorem jMv.of {y : MethodName} {wy wy2 : List Cond} {rm : Room} {ret : Option FieldType} {maxL : Nat} {av : List Value} {wc : va_W} {S : Type} {w1 : S → va_W} (hy : plainName y.cls = true) (hw : wy = Cond.code y cc maxL ret :: wy2) (hav : (lg_sl av).length ≤ maxL)
    (body : ∀ (p : Program) (e : Env) (s : State) (m : MethodId) (args : Array Value) (below : List Frame) (meth : Method) (c : Code) (A : Nat → Prop), jX p s m args c cc maxL wy y.cls D cl tys A → meth.sig.returnType = ret → meth.locks = false → meth.name = y.name → J p l e rm s m args below meth c maxL D cl A (MQ below (jQv D cl tys w1 A) args s rm.cells rm.slots A) 0 0 0 (lv_args 0 av) [] wc) : jMv l y wy rm D cl tys av wc w1 := by
  intro sz
  refine Met.ofW (cc := cc) (maxL := maxL) (ret := ret) hy hw ?_
  intro p e s m args below meth c s₁ B hml hv
  obtain ⟨rfl, hsz, hP, hK, hD0⟩ := hv
  subst hsz
  have hts := atoms_spec (ws := wy) B.pre
  have hown : s.vm.findClass y.cls = some m.cls := findClass_of_methodNamed B.named
  have hD := hD0.self (sz := s.heap.size)
  have X : jX p s m av.toArray c cc maxL wy y.cls D cl tys (va_A wc s.heap.size) := ⟨B.exec, B.bytes, hml, hown, hts, hK, fun q h => Or.inr h⟩
  rw [lg_entry_eq]
  exact body p e s m _ below meth c _ X B.returns B.notSynchronized (name_of_methodNamed B.named B.method).1 _ s.heap [] (lv_entry av hav) hP hD va_S.rf
theorem jMr.of {y : MethodName} {wy wy2 : List Cond} {rm : Room} {ret : Option FieldType} {maxL : Nat} {av : List Value} {wc : va_W} {S : Type} {w1 : S → Nat → va_W} (hy : plainName y.cls = true) (hw : wy = Cond.code y cc maxL ret :: wy2) (hav : (lg_sl av).length ≤ maxL)
    (body : ∀ (p : Program) (e : Env) (s : State) (m : MethodId) (args : Array Value) (below : List Frame) (meth : Method) (c : Code) (A : Nat → Prop), jX p s m args c cc maxL wy y.cls D cl tys A → meth.sig.returnType = ret → meth.locks = false → meth.name = y.name → J p l e rm s m args below meth c maxL D cl A (MQ below (jQr D cl tys w1 A) args s rm.cells rm.slots A) 0 0 0 (lv_args 0 av) [] wc) : jMr l y wy rm D cl tys av wc w1 := by
  intro sz
  refine Met.ofW (cc := cc) (maxL := maxL) (ret := ret) hy hw ?_
  intro p e s m args below meth c s₁ B hml hv
  obtain ⟨rfl, hsz, hP, hK, hD0⟩ := hv
  subst hsz
  have hts := atoms_spec (ws := wy) B.pre
  have hown : s.vm.findClass y.cls = some m.cls := findClass_of_methodNamed B.named
  have hD := hD0.self (sz := s.heap.size)
  have X : jX p s m av.toArray c cc maxL wy y.cls D cl tys (va_A wc s.heap.size) := ⟨B.exec, B.bytes, hml, hown, hts, hK, fun q h => Or.inr h⟩
  rw [lg_entry_eq]
  exact body p e s m _ below meth c _ X B.returns B.notSynchronized (name_of_methodNamed B.named B.method).1 _ s.heap [] (lv_entry av hav) hP hD va_S.rf
theorem J_iret (X : jX p s m args c cc nL Ts own D cl tys A) (hr : meth.sig.returnType = some .int) (hlk : meth.locks = false) {S : Type} {w1 : S → va_W} {v r : Int32} {mc ms : Nat} (u : S) (hc : cells ≤ mc) (hs : slots ≤ ms) (hv : v = r) (hw : ws = w1 u) (hdg : decode cc pc = .ok (.ireturn, 1)) : J p l e R s m args below meth c nL D cl A (MQ below (jQi D cl tys r w1 A) args s mc ms A) cells slots pc lv [.int v] ws :=
  fun _ H locs _ hP hD hS => W.widen hc hs (W.iret (v := v) X.1 X.2.1 hr (fun t ht hW => ⟨⟨v, u, rfl, hv, by rw [ht, ← hw]; exact hP, va_K.moved hW.alike X.hK, hw ▸ hD⟩, hS.F ht⟩) hS.2.2 hdg hlk)
theorem J_zret (X : jX p s m args c cc nL Ts own D cl tys A) {ty : FieldType} (hr : meth.sig.returnType = some ty) (hlk : meth.locks = false) {S : Type} {w1 : S → va_W} {v r : Int32} {mc ms : Nat} (u : S) (hn : narrow ty (.int v) = .int v) (hc : cells ≤ mc) (hs : slots ≤ ms) (hv : v = r) (hw : ws = w1 u) (hdg : decode cc pc = .ok (.ireturn, 1)) : J p l e R s m args below meth c nL D cl A (MQ below (jQi D cl tys r w1 A) args s mc ms A) cells slots pc lv [.int v] ws :=
  fun _ H locs _ hP hD hS => W.widen hc hs (W.zret (v := v) X.1 X.2.1 hr hn (fun t ht hW => ⟨⟨v, u, rfl, hv, by rw [ht, ← hw]; exact hP, va_K.moved hW.alike X.hK, hw ▸ hD⟩, hS.F ht⟩) hS.2.2 hdg hlk)
theorem J_vret (X : jX p s m args c cc nL Ts own D cl tys A) (hr : meth.sig.returnType = none) (hlk : meth.locks = false) {S : Type} {w1 : S → va_W} {mc ms : Nat} (u : S) (hc : cells ≤ mc) (hs : slots ≤ ms) (hw : ws = w1 u) (hdg : decode cc pc = .ok (.return_, 1)) : J p l e R s m args below meth c nL D cl A (MQ below (jQv D cl tys w1 A) args s mc ms A) cells slots pc lv [] ws :=
  fun _ H locs _ hP hD hS => W.widen hc hs (W.vret X.1 X.2.1 hr (fun t ht hW => ⟨⟨u, rfl, trivial, by rw [ht, ← hw]; exact hP, va_K.moved hW.alike X.hK, hw ▸ hD⟩, hS.F ht⟩) hS.2.2 hdg hlk)
theorem J_aret (X : jX p s m args c cc nL Ts own D cl tys A) {rt : FieldType} (hr : meth.sig.returnType = some rt) (hrt : (∃ n, rt = .object n) ∨ ∃ t, rt = .array t) (hlk : meth.locks = false) {S : Type} {w1 : S → Nat → va_W} {v : Nat} {mc ms : Nat} (u : S) (hc : cells ≤ mc) (hs : slots ≤ ms) (hw : ws = w1 u v) (hdg : decode cc pc = .ok (.areturn, 1)) : J p l e R s m args below meth c nL D cl A (MQ below (jQr D cl tys w1 A) args s mc ms A) cells slots pc lv [.ref v] ws :=
  fun _ H locs _ hP hD hS => W.widen hc hs (W.aret (v := .ref v) X.1 X.2.1 hr hrt (Or.inr ⟨v, rfl⟩) (fun t ht hW => ⟨⟨u, v, rfl, trivial, by rw [ht, ← hw]; exact hP, va_K.moved hW.alike X.hK, hw ▸ hD⟩, hS.F ht⟩) hS.2.2 hdg hlk)
theorem J_goi (X : jX p s m args c cc nL Ts own D cl tys A) {mc ms : Nat} {rest : List Value} {av : Array Value} {r : Int32} {S : Type} {w1 : S → va_W} {wc wr : va_W} (isC isR : List Nat) (hC : isC.map (fun i => ws[i]?) = wc.map some) (hCs : isC.filterMap (fun i => ws[i]?) = wc) (hnC : va_nd isC = true) (hR : isR.map (fun i => ws[i]?) = wr.map some) (hnR : va_nd isR = true) (hdis : ∀ i ∈ isR, i ∉ isC)
    (hrun : ∀ (ls : Array Slot) (H : Heap) (locs : List Loc), lv_has ls nL lv → va_P D cl wc H → va_D A wc → va_Run p l e R s m args below meth c H locs cells slots mc ms (F0 m pc ls st) rest (jQi D cl tys r w1 (va_A wc H.size) av) (va_A wc H.size))
    (kk : ∀ u : S, J p l e R s m args below meth c nL D cl A Q (cells + mc) (slots + ms) (pc + 3) lv (.int r :: rest) (wr ++ w1 u)) : J p l e R s m args below meth c nL D cl A Q cells slots pc lv st ws := by
  intro ls H locs hl hP hD hS
  have hPc := hP.sub isC hCs
  have hDc := hD.sub isC hnC hC
  have hFc := va_free (wc := wc) hD hS X.hA isC hC
  refine va_calli (hrun ls H locs hl hPc hDc) hS (fun q _ h => hFc q h) hFc (fun r2 u t H1 locs1 ht hvm hw hB _ hk1 hS1 => ?_)
  obtain rfl : r2 = r := hw
  obtain ⟨hP1, hK1, hD1⟩ := hB
  rw [ht] at hP1
  obtain ⟨hP2, hD2⟩ := va_join (wr := wr) (w1 := w1 u) hP hD isC isR hC hR hnR hdis hk1 hFc hP1 hD1
  exact kk u ls H1 locs1 hl hP2 hD2 hS1
theorem J_callVi (X : jX p s m args c cc nL Ts own D cl tys A) {y : MethodName} {wy wy2 : List Cond} {rm : Room} {bytes : ByteArray} {maxL n index : Nat} {ret : Option FieldType} {b ci q0 : Nat} {fs : List Value} {C : String} {T : u_T} {N : Nat} {r : Int32} {S : Type} {w1 : S → va_W} {wc wr : va_W} (isC isR : List Nat) (hC : isC.map (fun i => ws[i]?) = wc.map some) (hCs : isC.filterMap (fun i => ws[i]?) = wc) (hnC : va_nd isC = true) (hR : isR.map (fun i => ws[i]?) = wr.map some) (hnR : va_nd isR = true) (hdis : ∀ i ∈ isR, i ∉ isC) (As rest : List Value) (hM : jMi l y wy rm D cl tys (.ref b :: As) wc r w1) (hT : GoodIn Ts (wsV own index C y wy)) (hw : wy = Cond.code y bytes maxL ret :: wy2) (hd : y.cls = C ∧ y.cls ≠ "java/lang/invoke/MethodHandle" ∧ y.cls ≠ "java/lang/invoke/VarHandle" ∧ (parseMethodDescriptor y.desc).map (fun d => d.parameters.length) = some n) (hRm : rm.frames + 1 ≤ R.frames ∧ 8 + (maxL + 11) + rm.locals ≤ R.locals) (he : wc[q0]? = some (b, .inr (ci, fs))) (hc : cl[ci]? = some (C, T, N)) (hn : As.length = n) (hst : st = As.reverse ++ .ref b :: rest) (hW : (rest.map fun v => v.category).sum ≤ 8) (hdg : decode cc pc = .ok (.invokevirtual index, 3)) (hf : cells + rm.cells ≤ R.cells ∧ slots + rm.slots ≤ R.slots)
    (kk : ∀ u : S, J p l e R s m args below meth c nL D cl A Q (cells + rm.cells) (slots + rm.slots) (pc + 3) lv (.int r :: rest) (wr ++ w1 u)) : J p l e R s m args below meth c nL D cl A Q cells slots pc lv st ws :=
  J_goi X isC isR hC hCs hnC hR hnR hdis (fun ls H locs hl hP hD => va_runV (As := As) (rest := rest) X.fix (hM H.size) (cwV n X.hts hT hw rfl rfl hd hRm) (jPreV X.hK hP hD hc he) rfl hn hl.1 hst (lv_room hW) hdg hf) kk
theorem J_callVNi (X : jX p s m args c cc nL Ts own D cl tys A) {host : String} {y : MethodName} {wy wy2 : List Cond} {rm : Room} {bytes : ByteArray} {maxL n index : Nat} {ret : Option FieldType} {b ci q0 : Nat} {fs : List Value} {C : String} {T : u_T} {N : Nat} {r : Int32} {S : Type} {w1 : S → va_W} {wc wr : va_W} (isC isR : List Nat) (hC : isC.map (fun i => ws[i]?) = wc.map some) (hCs : isC.filterMap (fun i => ws[i]?) = wc) (hnC : va_nd isC = true) (hR : isR.map (fun i => ws[i]?) = wr.map some) (hnR : va_nd isR = true) (hdis : ∀ i ∈ isR, i ∉ isC) (As rest : List Value) (hM : jMi l y wy rm D cl tys (.ref b :: As) wc r w1) (hG : GoodIn Ts wy) (hw : wy = Cond.code y bytes maxL ret :: wy2) (hlk : Cond.methodLinkNest own index y host ∈ Ts) (hini : Cond.initialized y.cls ∈ Ts) (him : Cond.instanceMethod y ∈ Ts) (hsel : Cond.selects C y y ∈ Ts) (hd : y.cls ≠ "java/lang/invoke/MethodHandle" ∧ y.cls ≠ "java/lang/invoke/VarHandle" ∧ (parseMethodDescriptor y.desc).map (fun d => d.parameters.length) = some n) (hRm : rm.frames + 1 ≤ R.frames ∧ 8 + (maxL + 11) + rm.locals ≤ R.locals) (he : wc[q0]? = some (b, .inr (ci, fs))) (hc : cl[ci]? = some (C, T, N)) (hn : As.length = n) (hst : st = As.reverse ++ .ref b :: rest) (hW : (rest.map fun v => v.category).sum ≤ 8) (hdg : decode cc pc = .ok (.invokevirtual index, 3)) (hf : cells + rm.cells ≤ R.cells ∧ slots + rm.slots ≤ R.slots)
    (kk : ∀ u : S, J p l e R s m args below meth c nL D cl A Q (cells + rm.cells) (slots + rm.slots) (pc + 3) lv (.int r :: rest) (wr ++ w1 u)) : J p l e R s m args below meth c nL D cl A Q cells slots pc lv st ws :=
  J_goi X isC isR hC hCs hnC hR hnR hdis (fun ls H locs hl hP hD => va_runVN (As := As) (rest := rest) X.fix (hM H.size) ⟨va_cnB n X.hts hG hw rfl rfl (va_Nw.of rfl (X.hts _ hlk)) (X.hts _ hini) hd hRm, X.hts _ him, X.hts _ hsel⟩ (jPreV X.hK hP hD hc he) rfl hn hl.1 hst (lv_room hW) hdg hf) kk
theorem J_callSi (X : jX p s m args c cc nL Ts own D cl tys A) {y : MethodName} {wy wy2 : List Cond} {rm : Room} {bytes : ByteArray} {maxL n index : Nat} {ret : Option FieldType} {r : Int32} {S : Type} {w1 : S → va_W} {wc wr : va_W} (isC isR : List Nat) (hC : isC.map (fun i => ws[i]?) = wc.map some) (hCs : isC.filterMap (fun i => ws[i]?) = wc) (hnC : va_nd isC = true) (hR : isR.map (fun i => ws[i]?) = wr.map some) (hnR : va_nd isR = true) (hdis : ∀ i ∈ isR, i ∉ isC) (As rest : List Value) (hM : jMi l y wy rm D cl tys As wc r w1) (hT : GoodIn Ts (va_wsS own index y wy)) (hw : wy = Cond.code y bytes maxL ret :: wy2) (hd : y.cls ≠ "java/lang/invoke/MethodHandle" ∧ y.cls ≠ "java/lang/invoke/VarHandle" ∧ (parseMethodDescriptor y.desc).map (fun d => d.parameters.length) = some n) (hRm : rm.frames + 1 ≤ R.frames ∧ 8 + (maxL + 11) + rm.locals ≤ R.locals) (hn : As.length = n) (hst : st = As.reverse ++ rest) (hW : (rest.map fun v => v.category).sum ≤ 8) (hdg : decode cc pc = .ok (.invokestatic index, 3)) (hf : cells + rm.cells ≤ R.cells ∧ slots + rm.slots ≤ R.slots)
    (kk : ∀ u : S, J p l e R s m args below meth c nL D cl A Q (cells + rm.cells) (slots + rm.slots) (pc + 3) lv (.int r :: rest) (wr ++ w1 u)) : J p l e R s m args below meth c nL D cl A Q cells slots pc lv st ws :=
  J_goi X isC isR hC hCs hnC hR hnR hdis (fun ls H locs hl hP hD => va_runS (As := As) (rest := rest) X.fix (hM H.size) (va_cwS n X.hts hT hw rfl rfl hd hRm) (jPreS X.hK hP hD) rfl hn hl.1 hst (lv_room hW) hdg hf) kk
theorem J_gov (X : jX p s m args c cc nL Ts own D cl tys A) {mc ms : Nat} {rest : List Value} {av : Array Value} {S : Type} {w1 : S → va_W} {wc wr : va_W} (isC isR : List Nat) (hC : isC.map (fun i => ws[i]?) = wc.map some) (hCs : isC.filterMap (fun i => ws[i]?) = wc) (hnC : va_nd isC = true) (hR : isR.map (fun i => ws[i]?) = wr.map some) (hnR : va_nd isR = true) (hdis : ∀ i ∈ isR, i ∉ isC)
    (hrun : ∀ (ls : Array Slot) (H : Heap) (locs : List Loc), lv_has ls nL lv → va_P D cl wc H → va_D A wc → va_Run p l e R s m args below meth c H locs cells slots mc ms (F0 m pc ls st) rest (jQv D cl tys w1 (va_A wc H.size) av) (va_A wc H.size))
    (kk : ∀ u : S, J p l e R s m args below meth c nL D cl A Q (cells + mc) (slots + ms) (pc + 3) lv rest (wr ++ w1 u)) : J p l e R s m args below meth c nL D cl A Q cells slots pc lv st ws := by
  intro ls H locs hl hP hD hS
  have hPc := hP.sub isC hCs
  have hDc := hD.sub isC hnC hC
  have hFc := va_free (wc := wc) hD hS X.hA isC hC
  refine va_callv (hrun ls H locs hl hPc hDc) hS (fun q _ h => hFc q h) hFc (fun u t H1 locs1 ht hvm hw hB _ hk1 hS1 => ?_)
  skip
  obtain ⟨hP1, hK1, hD1⟩ := hB
  rw [ht] at hP1
  obtain ⟨hP2, hD2⟩ := va_join (wr := wr) (w1 := w1 u) hP hD isC isR hC hR hnR hdis hk1 hFc hP1 hD1
  exact kk u ls H1 locs1 hl hP2 hD2 hS1
theorem J_callVv (X : jX p s m args c cc nL Ts own D cl tys A) {y : MethodName} {wy wy2 : List Cond} {rm : Room} {bytes : ByteArray} {maxL n index : Nat} {ret : Option FieldType} {b ci q0 : Nat} {fs : List Value} {C : String} {T : u_T} {N : Nat} {S : Type} {w1 : S → va_W} {wc wr : va_W} (isC isR : List Nat) (hC : isC.map (fun i => ws[i]?) = wc.map some) (hCs : isC.filterMap (fun i => ws[i]?) = wc) (hnC : va_nd isC = true) (hR : isR.map (fun i => ws[i]?) = wr.map some) (hnR : va_nd isR = true) (hdis : ∀ i ∈ isR, i ∉ isC) (As rest : List Value) (hM : jMv l y wy rm D cl tys (.ref b :: As) wc w1) (hT : GoodIn Ts (wsV own index C y wy)) (hw : wy = Cond.code y bytes maxL ret :: wy2) (hd : y.cls = C ∧ y.cls ≠ "java/lang/invoke/MethodHandle" ∧ y.cls ≠ "java/lang/invoke/VarHandle" ∧ (parseMethodDescriptor y.desc).map (fun d => d.parameters.length) = some n) (hRm : rm.frames + 1 ≤ R.frames ∧ 8 + (maxL + 11) + rm.locals ≤ R.locals) (he : wc[q0]? = some (b, .inr (ci, fs))) (hc : cl[ci]? = some (C, T, N)) (hn : As.length = n) (hst : st = As.reverse ++ .ref b :: rest) (hW : (rest.map fun v => v.category).sum ≤ 8) (hdg : decode cc pc = .ok (.invokevirtual index, 3)) (hf : cells + rm.cells ≤ R.cells ∧ slots + rm.slots ≤ R.slots)
    (kk : ∀ u : S, J p l e R s m args below meth c nL D cl A Q (cells + rm.cells) (slots + rm.slots) (pc + 3) lv rest (wr ++ w1 u)) : J p l e R s m args below meth c nL D cl A Q cells slots pc lv st ws :=
  J_gov X isC isR hC hCs hnC hR hnR hdis (fun ls H locs hl hP hD => va_runV (As := As) (rest := rest) X.fix (hM H.size) (cwV n X.hts hT hw rfl rfl hd hRm) (jPreV X.hK hP hD hc he) rfl hn hl.1 hst (lv_room hW) hdg hf) kk
theorem J_callVNv (X : jX p s m args c cc nL Ts own D cl tys A) {host : String} {y : MethodName} {wy wy2 : List Cond} {rm : Room} {bytes : ByteArray} {maxL n index : Nat} {ret : Option FieldType} {b ci q0 : Nat} {fs : List Value} {C : String} {T : u_T} {N : Nat} {S : Type} {w1 : S → va_W} {wc wr : va_W} (isC isR : List Nat) (hC : isC.map (fun i => ws[i]?) = wc.map some) (hCs : isC.filterMap (fun i => ws[i]?) = wc) (hnC : va_nd isC = true) (hR : isR.map (fun i => ws[i]?) = wr.map some) (hnR : va_nd isR = true) (hdis : ∀ i ∈ isR, i ∉ isC) (As rest : List Value) (hM : jMv l y wy rm D cl tys (.ref b :: As) wc w1) (hG : GoodIn Ts wy) (hw : wy = Cond.code y bytes maxL ret :: wy2) (hlk : Cond.methodLinkNest own index y host ∈ Ts) (hini : Cond.initialized y.cls ∈ Ts) (him : Cond.instanceMethod y ∈ Ts) (hsel : Cond.selects C y y ∈ Ts) (hd : y.cls ≠ "java/lang/invoke/MethodHandle" ∧ y.cls ≠ "java/lang/invoke/VarHandle" ∧ (parseMethodDescriptor y.desc).map (fun d => d.parameters.length) = some n) (hRm : rm.frames + 1 ≤ R.frames ∧ 8 + (maxL + 11) + rm.locals ≤ R.locals) (he : wc[q0]? = some (b, .inr (ci, fs))) (hc : cl[ci]? = some (C, T, N)) (hn : As.length = n) (hst : st = As.reverse ++ .ref b :: rest) (hW : (rest.map fun v => v.category).sum ≤ 8) (hdg : decode cc pc = .ok (.invokevirtual index, 3)) (hf : cells + rm.cells ≤ R.cells ∧ slots + rm.slots ≤ R.slots)
    (kk : ∀ u : S, J p l e R s m args below meth c nL D cl A Q (cells + rm.cells) (slots + rm.slots) (pc + 3) lv rest (wr ++ w1 u)) : J p l e R s m args below meth c nL D cl A Q cells slots pc lv st ws :=
  J_gov X isC isR hC hCs hnC hR hnR hdis (fun ls H locs hl hP hD => va_runVN (As := As) (rest := rest) X.fix (hM H.size) ⟨va_cnB n X.hts hG hw rfl rfl (va_Nw.of rfl (X.hts _ hlk)) (X.hts _ hini) hd hRm, X.hts _ him, X.hts _ hsel⟩ (jPreV X.hK hP hD hc he) rfl hn hl.1 hst (lv_room hW) hdg hf) kk
theorem J_callSv (X : jX p s m args c cc nL Ts own D cl tys A) {y : MethodName} {wy wy2 : List Cond} {rm : Room} {bytes : ByteArray} {maxL n index : Nat} {ret : Option FieldType} {S : Type} {w1 : S → va_W} {wc wr : va_W} (isC isR : List Nat) (hC : isC.map (fun i => ws[i]?) = wc.map some) (hCs : isC.filterMap (fun i => ws[i]?) = wc) (hnC : va_nd isC = true) (hR : isR.map (fun i => ws[i]?) = wr.map some) (hnR : va_nd isR = true) (hdis : ∀ i ∈ isR, i ∉ isC) (As rest : List Value) (hM : jMv l y wy rm D cl tys As wc w1) (hT : GoodIn Ts (va_wsS own index y wy)) (hw : wy = Cond.code y bytes maxL ret :: wy2) (hd : y.cls ≠ "java/lang/invoke/MethodHandle" ∧ y.cls ≠ "java/lang/invoke/VarHandle" ∧ (parseMethodDescriptor y.desc).map (fun d => d.parameters.length) = some n) (hRm : rm.frames + 1 ≤ R.frames ∧ 8 + (maxL + 11) + rm.locals ≤ R.locals) (hn : As.length = n) (hst : st = As.reverse ++ rest) (hW : (rest.map fun v => v.category).sum ≤ 8) (hdg : decode cc pc = .ok (.invokestatic index, 3)) (hf : cells + rm.cells ≤ R.cells ∧ slots + rm.slots ≤ R.slots)
    (kk : ∀ u : S, J p l e R s m args below meth c nL D cl A Q (cells + rm.cells) (slots + rm.slots) (pc + 3) lv rest (wr ++ w1 u)) : J p l e R s m args below meth c nL D cl A Q cells slots pc lv st ws :=
  J_gov X isC isR hC hCs hnC hR hnR hdis (fun ls H locs hl hP hD => va_runS (As := As) (rest := rest) X.fix (hM H.size) (va_cwS n X.hts hT hw rfl rfl hd hRm) (jPreS X.hK hP hD) rfl hn hl.1 hst (lv_room hW) hdg hf) kk
theorem J_gor (X : jX p s m args c cc nL Ts own D cl tys A) {mc ms : Nat} {rest : List Value} {av : Array Value} {S : Type} {w1 : S → Nat → va_W} {wc wr : va_W} (isC isR : List Nat) (hC : isC.map (fun i => ws[i]?) = wc.map some) (hCs : isC.filterMap (fun i => ws[i]?) = wc) (hnC : va_nd isC = true) (hR : isR.map (fun i => ws[i]?) = wr.map some) (hnR : va_nd isR = true) (hdis : ∀ i ∈ isR, i ∉ isC)
    (hrun : ∀ (ls : Array Slot) (H : Heap) (locs : List Loc), lv_has ls nL lv → va_P D cl wc H → va_D A wc → va_Run p l e R s m args below meth c H locs cells slots mc ms (F0 m pc ls st) rest (jQr D cl tys w1 (va_A wc H.size) av) (va_A wc H.size))
    (kk : ∀ (u : S) (ra : Nat), J p l e R s m args below meth c nL D cl A Q (cells + mc) (slots + ms) (pc + 3) lv (.ref ra :: rest) (wr ++ w1 u ra)) : J p l e R s m args below meth c nL D cl A Q cells slots pc lv st ws := by
  intro ls H locs hl hP hD hS
  have hPc := hP.sub isC hCs
  have hDc := hD.sub isC hnC hC
  have hFc := va_free (wc := wc) hD hS X.hA isC hC
  refine va_callr (hrun ls H locs hl hPc hDc) hS (fun q _ h => hFc q h) hFc (fun u ra t H1 locs1 ht hvm hw hB _ hk1 hS1 => ?_)
  skip
  obtain ⟨hP1, hK1, hD1⟩ := hB
  rw [ht] at hP1
  obtain ⟨hP2, hD2⟩ := va_join (wr := wr) (w1 := w1 u ra) hP hD isC isR hC hR hnR hdis hk1 hFc hP1 hD1
  exact kk u ra ls H1 locs1 hl hP2 hD2 hS1
theorem J_callVr (X : jX p s m args c cc nL Ts own D cl tys A) {y : MethodName} {wy wy2 : List Cond} {rm : Room} {bytes : ByteArray} {maxL n index : Nat} {ret : Option FieldType} {b ci q0 : Nat} {fs : List Value} {C : String} {T : u_T} {N : Nat} {S : Type} {w1 : S → Nat → va_W} {wc wr : va_W} (isC isR : List Nat) (hC : isC.map (fun i => ws[i]?) = wc.map some) (hCs : isC.filterMap (fun i => ws[i]?) = wc) (hnC : va_nd isC = true) (hR : isR.map (fun i => ws[i]?) = wr.map some) (hnR : va_nd isR = true) (hdis : ∀ i ∈ isR, i ∉ isC) (As rest : List Value) (hM : jMr l y wy rm D cl tys (.ref b :: As) wc w1) (hT : GoodIn Ts (wsV own index C y wy)) (hw : wy = Cond.code y bytes maxL ret :: wy2) (hd : y.cls = C ∧ y.cls ≠ "java/lang/invoke/MethodHandle" ∧ y.cls ≠ "java/lang/invoke/VarHandle" ∧ (parseMethodDescriptor y.desc).map (fun d => d.parameters.length) = some n) (hRm : rm.frames + 1 ≤ R.frames ∧ 8 + (maxL + 11) + rm.locals ≤ R.locals) (he : wc[q0]? = some (b, .inr (ci, fs))) (hc : cl[ci]? = some (C, T, N)) (hn : As.length = n) (hst : st = As.reverse ++ .ref b :: rest) (hW : (rest.map fun v => v.category).sum ≤ 8) (hdg : decode cc pc = .ok (.invokevirtual index, 3)) (hf : cells + rm.cells ≤ R.cells ∧ slots + rm.slots ≤ R.slots)
    (kk : ∀ (u : S) (ra : Nat), J p l e R s m args below meth c nL D cl A Q (cells + rm.cells) (slots + rm.slots) (pc + 3) lv (.ref ra :: rest) (wr ++ w1 u ra)) : J p l e R s m args below meth c nL D cl A Q cells slots pc lv st ws :=
  J_gor X isC isR hC hCs hnC hR hnR hdis (fun ls H locs hl hP hD => va_runV (As := As) (rest := rest) X.fix (hM H.size) (cwV n X.hts hT hw rfl rfl hd hRm) (jPreV X.hK hP hD hc he) rfl hn hl.1 hst (lv_room hW) hdg hf) kk
theorem J_callVNr (X : jX p s m args c cc nL Ts own D cl tys A) {host : String} {y : MethodName} {wy wy2 : List Cond} {rm : Room} {bytes : ByteArray} {maxL n index : Nat} {ret : Option FieldType} {b ci q0 : Nat} {fs : List Value} {C : String} {T : u_T} {N : Nat} {S : Type} {w1 : S → Nat → va_W} {wc wr : va_W} (isC isR : List Nat) (hC : isC.map (fun i => ws[i]?) = wc.map some) (hCs : isC.filterMap (fun i => ws[i]?) = wc) (hnC : va_nd isC = true) (hR : isR.map (fun i => ws[i]?) = wr.map some) (hnR : va_nd isR = true) (hdis : ∀ i ∈ isR, i ∉ isC) (As rest : List Value) (hM : jMr l y wy rm D cl tys (.ref b :: As) wc w1) (hG : GoodIn Ts wy) (hw : wy = Cond.code y bytes maxL ret :: wy2) (hlk : Cond.methodLinkNest own index y host ∈ Ts) (hini : Cond.initialized y.cls ∈ Ts) (him : Cond.instanceMethod y ∈ Ts) (hsel : Cond.selects C y y ∈ Ts) (hd : y.cls ≠ "java/lang/invoke/MethodHandle" ∧ y.cls ≠ "java/lang/invoke/VarHandle" ∧ (parseMethodDescriptor y.desc).map (fun d => d.parameters.length) = some n) (hRm : rm.frames + 1 ≤ R.frames ∧ 8 + (maxL + 11) + rm.locals ≤ R.locals) (he : wc[q0]? = some (b, .inr (ci, fs))) (hc : cl[ci]? = some (C, T, N)) (hn : As.length = n) (hst : st = As.reverse ++ .ref b :: rest) (hW : (rest.map fun v => v.category).sum ≤ 8) (hdg : decode cc pc = .ok (.invokevirtual index, 3)) (hf : cells + rm.cells ≤ R.cells ∧ slots + rm.slots ≤ R.slots)
    (kk : ∀ (u : S) (ra : Nat), J p l e R s m args below meth c nL D cl A Q (cells + rm.cells) (slots + rm.slots) (pc + 3) lv (.ref ra :: rest) (wr ++ w1 u ra)) : J p l e R s m args below meth c nL D cl A Q cells slots pc lv st ws :=
  J_gor X isC isR hC hCs hnC hR hnR hdis (fun ls H locs hl hP hD => va_runVN (As := As) (rest := rest) X.fix (hM H.size) ⟨va_cnB n X.hts hG hw rfl rfl (va_Nw.of rfl (X.hts _ hlk)) (X.hts _ hini) hd hRm, X.hts _ him, X.hts _ hsel⟩ (jPreV X.hK hP hD hc he) rfl hn hl.1 hst (lv_room hW) hdg hf) kk
theorem J_callSr (X : jX p s m args c cc nL Ts own D cl tys A) {y : MethodName} {wy wy2 : List Cond} {rm : Room} {bytes : ByteArray} {maxL n index : Nat} {ret : Option FieldType} {S : Type} {w1 : S → Nat → va_W} {wc wr : va_W} (isC isR : List Nat) (hC : isC.map (fun i => ws[i]?) = wc.map some) (hCs : isC.filterMap (fun i => ws[i]?) = wc) (hnC : va_nd isC = true) (hR : isR.map (fun i => ws[i]?) = wr.map some) (hnR : va_nd isR = true) (hdis : ∀ i ∈ isR, i ∉ isC) (As rest : List Value) (hM : jMr l y wy rm D cl tys As wc w1) (hT : GoodIn Ts (va_wsS own index y wy)) (hw : wy = Cond.code y bytes maxL ret :: wy2) (hd : y.cls ≠ "java/lang/invoke/MethodHandle" ∧ y.cls ≠ "java/lang/invoke/VarHandle" ∧ (parseMethodDescriptor y.desc).map (fun d => d.parameters.length) = some n) (hRm : rm.frames + 1 ≤ R.frames ∧ 8 + (maxL + 11) + rm.locals ≤ R.locals) (hn : As.length = n) (hst : st = As.reverse ++ rest) (hW : (rest.map fun v => v.category).sum ≤ 8) (hdg : decode cc pc = .ok (.invokestatic index, 3)) (hf : cells + rm.cells ≤ R.cells ∧ slots + rm.slots ≤ R.slots)
    (kk : ∀ (u : S) (ra : Nat), J p l e R s m args below meth c nL D cl A Q (cells + rm.cells) (slots + rm.slots) (pc + 3) lv (.ref ra :: rest) (wr ++ w1 u ra)) : J p l e R s m args below meth c nL D cl A Q cells slots pc lv st ws :=
  J_gor X isC isR hC hCs hnC hR hnR hdis (fun ls H locs hl hP hD => va_runS (As := As) (rest := rest) X.fix (hM H.size) (va_cwS n X.hts hT hw rfl rfl hd hRm) (jPreS X.hK hP hD) rfl hn hl.1 hst (lv_room hW) hdg hf) kk
theorem J_callI (X : jX p s m args c cc nL Ts own D cl tys A) {y : MethodName} {wy wy2 : List Cond} {rm : Room} {bytes : ByteArray} {maxL n index : Nat} {S : Type} {w1 : S → va_W} {b : Nat} {wc wr : va_W} (isC isR : List Nat) (hC : isC.map (fun i => ws[i]?) = wc.map some) (hCs : isC.filterMap (fun i => ws[i]?) = wc) (hnC : va_nd isC = true) (hR : isR.map (fun i => ws[i]?) = wr.map some) (hnR : va_nd isR = true) (hdis : ∀ i ∈ isR, i ∉ isC) (As rest : List Value) (hM : jMv l y wy rm D cl tys (.ref b :: As) wc w1) (hG : GoodIn Ts wy) (hw : wy = Cond.code y bytes maxL none :: wy2) (hini : Cond.initialized y.cls ∈ Ts) (hlk : Cond.methodLink own index y ∈ Ts) (him : Cond.instanceMethod y ∈ Ts) (hy1 : y.name = "<init>") (hd : y.cls ≠ "java/lang/invoke/MethodHandle" ∧ y.cls ≠ "java/lang/invoke/VarHandle" ∧ (parseMethodDescriptor y.desc).map (fun d => d.parameters.length) = some n) (hRm : rm.frames + 1 ≤ R.frames ∧ 8 + (maxL + 11) + rm.locals ≤ R.locals) (hn : As.length = n) (hst : st = As.reverse ++ .ref b :: rest) (hW : (rest.map fun v => v.category).sum ≤ 8) (hdg : decode cc pc = .ok (.invokespecial index, 3)) (hf : cells + rm.cells ≤ R.cells ∧ slots + rm.slots ≤ R.slots)
    (kk : ∀ u : S, J p l e R s m args below meth c nL D cl A Q (cells + rm.cells) (slots + rm.slots) (pc + 3) lv rest (wr ++ w1 u)) : J p l e R s m args below meth c nL D cl A Q cells slots pc lv st ws :=
  J_gov X isC isR hC hCs hnC hR hnR hdis (fun ls H locs hl hP hD => va_runI (As := As) (rest := rest) X.fix (hM H.size) (cwI n X.hts hG hw rfl rfl (X.hts _ hini) (X.hts _ hlk) (X.hts _ him) hy1 hd hRm) (jPreS X.hK hP hD) rfl hn hl.1 hst (lv_room hW) hdg hf) kk
theorem J_callVi0 (X : jX p s m args c cc nL Ts own D cl tys A) {y : MethodName} {wy wy2 : List Cond} {rm : Room} {bytes : ByteArray} {maxL n index : Nat} {ret : Option FieldType} {b ci q0 : Nat} {fs : List Value} {C : String} {T : u_T} {N : Nat} {r : Int32} {S : Type} {w1 : S → va_W} {wc : va_W} (isC : List Nat) (hC : isC.map (fun i => ws[i]?) = wc.map some) (hCs : isC.filterMap (fun i => ws[i]?) = wc) (hnC : va_nd isC = true) (As rest : List Value) (hM : jMi l y wy rm D cl tys (.ref b :: As) wc r w1) (hT : GoodIn Ts (wsV own index C y wy)) (hw : wy = Cond.code y bytes maxL ret :: wy2) (hd : y.cls = C ∧ y.cls ≠ "java/lang/invoke/MethodHandle" ∧ y.cls ≠ "java/lang/invoke/VarHandle" ∧ (parseMethodDescriptor y.desc).map (fun d => d.parameters.length) = some n) (hRm : rm.frames + 1 ≤ R.frames ∧ 8 + (maxL + 11) + rm.locals ≤ R.locals) (he : wc[q0]? = some (b, .inr (ci, fs))) (hc : cl[ci]? = some (C, T, N)) (hn : As.length = n) (hst : st = As.reverse ++ .ref b :: rest) (hW : (rest.map fun v => v.category).sum ≤ 8) (hdg : decode cc pc = .ok (.invokevirtual index, 3)) (hf : cells + rm.cells ≤ R.cells ∧ slots + rm.slots ≤ R.slots)
    (kk : ∀ u : S, J p l e R s m args below meth c nL D cl A Q (cells + rm.cells) (slots + rm.slots) (pc + 3) lv (.int r :: rest) (w1 u)) : J p l e R s m args below meth c nL D cl A Q cells slots pc lv st ws :=
  J_callVi X isC [] hC hCs hnC (wr := []) rfl rfl (fun _ h => absurd h List.not_mem_nil) As rest hM hT hw hd hRm he hc hn hst hW hdg hf kk
theorem J_callVNi0 (X : jX p s m args c cc nL Ts own D cl tys A) {host : String} {y : MethodName} {wy wy2 : List Cond} {rm : Room} {bytes : ByteArray} {maxL n index : Nat} {ret : Option FieldType} {b ci q0 : Nat} {fs : List Value} {C : String} {T : u_T} {N : Nat} {r : Int32} {S : Type} {w1 : S → va_W} {wc : va_W} (isC : List Nat) (hC : isC.map (fun i => ws[i]?) = wc.map some) (hCs : isC.filterMap (fun i => ws[i]?) = wc) (hnC : va_nd isC = true) (As rest : List Value) (hM : jMi l y wy rm D cl tys (.ref b :: As) wc r w1) (hG : GoodIn Ts wy) (hw : wy = Cond.code y bytes maxL ret :: wy2) (hlk : Cond.methodLinkNest own index y host ∈ Ts) (hini : Cond.initialized y.cls ∈ Ts) (him : Cond.instanceMethod y ∈ Ts) (hsel : Cond.selects C y y ∈ Ts) (hd : y.cls ≠ "java/lang/invoke/MethodHandle" ∧ y.cls ≠ "java/lang/invoke/VarHandle" ∧ (parseMethodDescriptor y.desc).map (fun d => d.parameters.length) = some n) (hRm : rm.frames + 1 ≤ R.frames ∧ 8 + (maxL + 11) + rm.locals ≤ R.locals) (he : wc[q0]? = some (b, .inr (ci, fs))) (hc : cl[ci]? = some (C, T, N)) (hn : As.length = n) (hst : st = As.reverse ++ .ref b :: rest) (hW : (rest.map fun v => v.category).sum ≤ 8) (hdg : decode cc pc = .ok (.invokevirtual index, 3)) (hf : cells + rm.cells ≤ R.cells ∧ slots + rm.slots ≤ R.slots)
    (kk : ∀ u : S, J p l e R s m args below meth c nL D cl A Q (cells + rm.cells) (slots + rm.slots) (pc + 3) lv (.int r :: rest) (w1 u)) : J p l e R s m args below meth c nL D cl A Q cells slots pc lv st ws :=
  J_callVNi X isC [] hC hCs hnC (wr := []) rfl rfl (fun _ h => absurd h List.not_mem_nil) As rest hM hG hw hlk hini him hsel hd hRm he hc hn hst hW hdg hf kk
theorem J_callSi0 (X : jX p s m args c cc nL Ts own D cl tys A) {y : MethodName} {wy wy2 : List Cond} {rm : Room} {bytes : ByteArray} {maxL n index : Nat} {ret : Option FieldType} {r : Int32} {S : Type} {w1 : S → va_W} {wc : va_W} (isC : List Nat) (hC : isC.map (fun i => ws[i]?) = wc.map some) (hCs : isC.filterMap (fun i => ws[i]?) = wc) (hnC : va_nd isC = true) (As rest : List Value) (hM : jMi l y wy rm D cl tys As wc r w1) (hT : GoodIn Ts (va_wsS own index y wy)) (hw : wy = Cond.code y bytes maxL ret :: wy2) (hd : y.cls ≠ "java/lang/invoke/MethodHandle" ∧ y.cls ≠ "java/lang/invoke/VarHandle" ∧ (parseMethodDescriptor y.desc).map (fun d => d.parameters.length) = some n) (hRm : rm.frames + 1 ≤ R.frames ∧ 8 + (maxL + 11) + rm.locals ≤ R.locals) (hn : As.length = n) (hst : st = As.reverse ++ rest) (hW : (rest.map fun v => v.category).sum ≤ 8) (hdg : decode cc pc = .ok (.invokestatic index, 3)) (hf : cells + rm.cells ≤ R.cells ∧ slots + rm.slots ≤ R.slots)
    (kk : ∀ u : S, J p l e R s m args below meth c nL D cl A Q (cells + rm.cells) (slots + rm.slots) (pc + 3) lv (.int r :: rest) (w1 u)) : J p l e R s m args below meth c nL D cl A Q cells slots pc lv st ws :=
  J_callSi X isC [] hC hCs hnC (wr := []) rfl rfl (fun _ h => absurd h List.not_mem_nil) As rest hM hT hw hd hRm hn hst hW hdg hf kk
theorem J_callVv0 (X : jX p s m args c cc nL Ts own D cl tys A) {y : MethodName} {wy wy2 : List Cond} {rm : Room} {bytes : ByteArray} {maxL n index : Nat} {ret : Option FieldType} {b ci q0 : Nat} {fs : List Value} {C : String} {T : u_T} {N : Nat} {S : Type} {w1 : S → va_W} {wc : va_W} (isC : List Nat) (hC : isC.map (fun i => ws[i]?) = wc.map some) (hCs : isC.filterMap (fun i => ws[i]?) = wc) (hnC : va_nd isC = true) (As rest : List Value) (hM : jMv l y wy rm D cl tys (.ref b :: As) wc w1) (hT : GoodIn Ts (wsV own index C y wy)) (hw : wy = Cond.code y bytes maxL ret :: wy2) (hd : y.cls = C ∧ y.cls ≠ "java/lang/invoke/MethodHandle" ∧ y.cls ≠ "java/lang/invoke/VarHandle" ∧ (parseMethodDescriptor y.desc).map (fun d => d.parameters.length) = some n) (hRm : rm.frames + 1 ≤ R.frames ∧ 8 + (maxL + 11) + rm.locals ≤ R.locals) (he : wc[q0]? = some (b, .inr (ci, fs))) (hc : cl[ci]? = some (C, T, N)) (hn : As.length = n) (hst : st = As.reverse ++ .ref b :: rest) (hW : (rest.map fun v => v.category).sum ≤ 8) (hdg : decode cc pc = .ok (.invokevirtual index, 3)) (hf : cells + rm.cells ≤ R.cells ∧ slots + rm.slots ≤ R.slots)
    (kk : ∀ u : S, J p l e R s m args below meth c nL D cl A Q (cells + rm.cells) (slots + rm.slots) (pc + 3) lv rest (w1 u)) : J p l e R s m args below meth c nL D cl A Q cells slots pc lv st ws :=
  J_callVv X isC [] hC hCs hnC (wr := []) rfl rfl (fun _ h => absurd h List.not_mem_nil) As rest hM hT hw hd hRm he hc hn hst hW hdg hf kk
theorem J_callVNv0 (X : jX p s m args c cc nL Ts own D cl tys A) {host : String} {y : MethodName} {wy wy2 : List Cond} {rm : Room} {bytes : ByteArray} {maxL n index : Nat} {ret : Option FieldType} {b ci q0 : Nat} {fs : List Value} {C : String} {T : u_T} {N : Nat} {S : Type} {w1 : S → va_W} {wc : va_W} (isC : List Nat) (hC : isC.map (fun i => ws[i]?) = wc.map some) (hCs : isC.filterMap (fun i => ws[i]?) = wc) (hnC : va_nd isC = true) (As rest : List Value) (hM : jMv l y wy rm D cl tys (.ref b :: As) wc w1) (hG : GoodIn Ts wy) (hw : wy = Cond.code y bytes maxL ret :: wy2) (hlk : Cond.methodLinkNest own index y host ∈ Ts) (hini : Cond.initialized y.cls ∈ Ts) (him : Cond.instanceMethod y ∈ Ts) (hsel : Cond.selects C y y ∈ Ts) (hd : y.cls ≠ "java/lang/invoke/MethodHandle" ∧ y.cls ≠ "java/lang/invoke/VarHandle" ∧ (parseMethodDescriptor y.desc).map (fun d => d.parameters.length) = some n) (hRm : rm.frames + 1 ≤ R.frames ∧ 8 + (maxL + 11) + rm.locals ≤ R.locals) (he : wc[q0]? = some (b, .inr (ci, fs))) (hc : cl[ci]? = some (C, T, N)) (hn : As.length = n) (hst : st = As.reverse ++ .ref b :: rest) (hW : (rest.map fun v => v.category).sum ≤ 8) (hdg : decode cc pc = .ok (.invokevirtual index, 3)) (hf : cells + rm.cells ≤ R.cells ∧ slots + rm.slots ≤ R.slots)
    (kk : ∀ u : S, J p l e R s m args below meth c nL D cl A Q (cells + rm.cells) (slots + rm.slots) (pc + 3) lv rest (w1 u)) : J p l e R s m args below meth c nL D cl A Q cells slots pc lv st ws :=
  J_callVNv X isC [] hC hCs hnC (wr := []) rfl rfl (fun _ h => absurd h List.not_mem_nil) As rest hM hG hw hlk hini him hsel hd hRm he hc hn hst hW hdg hf kk
theorem J_callSv0 (X : jX p s m args c cc nL Ts own D cl tys A) {y : MethodName} {wy wy2 : List Cond} {rm : Room} {bytes : ByteArray} {maxL n index : Nat} {ret : Option FieldType} {S : Type} {w1 : S → va_W} {wc : va_W} (isC : List Nat) (hC : isC.map (fun i => ws[i]?) = wc.map some) (hCs : isC.filterMap (fun i => ws[i]?) = wc) (hnC : va_nd isC = true) (As rest : List Value) (hM : jMv l y wy rm D cl tys As wc w1) (hT : GoodIn Ts (va_wsS own index y wy)) (hw : wy = Cond.code y bytes maxL ret :: wy2) (hd : y.cls ≠ "java/lang/invoke/MethodHandle" ∧ y.cls ≠ "java/lang/invoke/VarHandle" ∧ (parseMethodDescriptor y.desc).map (fun d => d.parameters.length) = some n) (hRm : rm.frames + 1 ≤ R.frames ∧ 8 + (maxL + 11) + rm.locals ≤ R.locals) (hn : As.length = n) (hst : st = As.reverse ++ rest) (hW : (rest.map fun v => v.category).sum ≤ 8) (hdg : decode cc pc = .ok (.invokestatic index, 3)) (hf : cells + rm.cells ≤ R.cells ∧ slots + rm.slots ≤ R.slots)
    (kk : ∀ u : S, J p l e R s m args below meth c nL D cl A Q (cells + rm.cells) (slots + rm.slots) (pc + 3) lv rest (w1 u)) : J p l e R s m args below meth c nL D cl A Q cells slots pc lv st ws :=
  J_callSv X isC [] hC hCs hnC (wr := []) rfl rfl (fun _ h => absurd h List.not_mem_nil) As rest hM hT hw hd hRm hn hst hW hdg hf kk
theorem j_nz {v : Int32} (h : ¬ ¬ (v = 0 ∨ v = 1)) : narrow .boolean (.int v) = .int v := by
  rcases Classical.not_not.mp h with rfl | rfl <;> rfl
theorem j_fz {v : Int32} (h : ¬ ¬ (v = 0 ∨ v = 1)) : fits .boolean (.int v) = true := by
  rcases Classical.not_not.mp h with rfl | rfl <;> rfl
theorem j_ifn {α : Type} {c : Prop} [Decidable c] {x : Option α} {y : α} (h : (if c then none else x) = some y) : ¬ c ∧ x = some y := by
  by_cases hc : c
  · rw [if_pos hc] at h; cases h
  · rw [if_neg hc] at h; exact ⟨hc, h⟩
theorem j_bind {α β : Type} {x : Option α} {f : α → Option β} {y : β} (h : x.bind f = some y) : ∃ z, x = some z ∧ f z = some y := by
  cases x with
  | none => cases h
  | some z => exact ⟨z, rfl, h⟩
theorem j_pr {α β : Type} {a c : α} {b d : β} (h : some (a, b) = some (c, d)) : a = c ∧ b = d := by cases h; exact ⟨rfl, rfl⟩
theorem j_s {α : Type} {a c : α} (h : some a = some c) : a = c := by cases h; rfl
end
end
section
-- ===== PART A: goes FIRST, ahead of the names: the tables' words, and 'selects' of the private methods out of them =====
/-- a private method of a class that the tables say can be made, by its rows of tables_1 -/
def lw_okq (q : MethodName × Nat) : Prop := (q.1.cls ≠ "java/lang/invoke/MethodHandle" ∧ q.1.cls ≠ "java/lang/invoke/VarHandle") ∧ Cond.instantiable q.1.cls q.2 ∈ tables_1 ∧ Cond.privateMethod q.1 ∈ tables_1 ∧ Cond.instanceMethod q.1 ∈ tables_1
theorem lw_p0 : lw_okq (⟨"SegmentReader$Parser", "fail", "(II)I"⟩, 11) := ⟨⟨by decide +kernel, by decide +kernel⟩, List.mem_of_getElem? (i := 109) (by decide +kernel), List.mem_of_getElem? (i := 239) (by decide +kernel), List.mem_of_getElem? (i := 240) (by decide +kernel)⟩
theorem lw_p1 : lw_okq (⟨"SegmentReader$Parser", "takeMarker", "()I"⟩, 11) := ⟨⟨by decide +kernel, by decide +kernel⟩, List.mem_of_getElem? (i := 109) (by decide +kernel), List.mem_of_getElem? (i := 251) (by decide +kernel), List.mem_of_getElem? (i := 252) (by decide +kernel)⟩
theorem lw_p2 : lw_okq (⟨"SegmentReader$Parser", "canStand", "(I)Z"⟩, 11) := ⟨⟨by decide +kernel, by decide +kernel⟩, List.mem_of_getElem? (i := 109) (by decide +kernel), List.mem_of_getElem? (i := 255) (by decide +kernel), List.mem_of_getElem? (i := 256) (by decide +kernel)⟩
theorem lw_p3 : lw_okq (⟨"SegmentReader$Parser", "allBegun", "()Z"⟩, 11) := ⟨⟨by decide +kernel, by decide +kernel⟩, List.mem_of_getElem? (i := 109) (by decide +kernel), List.mem_of_getElem? (i := 259) (by decide +kernel), List.mem_of_getElem? (i := 260) (by decide +kernel)⟩
theorem lw_p4 : lw_okq (⟨"SegmentReader$Parser", "latestOf", "(II)I"⟩, 11) := ⟨⟨by decide +kernel, by decide +kernel⟩, List.mem_of_getElem? (i := 109) (by decide +kernel), List.mem_of_getElem? (i := 263) (by decide +kernel), List.mem_of_getElem? (i := 264) (by decide +kernel)⟩
theorem lw_p5 : lw_okq (⟨"SegmentReader$Parser", "isFree", "(I)Z"⟩, 11) := ⟨⟨by decide +kernel, by decide +kernel⟩, List.mem_of_getElem? (i := 109) (by decide +kernel), List.mem_of_getElem? (i := 267) (by decide +kernel), List.mem_of_getElem? (i := 268) (by decide +kernel)⟩
theorem lw_p6 : lw_okq (⟨"SegmentReader$Parser", "takeLength", "()V"⟩, 11) := ⟨⟨by decide +kernel, by decide +kernel⟩, List.mem_of_getElem? (i := 109) (by decide +kernel), List.mem_of_getElem? (i := 271) (by decide +kernel), List.mem_of_getElem? (i := 272) (by decide +kernel)⟩
theorem lw_p7 : lw_okq (⟨"SegmentReader$Parser", "takePair", "(II)I"⟩, 11) := ⟨⟨by decide +kernel, by decide +kernel⟩, List.mem_of_getElem? (i := 109) (by decide +kernel), List.mem_of_getElem? (i := 276) (by decide +kernel), List.mem_of_getElem? (i := 277) (by decide +kernel)⟩
theorem lw_p8 : lw_okq (⟨"SegmentReader$Parser", "take", "(II)I"⟩, 11) := ⟨⟨by decide +kernel, by decide +kernel⟩, List.mem_of_getElem? (i := 109) (by decide +kernel), List.mem_of_getElem? (i := 280) (by decide +kernel), List.mem_of_getElem? (i := 281) (by decide +kernel)⟩
theorem lw_p9 : lw_okq (⟨"SegmentReader$Parser", "refuseTaken", "()V"⟩, 11) := ⟨⟨by decide +kernel, by decide +kernel⟩, List.mem_of_getElem? (i := 109) (by decide +kernel), List.mem_of_getElem? (i := 284) (by decide +kernel), List.mem_of_getElem? (i := 285) (by decide +kernel)⟩
theorem lw_p10 : lw_okq (⟨"SegmentReader$Parser", "readContents", "(I)V"⟩, 11) := ⟨⟨by decide +kernel, by decide +kernel⟩, List.mem_of_getElem? (i := 109) (by decide +kernel), List.mem_of_getElem? (i := 304) (by decide +kernel), List.mem_of_getElem? (i := 305) (by decide +kernel)⟩
theorem lw_p11 : lw_okq (⟨"SegmentReader$Parser", "readQuantisers", "()V"⟩, 11) := ⟨⟨by decide +kernel, by decide +kernel⟩, List.mem_of_getElem? (i := 109) (by decide +kernel), List.mem_of_getElem? (i := 308) (by decide +kernel), List.mem_of_getElem? (i := 309) (by decide +kernel)⟩
theorem lw_p12 : lw_okq (⟨"SegmentReader$Parser", "moreContents", "()Z"⟩, 11) := ⟨⟨by decide +kernel, by decide +kernel⟩, List.mem_of_getElem? (i := 109) (by decide +kernel), List.mem_of_getElem? (i := 316) (by decide +kernel), List.mem_of_getElem? (i := 317) (by decide +kernel)⟩
theorem lw_p13 : lw_okq (⟨"SegmentReader$Parser", "readWords", "()V"⟩, 11) := ⟨⟨by decide +kernel, by decide +kernel⟩, List.mem_of_getElem? (i := 109) (by decide +kernel), List.mem_of_getElem? (i := 320) (by decide +kernel), List.mem_of_getElem? (i := 321) (by decide +kernel)⟩
theorem lw_p14 : lw_okq (⟨"SegmentReader$Parser", "takeCounts", "()I"⟩, 11) := ⟨⟨by decide +kernel, by decide +kernel⟩, List.mem_of_getElem? (i := 109) (by decide +kernel), List.mem_of_getElem? (i := 324) (by decide +kernel), List.mem_of_getElem? (i := 325) (by decide +kernel)⟩
theorem lw_p15 : lw_okq (⟨"SegmentReader$Parser", "takeSymbols", "(II)V"⟩, 11) := ⟨⟨by decide +kernel, by decide +kernel⟩, List.mem_of_getElem? (i := 109) (by decide +kernel), List.mem_of_getElem? (i := 328) (by decide +kernel), List.mem_of_getElem? (i := 329) (by decide +kernel)⟩
def lw_privs_1 : List (MethodName × Nat) := [(⟨"SegmentReader$Parser", "fail", "(II)I"⟩, 11), (⟨"SegmentReader$Parser", "takeMarker", "()I"⟩, 11), (⟨"SegmentReader$Parser", "canStand", "(I)Z"⟩, 11), (⟨"SegmentReader$Parser", "allBegun", "()Z"⟩, 11), (⟨"SegmentReader$Parser", "latestOf", "(II)I"⟩, 11), (⟨"SegmentReader$Parser", "isFree", "(I)Z"⟩, 11), (⟨"SegmentReader$Parser", "takeLength", "()V"⟩, 11), (⟨"SegmentReader$Parser", "takePair", "(II)I"⟩, 11), (⟨"SegmentReader$Parser", "take", "(II)I"⟩, 11), (⟨"SegmentReader$Parser", "refuseTaken", "()V"⟩, 11), (⟨"SegmentReader$Parser", "readContents", "(I)V"⟩, 11), (⟨"SegmentReader$Parser", "readQuantisers", "()V"⟩, 11), (⟨"SegmentReader$Parser", "moreContents", "()Z"⟩, 11), (⟨"SegmentReader$Parser", "readWords", "()V"⟩, 11), (⟨"SegmentReader$Parser", "takeCounts", "()I"⟩, 11), (⟨"SegmentReader$Parser", "takeSymbols", "(II)V"⟩, 11)]
theorem lw_r1 : ∀ q ∈ lw_privs_1, lw_okq q := List.forall_mem_cons.mpr ⟨lw_p0, List.forall_mem_cons.mpr ⟨lw_p1, List.forall_mem_cons.mpr ⟨lw_p2, List.forall_mem_cons.mpr ⟨lw_p3, List.forall_mem_cons.mpr ⟨lw_p4, List.forall_mem_cons.mpr ⟨lw_p5, List.forall_mem_cons.mpr ⟨lw_p6, List.forall_mem_cons.mpr ⟨lw_p7, List.forall_mem_cons.mpr ⟨lw_p8, List.forall_mem_cons.mpr ⟨lw_p9, List.forall_mem_cons.mpr ⟨lw_p10, List.forall_mem_cons.mpr ⟨lw_p11, List.forall_mem_cons.mpr ⟨lw_p12, List.forall_mem_cons.mpr ⟨lw_p13, List.forall_mem_cons.mpr ⟨lw_p14, List.forall_mem_cons.mpr ⟨lw_p15, fun _ h => absurd h List.not_mem_nil⟩⟩⟩⟩⟩⟩⟩⟩⟩⟩⟩⟩⟩⟩⟩⟩
theorem lw_p16 : lw_okq (⟨"SegmentReader$Picture", "rowOfWords", "(I)I"⟩, 12) := ⟨⟨by decide +kernel, by decide +kernel⟩, List.mem_of_getElem? (i := 36) (by decide +kernel), List.mem_of_getElem? (i := 339) (by decide +kernel), List.mem_of_getElem? (i := 340) (by decide +kernel)⟩
theorem lw_p17 : lw_okq (⟨"SegmentReader$Parser", "readFrame", "(I)V"⟩, 11) := ⟨⟨by decide +kernel, by decide +kernel⟩, List.mem_of_getElem? (i := 109) (by decide +kernel), List.mem_of_getElem? (i := 343) (by decide +kernel), List.mem_of_getElem? (i := 344) (by decide +kernel)⟩
theorem lw_p18 : lw_okq (⟨"SegmentReader$Parser", "readComponent", "()V"⟩, 11) := ⟨⟨by decide +kernel, by decide +kernel⟩, List.mem_of_getElem? (i := 109) (by decide +kernel), List.mem_of_getElem? (i := 347) (by decide +kernel), List.mem_of_getElem? (i := 348) (by decide +kernel)⟩
theorem lw_p19 : lw_okq (⟨"SegmentReader$Parser", "readScan", "()V"⟩, 11) := ⟨⟨by decide +kernel, by decide +kernel⟩, List.mem_of_getElem? (i := 109) (by decide +kernel), List.mem_of_getElem? (i := 363) (by decide +kernel), List.mem_of_getElem? (i := 364) (by decide +kernel)⟩
theorem lw_p20 : lw_okq (⟨"SegmentReader$Parser", "takeScanComponents", "()V"⟩, 11) := ⟨⟨by decide +kernel, by decide +kernel⟩, List.mem_of_getElem? (i := 109) (by decide +kernel), List.mem_of_getElem? (i := 367) (by decide +kernel), List.mem_of_getElem? (i := 368) (by decide +kernel)⟩
theorem lw_p21 : lw_okq (⟨"SegmentReader$Parser", "takeBits", "(I)V"⟩, 11) := ⟨⟨by decide +kernel, by decide +kernel⟩, List.mem_of_getElem? (i := 109) (by decide +kernel), List.mem_of_getElem? (i := 372) (by decide +kernel), List.mem_of_getElem? (i := 373) (by decide +kernel)⟩
theorem lw_p22 : lw_okq (⟨"SegmentReader$Parser", "checkSent", "()V"⟩, 11) := ⟨⟨by decide +kernel, by decide +kernel⟩, List.mem_of_getElem? (i := 109) (by decide +kernel), List.mem_of_getElem? (i := 376) (by decide +kernel), List.mem_of_getElem? (i := 377) (by decide +kernel)⟩
theorem lw_p23 : lw_okq (⟨"SegmentReader$Parser", "checkTables", "()V"⟩, 11) := ⟨⟨by decide +kernel, by decide +kernel⟩, List.mem_of_getElem? (i := 109) (by decide +kernel), List.mem_of_getElem? (i := 388) (by decide +kernel), List.mem_of_getElem? (i := 389) (by decide +kernel)⟩
theorem lw_p24 : lw_okq (⟨"SegmentReader$Parser", "noteSent", "()V"⟩, 11) := ⟨⟨by decide +kernel, by decide +kernel⟩, List.mem_of_getElem? (i := 109) (by decide +kernel), List.mem_of_getElem? (i := 400) (by decide +kernel), List.mem_of_getElem? (i := 401) (by decide +kernel)⟩
theorem lw_p25 : lw_okq (⟨"SegmentReader$Parser", "skipContents", "()V"⟩, 11) := ⟨⟨by decide +kernel, by decide +kernel⟩, List.mem_of_getElem? (i := 109) (by decide +kernel), List.mem_of_getElem? (i := 404) (by decide +kernel), List.mem_of_getElem? (i := 405) (by decide +kernel)⟩
theorem lw_p26 : lw_okq (⟨"SegmentReader$Parser", "readData", "()V"⟩, 11) := ⟨⟨by decide +kernel, by decide +kernel⟩, List.mem_of_getElem? (i := 109) (by decide +kernel), List.mem_of_getElem? (i := 408) (by decide +kernel), List.mem_of_getElem? (i := 409) (by decide +kernel)⟩
theorem lw_p27 : lw_okq (⟨"SegmentReader$Parser", "endData", "(III)V"⟩, 11) := ⟨⟨by decide +kernel, by decide +kernel⟩, List.mem_of_getElem? (i := 109) (by decide +kernel), List.mem_of_getElem? (i := 412) (by decide +kernel), List.mem_of_getElem? (i := 413) (by decide +kernel)⟩
theorem lw_p28 : lw_okq (⟨"SegmentReader$Picture", "greatest", "(I)I"⟩, 12) := ⟨⟨by decide +kernel, by decide +kernel⟩, List.mem_of_getElem? (i := 36) (by decide +kernel), List.mem_of_getElem? (i := 453) (by decide +kernel), List.mem_of_getElem? (i := 454) (by decide +kernel)⟩
theorem lw_p29 : lw_okq (⟨"SegmentReader$Picture", "ofScanComponent", "(III)I"⟩, 12) := ⟨⟨by decide +kernel, by decide +kernel⟩, List.mem_of_getElem? (i := 36) (by decide +kernel), List.mem_of_getElem? (i := 474) (by decide +kernel), List.mem_of_getElem? (i := 475) (by decide +kernel)⟩
theorem lw_p30 : lw_okq (⟨"SegmentReader$Picture", "wordCount", "(I)I"⟩, 12) := ⟨⟨by decide +kernel, by decide +kernel⟩, List.mem_of_getElem? (i := 36) (by decide +kernel), List.mem_of_getElem? (i := 505) (by decide +kernel), List.mem_of_getElem? (i := 506) (by decide +kernel)⟩
theorem lw_p31 : lw_okq (⟨"SegmentReaderModel", "forget", "()V"⟩, 40) := ⟨⟨by decide +kernel, by decide +kernel⟩, List.mem_of_getElem? (i := 515) (by decide +kernel), List.mem_of_getElem? (i := 522) (by decide +kernel), List.mem_of_getElem? (i := 523) (by decide +kernel)⟩
def lw_privs_2 : List (MethodName × Nat) := [(⟨"SegmentReader$Picture", "rowOfWords", "(I)I"⟩, 12), (⟨"SegmentReader$Parser", "readFrame", "(I)V"⟩, 11), (⟨"SegmentReader$Parser", "readComponent", "()V"⟩, 11), (⟨"SegmentReader$Parser", "readScan", "()V"⟩, 11), (⟨"SegmentReader$Parser", "takeScanComponents", "()V"⟩, 11), (⟨"SegmentReader$Parser", "takeBits", "(I)V"⟩, 11), (⟨"SegmentReader$Parser", "checkSent", "()V"⟩, 11), (⟨"SegmentReader$Parser", "checkTables", "()V"⟩, 11), (⟨"SegmentReader$Parser", "noteSent", "()V"⟩, 11), (⟨"SegmentReader$Parser", "skipContents", "()V"⟩, 11), (⟨"SegmentReader$Parser", "readData", "()V"⟩, 11), (⟨"SegmentReader$Parser", "endData", "(III)V"⟩, 11), (⟨"SegmentReader$Picture", "greatest", "(I)I"⟩, 12), (⟨"SegmentReader$Picture", "ofScanComponent", "(III)I"⟩, 12), (⟨"SegmentReader$Picture", "wordCount", "(I)I"⟩, 12), (⟨"SegmentReaderModel", "forget", "()V"⟩, 40)]
theorem lw_r2 : ∀ q ∈ lw_privs_2, lw_okq q := List.forall_mem_cons.mpr ⟨lw_p16, List.forall_mem_cons.mpr ⟨lw_p17, List.forall_mem_cons.mpr ⟨lw_p18, List.forall_mem_cons.mpr ⟨lw_p19, List.forall_mem_cons.mpr ⟨lw_p20, List.forall_mem_cons.mpr ⟨lw_p21, List.forall_mem_cons.mpr ⟨lw_p22, List.forall_mem_cons.mpr ⟨lw_p23, List.forall_mem_cons.mpr ⟨lw_p24, List.forall_mem_cons.mpr ⟨lw_p25, List.forall_mem_cons.mpr ⟨lw_p26, List.forall_mem_cons.mpr ⟨lw_p27, List.forall_mem_cons.mpr ⟨lw_p28, List.forall_mem_cons.mpr ⟨lw_p29, List.forall_mem_cons.mpr ⟨lw_p30, List.forall_mem_cons.mpr ⟨lw_p31, fun _ h => absurd h List.not_mem_nil⟩⟩⟩⟩⟩⟩⟩⟩⟩⟩⟩⟩⟩⟩⟩⟩
theorem lw_p32 : lw_okq (⟨"SegmentReaderModel", "readFile", "()V"⟩, 40) := ⟨⟨by decide +kernel, by decide +kernel⟩, List.mem_of_getElem? (i := 515) (by decide +kernel), List.mem_of_getElem? (i := 660) (by decide +kernel), List.mem_of_getElem? (i := 661) (by decide +kernel)⟩
theorem lw_p33 : lw_okq (⟨"SegmentReaderModel", "next", "()I"⟩, 40) := ⟨⟨by decide +kernel, by decide +kernel⟩, List.mem_of_getElem? (i := 515) (by decide +kernel), List.mem_of_getElem? (i := 664) (by decide +kernel), List.mem_of_getElem? (i := 665) (by decide +kernel)⟩
theorem lw_p34 : lw_okq (⟨"SegmentReaderModel", "lengthAt", "()I"⟩, 40) := ⟨⟨by decide +kernel, by decide +kernel⟩, List.mem_of_getElem? (i := 515) (by decide +kernel), List.mem_of_getElem? (i := 668) (by decide +kernel), List.mem_of_getElem? (i := 669) (by decide +kernel)⟩
theorem lw_p35 : lw_okq (⟨"SegmentReaderModel", "wrong", "(II)I"⟩, 40) := ⟨⟨by decide +kernel, by decide +kernel⟩, List.mem_of_getElem? (i := 515) (by decide +kernel), List.mem_of_getElem? (i := 672) (by decide +kernel), List.mem_of_getElem? (i := 673) (by decide +kernel)⟩
theorem lw_p36 : lw_okq (⟨"SegmentReaderModel", "byteAt", "(I)I"⟩, 40) := ⟨⟨by decide +kernel, by decide +kernel⟩, List.mem_of_getElem? (i := 515) (by decide +kernel), List.mem_of_getElem? (i := 676) (by decide +kernel), List.mem_of_getElem? (i := 677) (by decide +kernel)⟩
theorem lw_p37 : lw_okq (⟨"SegmentReaderModel", "marker", "()I"⟩, 40) := ⟨⟨by decide +kernel, by decide +kernel⟩, List.mem_of_getElem? (i := 515) (by decide +kernel), List.mem_of_getElem? (i := 680) (by decide +kernel), List.mem_of_getElem? (i := 681) (by decide +kernel)⟩
theorem lw_p38 : lw_okq (⟨"SegmentReaderModel", "isSent", "()Z"⟩, 40) := ⟨⟨by decide +kernel, by decide +kernel⟩, List.mem_of_getElem? (i := 515) (by decide +kernel), List.mem_of_getElem? (i := 684) (by decide +kernel), List.mem_of_getElem? (i := 685) (by decide +kernel)⟩
theorem lw_p39 : lw_okq (⟨"SegmentReaderModel", "segment", "(I)Z"⟩, 40) := ⟨⟨by decide +kernel, by decide +kernel⟩, List.mem_of_getElem? (i := 515) (by decide +kernel), List.mem_of_getElem? (i := 688) (by decide +kernel), List.mem_of_getElem? (i := 689) (by decide +kernel)⟩
theorem lw_p40 : lw_okq (⟨"SegmentReaderModel", "open", "()V"⟩, 40) := ⟨⟨by decide +kernel, by decide +kernel⟩, List.mem_of_getElem? (i := 515) (by decide +kernel), List.mem_of_getElem? (i := 692) (by decide +kernel), List.mem_of_getElem? (i := 693) (by decide +kernel)⟩
theorem lw_p41 : lw_okq (⟨"SegmentReaderModel", "two", "()I"⟩, 40) := ⟨⟨by decide +kernel, by decide +kernel⟩, List.mem_of_getElem? (i := 515) (by decide +kernel), List.mem_of_getElem? (i := 696) (by decide +kernel), List.mem_of_getElem? (i := 697) (by decide +kernel)⟩
theorem lw_p42 : lw_okq (⟨"SegmentReaderModel", "readQuantisers", "()V"⟩, 40) := ⟨⟨by decide +kernel, by decide +kernel⟩, List.mem_of_getElem? (i := 515) (by decide +kernel), List.mem_of_getElem? (i := 700) (by decide +kernel), List.mem_of_getElem? (i := 701) (by decide +kernel)⟩
theorem lw_p43 : lw_okq (⟨"SegmentReaderModel", "must", "(Z)V"⟩, 40) := ⟨⟨by decide +kernel, by decide +kernel⟩, List.mem_of_getElem? (i := 515) (by decide +kernel), List.mem_of_getElem? (i := 704) (by decide +kernel), List.mem_of_getElem? (i := 705) (by decide +kernel)⟩
theorem lw_p44 : lw_okq (⟨"SegmentReaderModel", "readWords", "()V"⟩, 40) := ⟨⟨by decide +kernel, by decide +kernel⟩, List.mem_of_getElem? (i := 515) (by decide +kernel), List.mem_of_getElem? (i := 708) (by decide +kernel), List.mem_of_getElem? (i := 709) (by decide +kernel)⟩
theorem lw_p45 : lw_okq (⟨"SegmentReaderModel", "readTable", "(I)V"⟩, 40) := ⟨⟨by decide +kernel, by decide +kernel⟩, List.mem_of_getElem? (i := 515) (by decide +kernel), List.mem_of_getElem? (i := 712) (by decide +kernel), List.mem_of_getElem? (i := 713) (by decide +kernel)⟩
theorem lw_p46 : lw_okq (⟨"SegmentReaderModel", "readFrame", "(I)V"⟩, 40) := ⟨⟨by decide +kernel, by decide +kernel⟩, List.mem_of_getElem? (i := 515) (by decide +kernel), List.mem_of_getElem? (i := 717) (by decide +kernel), List.mem_of_getElem? (i := 718) (by decide +kernel)⟩
theorem lw_p47 : lw_okq (⟨"SegmentReaderModel", "readScan", "()V"⟩, 40) := ⟨⟨by decide +kernel, by decide +kernel⟩, List.mem_of_getElem? (i := 515) (by decide +kernel), List.mem_of_getElem? (i := 721) (by decide +kernel), List.mem_of_getElem? (i := 722) (by decide +kernel)⟩
def lw_privs_3 : List (MethodName × Nat) := [(⟨"SegmentReaderModel", "readFile", "()V"⟩, 40), (⟨"SegmentReaderModel", "next", "()I"⟩, 40), (⟨"SegmentReaderModel", "lengthAt", "()I"⟩, 40), (⟨"SegmentReaderModel", "wrong", "(II)I"⟩, 40), (⟨"SegmentReaderModel", "byteAt", "(I)I"⟩, 40), (⟨"SegmentReaderModel", "marker", "()I"⟩, 40), (⟨"SegmentReaderModel", "isSent", "()Z"⟩, 40), (⟨"SegmentReaderModel", "segment", "(I)Z"⟩, 40), (⟨"SegmentReaderModel", "open", "()V"⟩, 40), (⟨"SegmentReaderModel", "two", "()I"⟩, 40), (⟨"SegmentReaderModel", "readQuantisers", "()V"⟩, 40), (⟨"SegmentReaderModel", "must", "(Z)V"⟩, 40), (⟨"SegmentReaderModel", "readWords", "()V"⟩, 40), (⟨"SegmentReaderModel", "readTable", "(I)V"⟩, 40), (⟨"SegmentReaderModel", "readFrame", "(I)V"⟩, 40), (⟨"SegmentReaderModel", "readScan", "()V"⟩, 40)]
theorem lw_r3 : ∀ q ∈ lw_privs_3, lw_okq q := List.forall_mem_cons.mpr ⟨lw_p32, List.forall_mem_cons.mpr ⟨lw_p33, List.forall_mem_cons.mpr ⟨lw_p34, List.forall_mem_cons.mpr ⟨lw_p35, List.forall_mem_cons.mpr ⟨lw_p36, List.forall_mem_cons.mpr ⟨lw_p37, List.forall_mem_cons.mpr ⟨lw_p38, List.forall_mem_cons.mpr ⟨lw_p39, List.forall_mem_cons.mpr ⟨lw_p40, List.forall_mem_cons.mpr ⟨lw_p41, List.forall_mem_cons.mpr ⟨lw_p42, List.forall_mem_cons.mpr ⟨lw_p43, List.forall_mem_cons.mpr ⟨lw_p44, List.forall_mem_cons.mpr ⟨lw_p45, List.forall_mem_cons.mpr ⟨lw_p46, List.forall_mem_cons.mpr ⟨lw_p47, fun _ h => absurd h List.not_mem_nil⟩⟩⟩⟩⟩⟩⟩⟩⟩⟩⟩⟩⟩⟩⟩⟩
theorem lw_p48 : lw_okq (⟨"SegmentReaderModel", "named", "(I)I"⟩, 40) := ⟨⟨by decide +kernel, by decide +kernel⟩, List.mem_of_getElem? (i := 515) (by decide +kernel), List.mem_of_getElem? (i := 725) (by decide +kernel), List.mem_of_getElem? (i := 726) (by decide +kernel)⟩
theorem lw_p49 : lw_okq (⟨"SegmentReaderModel", "order", "(IZ)V"⟩, 40) := ⟨⟨by decide +kernel, by decide +kernel⟩, List.mem_of_getElem? (i := 515) (by decide +kernel), List.mem_of_getElem? (i := 729) (by decide +kernel), List.mem_of_getElem? (i := 730) (by decide +kernel)⟩
theorem lw_p50 : lw_okq (⟨"SegmentReaderModel", "needs", "(I)V"⟩, 40) := ⟨⟨by decide +kernel, by decide +kernel⟩, List.mem_of_getElem? (i := 515) (by decide +kernel), List.mem_of_getElem? (i := 733) (by decide +kernel), List.mem_of_getElem? (i := 734) (by decide +kernel)⟩
theorem lw_p51 : lw_okq (⟨"SegmentReaderModel", "any", "()V"⟩, 40) := ⟨⟨by decide +kernel, by decide +kernel⟩, List.mem_of_getElem? (i := 515) (by decide +kernel), List.mem_of_getElem? (i := 737) (by decide +kernel), List.mem_of_getElem? (i := 738) (by decide +kernel)⟩
theorem lw_p52 : lw_okq (⟨"SegmentReaderModel", "close", "(I)V"⟩, 40) := ⟨⟨by decide +kernel, by decide +kernel⟩, List.mem_of_getElem? (i := 515) (by decide +kernel), List.mem_of_getElem? (i := 741) (by decide +kernel), List.mem_of_getElem? (i := 742) (by decide +kernel)⟩
theorem lw_p53 : lw_okq (⟨"SegmentReaderModel", "keepScan", "()V"⟩, 40) := ⟨⟨by decide +kernel, by decide +kernel⟩, List.mem_of_getElem? (i := 515) (by decide +kernel), List.mem_of_getElem? (i := 745) (by decide +kernel), List.mem_of_getElem? (i := 746) (by decide +kernel)⟩
theorem lw_p54 : lw_okq (⟨"SegmentReaderModel", "readData", "(I)V"⟩, 40) := ⟨⟨by decide +kernel, by decide +kernel⟩, List.mem_of_getElem? (i := 515) (by decide +kernel), List.mem_of_getElem? (i := 749) (by decide +kernel), List.mem_of_getElem? (i := 750) (by decide +kernel)⟩
def lw_privs_4 : List (MethodName × Nat) := [(⟨"SegmentReaderModel", "named", "(I)I"⟩, 40), (⟨"SegmentReaderModel", "order", "(IZ)V"⟩, 40), (⟨"SegmentReaderModel", "needs", "(I)V"⟩, 40), (⟨"SegmentReaderModel", "any", "()V"⟩, 40), (⟨"SegmentReaderModel", "close", "(I)V"⟩, 40), (⟨"SegmentReaderModel", "keepScan", "()V"⟩, 40), (⟨"SegmentReaderModel", "readData", "(I)V"⟩, 40)]
theorem lw_r4 : ∀ q ∈ lw_privs_4, lw_okq q := List.forall_mem_cons.mpr ⟨lw_p48, List.forall_mem_cons.mpr ⟨lw_p49, List.forall_mem_cons.mpr ⟨lw_p50, List.forall_mem_cons.mpr ⟨lw_p51, List.forall_mem_cons.mpr ⟨lw_p52, List.forall_mem_cons.mpr ⟨lw_p53, List.forall_mem_cons.mpr ⟨lw_p54, fun _ h => absurd h List.not_mem_nil⟩⟩⟩⟩⟩⟩⟩
def lw_privs : List (MethodName × Nat) := lw_privs_1 ++ (lw_privs_2 ++ (lw_privs_3 ++ (lw_privs_4)))
def lw_tbl : List Cond := k2_sels lw_privs ++ tables_1
theorem lw_privs_ok : ∀ q ∈ lw_privs, lw_okq q := by
  show ∀ q ∈ lw_privs_1 ++ (lw_privs_2 ++ (lw_privs_3 ++ (lw_privs_4))), lw_okq q
  exact List.forall_mem_append.mpr ⟨lw_r1, List.forall_mem_append.mpr ⟨lw_r2, List.forall_mem_append.mpr ⟨lw_r3, lw_r4⟩⟩⟩
end
section
def R_Bytes : String := "SegmentReader$Bytes"
def T_Bytes : u_T := fun k => match k with
  | 0 => ("SegmentReader$Bytes", "held", "[B", false)
  | _ => ("SegmentReader$Bytes", "size", "I", false)
def ty_Bytes : Nat → FieldType := fun k => match k with
  | 0 => .array .byte
  | _ => .int
theorem nm_Bytes : ∀ a, a < 2 → ∀ b, b < 2 → a ≠ b → (T_Bytes a).2.1 ≠ (T_Bytes b).2.1 := by decide +kernel
theorem tyk_Bytes : ∀ k, k < 2 → parseFieldDescriptor (T_Bytes k).2.2.1 = some (ty_Bytes k) := by decide +kernel
def R_Numbers : String := "SegmentReader$Numbers"
def T_Numbers : u_T := fun k => match k with
  | 0 => ("SegmentReader$Numbers", "held", "[I", false)
  | _ => ("SegmentReader$Numbers", "size", "I", false)
def ty_Numbers : Nat → FieldType := fun k => match k with
  | 0 => .array .int
  | _ => .int
theorem nm_Numbers : ∀ a, a < 2 → ∀ b, b < 2 → a ≠ b → (T_Numbers a).2.1 ≠ (T_Numbers b).2.1 := by decide +kernel
theorem tyk_Numbers : ∀ k, k < 2 → parseFieldDescriptor (T_Numbers k).2.2.1 = some (ty_Numbers k) := by decide +kernel
def R_Parser : String := "SegmentReader$Parser"
def T_Parser : u_T := fun k => match k with
  | 0 => ("SegmentReader$Parser", "input", "LSegmentReader$Bytes;", true)
  | 1 => ("SegmentReader$Parser", "picture", "LSegmentReader$Picture;", true)
  | 2 => ("SegmentReader$Parser", "scan", "LSegmentReader$Scan;", true)
  | 3 => ("SegmentReader$Parser", "latestBits", "[I", true)
  | 4 => ("SegmentReader$Parser", "seen", "[J", true)
  | 5 => ("SegmentReader$Parser", "place", "I", false)
  | 6 => ("SegmentReader$Parser", "lengthPlace", "I", false)
  | 7 => ("SegmentReader$Parser", "contentsEnd", "I", false)
  | 8 => ("SegmentReader$Parser", "linesDue", "Z", false)
  | 9 => ("SegmentReader$Parser", "fault", "I", false)
  | _ => ("SegmentReader$Parser", "faultPlace", "I", false)
def ty_Parser : Nat → FieldType := fun k => match k with
  | 0 => .object "SegmentReader$Bytes"
  | 1 => .object "SegmentReader$Picture"
  | 2 => .object "SegmentReader$Scan"
  | 3 => .array .int
  | 4 => .array .long
  | 5 => .int
  | 6 => .int
  | 7 => .int
  | 8 => .boolean
  | 9 => .int
  | _ => .int
theorem nm_Parser : ∀ a, a < 11 → ∀ b, b < 11 → a ≠ b → (T_Parser a).2.1 ≠ (T_Parser b).2.1 := by decide +kernel
theorem tyk_Parser : ∀ k, k < 11 → parseFieldDescriptor (T_Parser k).2.2.1 = some (ty_Parser k) := by decide +kernel
def R_Picture : String := "SegmentReader$Picture"
def T_Picture : u_T := fun k => match k with
  | 0 => ("SegmentReader$Picture", "input", "LSegmentReader$Bytes;", true)
  | 1 => ("SegmentReader$Picture", "segments", "LSegmentReader$Numbers;", true)
  | 2 => ("SegmentReader$Picture", "scans", "LSegmentReader$Numbers;", true)
  | 3 => ("SegmentReader$Picture", "components", "[I", true)
  | 4 => ("SegmentReader$Picture", "quantisersAt", "[I", true)
  | 5 => ("SegmentReader$Picture", "wordsAt", "[I", true)
  | 6 => ("SegmentReader$Picture", "frameCode", "I", false)
  | 7 => ("SegmentReader$Picture", "width", "I", false)
  | 8 => ("SegmentReader$Picture", "height", "I", false)
  | 9 => ("SegmentReader$Picture", "componentCount", "I", false)
  | 10 => ("SegmentReader$Picture", "interval", "I", false)
  | _ => ("SegmentReader$Picture", "end", "I", false)
def ty_Picture : Nat → FieldType := fun k => match k with
  | 0 => .object "SegmentReader$Bytes"
  | 1 => .object "SegmentReader$Numbers"
  | 2 => .object "SegmentReader$Numbers"
  | 3 => .array .int
  | 4 => .array .int
  | 5 => .array .int
  | 6 => .int
  | 7 => .int
  | 8 => .int
  | 9 => .int
  | 10 => .int
  | _ => .int
theorem nm_Picture : ∀ a, a < 12 → ∀ b, b < 12 → a ≠ b → (T_Picture a).2.1 ≠ (T_Picture b).2.1 := by decide +kernel
theorem tyk_Picture : ∀ k, k < 12 → parseFieldDescriptor (T_Picture k).2.2.1 = some (ty_Picture k) := by decide +kernel
def R_Scan : String := "SegmentReader$Scan"
def T_Scan : u_T := fun k => match k with
  | 0 => ("SegmentReader$Scan", "contents", "I", false)
  | 1 => ("SegmentReader$Scan", "count", "I", false)
  | 2 => ("SegmentReader$Scan", "first", "I", false)
  | 3 => ("SegmentReader$Scan", "last", "I", false)
  | 4 => ("SegmentReader$Scan", "before", "I", false)
  | 5 => ("SegmentReader$Scan", "bits", "I", false)
  | _ => ("SegmentReader$Scan", "places", "[I", true)
def ty_Scan : Nat → FieldType := fun k => match k with
  | 0 => .int
  | 1 => .int
  | 2 => .int
  | 3 => .int
  | 4 => .int
  | 5 => .int
  | _ => .array .int
theorem nm_Scan : ∀ a, a < 7 → ∀ b, b < 7 → a ≠ b → (T_Scan a).2.1 ≠ (T_Scan b).2.1 := by decide +kernel
theorem tyk_Scan : ∀ k, k < 7 → parseFieldDescriptor (T_Scan k).2.2.1 = some (ty_Scan k) := by decide +kernel
def R_Reader : String := "SegmentReader"
def T_Reader : u_T := fun k => match k with
  | 0 => ("SegmentReader", "input", "LSegmentReader$Bytes;", true)
  | 1 => ("SegmentReader", "picture", "LSegmentReader$Picture;", true)
  | _ => ("SegmentReader", "parser", "LSegmentReader$Parser;", true)
def ty_Reader : Nat → FieldType := fun k => match k with
  | 0 => .object "SegmentReader$Bytes"
  | 1 => .object "SegmentReader$Picture"
  | _ => .object "SegmentReader$Parser"
theorem nm_Reader : ∀ a, a < 3 → ∀ b, b < 3 → a ≠ b → (T_Reader a).2.1 ≠ (T_Reader b).2.1 := by decide +kernel
theorem tyk_Reader : ∀ k, k < 3 → parseFieldDescriptor (T_Reader k).2.2.1 = some (ty_Reader k) := by decide +kernel
def R_Model : String := "SegmentReaderModel"
def T_Model : u_T := fun k => match k with
  | 0 => ("SegmentReaderModel", "thrown", "I", false)
  | 1 => ("SegmentReaderModel", "input", "[B", true)
  | 2 => ("SegmentReaderModel", "size", "I", false)
  | 3 => ("SegmentReaderModel", "fault", "I", false)
  | 4 => ("SegmentReaderModel", "place", "I", false)
  | 5 => ("SegmentReaderModel", "p", "I", false)
  | 6 => ("SegmentReaderModel", "end", "I", false)
  | 7 => ("SegmentReaderModel", "first", "I", false)
  | 8 => ("SegmentReaderModel", "ends", "I", false)
  | 9 => ("SegmentReaderModel", "segments", "I", false)
  | 10 => ("SegmentReaderModel", "segmentRows", "[I", true)
  | 11 => ("SegmentReaderModel", "frameCode", "I", false)
  | 12 => ("SegmentReaderModel", "width", "I", false)
  | 13 => ("SegmentReaderModel", "height", "I", false)
  | 14 => ("SegmentReaderModel", "components", "I", false)
  | 15 => ("SegmentReaderModel", "names", "[I", true)
  | 16 => ("SegmentReaderModel", "across", "[I", true)
  | 17 => ("SegmentReaderModel", "down", "[I", true)
  | 18 => ("SegmentReaderModel", "tables", "[I", true)
  | 19 => ("SegmentReaderModel", "interval", "I", false)
  | 20 => ("SegmentReaderModel", "hasQuantiser", "[Z", true)
  | 21 => ("SegmentReaderModel", "quantisers", "[I", true)
  | 22 => ("SegmentReaderModel", "hasWords", "[Z", true)
  | 23 => ("SegmentReaderModel", "counts", "[I", true)
  | 24 => ("SegmentReaderModel", "symbols", "[I", true)
  | 25 => ("SegmentReaderModel", "symbolMany", "[I", true)
  | 26 => ("SegmentReaderModel", "scans", "I", false)
  | 27 => ("SegmentReaderModel", "scanRows", "[I", true)
  | 28 => ("SegmentReaderModel", "latest", "[I", true)
  | 29 => ("SegmentReaderModel", "many", "I", false)
  | 30 => ("SegmentReaderModel", "which", "[I", true)
  | 31 => ("SegmentReaderModel", "dc", "[I", true)
  | 32 => ("SegmentReaderModel", "ac", "[I", true)
  | 33 => ("SegmentReaderModel", "nameAt", "[I", true)
  | 34 => ("SegmentReaderModel", "seen", "[Z", true)
  | 35 => ("SegmentReaderModel", "begins", "I", false)
  | 36 => ("SegmentReaderModel", "startScan", "I", false)
  | 37 => ("SegmentReaderModel", "endScan", "I", false)
  | 38 => ("SegmentReaderModel", "before", "I", false)
  | _ => ("SegmentReaderModel", "bits", "I", false)
def ty_Model : Nat → FieldType := fun k => match k with
  | 0 => .int
  | 1 => .array .byte
  | 2 => .int
  | 3 => .int
  | 4 => .int
  | 5 => .int
  | 6 => .int
  | 7 => .int
  | 8 => .int
  | 9 => .int
  | 10 => .array .int
  | 11 => .int
  | 12 => .int
  | 13 => .int
  | 14 => .int
  | 15 => .array .int
  | 16 => .array .int
  | 17 => .array .int
  | 18 => .array .int
  | 19 => .int
  | 20 => .array .boolean
  | 21 => .array .int
  | 22 => .array .boolean
  | 23 => .array .int
  | 24 => .array .int
  | 25 => .array .int
  | 26 => .int
  | 27 => .array .int
  | 28 => .array .int
  | 29 => .int
  | 30 => .array .int
  | 31 => .array .int
  | 32 => .array .int
  | 33 => .array .int
  | 34 => .array .boolean
  | 35 => .int
  | 36 => .int
  | 37 => .int
  | 38 => .int
  | _ => .int
theorem nm_Model : ∀ a, a < 40 → ∀ b, b < 40 → a ≠ b → (T_Model a).2.1 ≠ (T_Model b).2.1 := by decide +kernel
theorem tyk_Model : ∀ k, k < 40 → parseFieldDescriptor (T_Model k).2.2.1 = some (ty_Model k) := by decide +kernel
def R_Law : String := "SegmentReaderLaw"
abbrev vwCl : List vw_C := [(R_Bytes, T_Bytes, 2), (R_Numbers, T_Numbers, 2), (R_Parser, T_Parser, 11), (R_Picture, T_Picture, 12), (R_Scan, T_Scan, 7), (R_Reader, T_Reader, 3), (R_Model, T_Model, 40)]
abbrev c_Reader_init : ByteArray := prog_1_method_1_code
def y_Reader_init : MethodName := ⟨"SegmentReader", "<init>", "()V"⟩
abbrev w_Reader_init : List Cond := Cond.code y_Reader_init c_Reader_init 1 none :: lw_tbl
abbrev c_Bytes_init : ByteArray := prog_2_method_1_code
def y_Bytes_init : MethodName := ⟨"SegmentReader$Bytes", "<init>", "()V"⟩
abbrev w_Bytes_init : List Cond := Cond.code y_Bytes_init c_Bytes_init 1 none :: lw_tbl
abbrev c_Picture_init : ByteArray := prog_5_method_1_code
def y_Picture_init : MethodName := ⟨"SegmentReader$Picture", "<init>", "(LSegmentReader$Bytes;)V"⟩
abbrev w_Picture_init : List Cond := Cond.code y_Picture_init c_Picture_init 2 none :: lw_tbl
abbrev c_Numbers_init : ByteArray := prog_3_method_1_code
def y_Numbers_init : MethodName := ⟨"SegmentReader$Numbers", "<init>", "()V"⟩
abbrev w_Numbers_init : List Cond := Cond.code y_Numbers_init c_Numbers_init 1 none :: lw_tbl
abbrev c_Picture_clear : ByteArray := prog_5_method_2_code
def y_Picture_clear : MethodName := ⟨"SegmentReader$Picture", "clear", "()V"⟩
abbrev w_Picture_clear : List Cond := Cond.code y_Picture_clear c_Picture_clear 1 none :: lw_tbl
abbrev c_Arrays_fillI : ByteArray := prog_12_method_103_code
def y_Arrays_fillI : MethodName := ⟨"java/util/Arrays", "fill", "([II)V"⟩
abbrev w_Arrays_fillI : List Cond := Cond.code y_Arrays_fillI c_Arrays_fillI 4 none :: lw_tbl
abbrev c_Parser_init : ByteArray := prog_4_method_1_code
def y_Parser_init : MethodName := ⟨"SegmentReader$Parser", "<init>", "(LSegmentReader$Bytes;LSegmentReader$Picture;)V"⟩
abbrev w_Parser_init : List Cond := Cond.code y_Parser_init c_Parser_init 3 none :: lw_tbl
abbrev c_Scan_init : ByteArray := prog_6_method_1_code
def y_Scan_init : MethodName := ⟨"SegmentReader$Scan", "<init>", "()V"⟩
abbrev w_Scan_init : List Cond := Cond.code y_Scan_init c_Scan_init 1 none :: lw_tbl
abbrev c_Reader_give : ByteArray := prog_1_method_2_code
def y_Reader_give : MethodName := ⟨"SegmentReader", "give", "(JI)Z"⟩
abbrev w_Reader_give : List Cond := Cond.code y_Reader_give c_Reader_give 5 (some .boolean) :: lw_tbl
abbrev c_Bytes_add : ByteArray := prog_2_method_2_code
def y_Bytes_add : MethodName := ⟨"SegmentReader$Bytes", "add", "(I)V"⟩
abbrev w_Bytes_add : List Cond := Cond.code y_Bytes_add c_Bytes_add 2 none :: lw_tbl
abbrev c_Arrays_copyOfB : ByteArray := prog_12_method_121_code
def y_Arrays_copyOfB : MethodName := ⟨"java/util/Arrays", "copyOf", "([BI)[B"⟩
abbrev w_Arrays_copyOfB : List Cond := Cond.code y_Arrays_copyOfB c_Arrays_copyOfB 3 (some (.array .byte)) :: lw_tbl
abbrev c_Math_min : ByteArray := prog_10_method_69_code
def y_Math_min : MethodName := ⟨"java/lang/Math", "min", "(II)I"⟩
abbrev w_Math_min : List Cond := Cond.code y_Math_min c_Math_min 2 (some .int) :: lw_tbl
abbrev c_Parser_forget : ByteArray := prog_4_method_2_code
def y_Parser_forget : MethodName := ⟨"SegmentReader$Parser", "forget", "()V"⟩
abbrev w_Parser_forget : List Cond := Cond.code y_Parser_forget c_Parser_forget 1 none :: lw_tbl
abbrev c_Reader_wipe : ByteArray := prog_1_method_3_code
def y_Reader_wipe : MethodName := ⟨"SegmentReader", "wipe", "()V"⟩
abbrev w_Reader_wipe : List Cond := Cond.code y_Reader_wipe c_Reader_wipe 1 none :: lw_tbl
abbrev c_Reader_read : ByteArray := prog_1_method_4_code
def y_Reader_read : MethodName := ⟨"SegmentReader", "read", "()I"⟩
abbrev w_Reader_read : List Cond := Cond.code y_Reader_read c_Reader_read 2 (some .int) :: lw_tbl
abbrev c_Parser_begin : ByteArray := prog_4_method_3_code
def y_Parser_begin : MethodName := ⟨"SegmentReader$Parser", "begin", "()V"⟩
abbrev w_Parser_begin : List Cond := Cond.code y_Parser_begin c_Parser_begin 1 none :: lw_tbl
abbrev c_Bytes_at : ByteArray := prog_2_method_3_code
def y_Bytes_at : MethodName := ⟨"SegmentReader$Bytes", "at", "(I)I"⟩
abbrev w_Bytes_at : List Cond := Cond.code y_Bytes_at c_Bytes_at 2 (some .int) :: lw_tbl
abbrev c_Parser_fail : ByteArray := prog_4_method_6_code
def y_Parser_fail : MethodName := ⟨"SegmentReader$Parser", "fail", "(II)I"⟩
abbrev w_Parser_fail : List Cond := Cond.code y_Parser_fail c_Parser_fail 3 (some .int) :: lw_tbl
abbrev c_Parser_goesOn : ByteArray := prog_4_method_4_code
def y_Parser_goesOn : MethodName := ⟨"SegmentReader$Parser", "goesOn", "()Z"⟩
abbrev w_Parser_goesOn : List Cond := Cond.code y_Parser_goesOn c_Parser_goesOn 1 (some .boolean) :: lw_tbl
abbrev c_Parser_readNext : ByteArray := prog_4_method_7_code
def y_Parser_readNext : MethodName := ⟨"SegmentReader$Parser", "readNext", "()V"⟩
abbrev w_Parser_readNext : List Cond := Cond.code y_Parser_readNext c_Parser_readNext 3 none :: lw_tbl
abbrev c_Parser_takeMarker : ByteArray := prog_4_method_8_code
def y_Parser_takeMarker : MethodName := ⟨"SegmentReader$Parser", "takeMarker", "()I"⟩
abbrev w_Parser_takeMarker : List Cond := Cond.code y_Parser_takeMarker c_Parser_takeMarker 3 (some .int) :: lw_tbl
abbrev c_Parser_canStand : ByteArray := prog_4_method_9_code
def y_Parser_canStand : MethodName := ⟨"SegmentReader$Parser", "canStand", "(I)Z"⟩
abbrev w_Parser_canStand : List Cond := Cond.code y_Parser_canStand c_Parser_canStand 2 (some .boolean) :: lw_tbl
abbrev c_Parser_allBegun : ByteArray := prog_4_method_11_code
def y_Parser_allBegun : MethodName := ⟨"SegmentReader$Parser", "allBegun", "()Z"⟩
abbrev w_Parser_allBegun : List Cond := Cond.code y_Parser_allBegun c_Parser_allBegun 2 (some .boolean) :: lw_tbl
abbrev c_Parser_latestOf : ByteArray := prog_4_method_28_code
def y_Parser_latestOf : MethodName := ⟨"SegmentReader$Parser", "latestOf", "(II)I"⟩
abbrev w_Parser_latestOf : List Cond := Cond.code y_Parser_latestOf c_Parser_latestOf 4 (some .int) :: lw_tbl
abbrev c_Parser_isFree : ByteArray := prog_4_method_10_code
def y_Parser_isFree : MethodName := ⟨"SegmentReader$Parser", "isFree", "(I)Z"⟩
abbrev w_Parser_isFree : List Cond := Cond.code y_Parser_isFree c_Parser_isFree 2 (some .boolean) :: lw_tbl
abbrev c_Parser_takeLength : ByteArray := prog_4_method_12_code
def y_Parser_takeLength : MethodName := ⟨"SegmentReader$Parser", "takeLength", "()V"⟩
abbrev w_Parser_takeLength : List Cond := Cond.code y_Parser_takeLength c_Parser_takeLength 2 none :: lw_tbl
abbrev c_Parser_takePair : ByteArray := prog_4_method_16_code
def y_Parser_takePair : MethodName := ⟨"SegmentReader$Parser", "takePair", "(II)I"⟩
abbrev w_Parser_takePair : List Cond := Cond.code y_Parser_takePair c_Parser_takePair 6 (some .int) :: lw_tbl
abbrev c_Parser_take : ByteArray := prog_4_method_15_code
def y_Parser_take : MethodName := ⟨"SegmentReader$Parser", "take", "(II)I"⟩
abbrev w_Parser_take : List Cond := Cond.code y_Parser_take c_Parser_take 4 (some .int) :: lw_tbl
abbrev c_Parser_refuseTaken : ByteArray := prog_4_method_17_code
def y_Parser_refuseTaken : MethodName := ⟨"SegmentReader$Parser", "refuseTaken", "()V"⟩
abbrev w_Parser_refuseTaken : List Cond := Cond.code y_Parser_refuseTaken c_Parser_refuseTaken 1 none :: lw_tbl
abbrev c_Picture_addSegment : ByteArray := prog_5_method_5_code
def y_Picture_addSegment : MethodName := ⟨"SegmentReader$Picture", "addSegment", "(II)V"⟩
abbrev w_Picture_addSegment : List Cond := Cond.code y_Picture_addSegment c_Picture_addSegment 3 none :: lw_tbl
abbrev c_Numbers_add : ByteArray := prog_3_method_2_code
def y_Numbers_add : MethodName := ⟨"SegmentReader$Numbers", "add", "(I)V"⟩
abbrev w_Numbers_add : List Cond := Cond.code y_Numbers_add c_Numbers_add 2 none :: lw_tbl
abbrev c_Arrays_copyOfI : ByteArray := prog_12_method_123_code
def y_Arrays_copyOfI : MethodName := ⟨"java/util/Arrays", "copyOf", "([II)[I"⟩
abbrev w_Arrays_copyOfI : List Cond := Cond.code y_Arrays_copyOfI c_Arrays_copyOfI 3 (some (.array .int)) :: lw_tbl
abbrev c_Parser_readContents : ByteArray := prog_4_method_13_code
def y_Parser_readContents : MethodName := ⟨"SegmentReader$Parser", "readContents", "(I)V"⟩
abbrev w_Parser_readContents : List Cond := Cond.code y_Parser_readContents c_Parser_readContents 2 none :: lw_tbl
abbrev c_Parser_readQuantisers : ByteArray := prog_4_method_19_code
def y_Parser_readQuantisers : MethodName := ⟨"SegmentReader$Parser", "readQuantisers", "()V"⟩
abbrev w_Parser_readQuantisers : List Cond := Cond.code y_Parser_readQuantisers c_Parser_readQuantisers 6 none :: lw_tbl
abbrev c_Picture_setQuantisers : ByteArray := prog_5_method_18_code
def y_Picture_setQuantisers : MethodName := ⟨"SegmentReader$Picture", "setQuantisers", "(II)V"⟩
abbrev w_Picture_setQuantisers : List Cond := Cond.code y_Picture_setQuantisers c_Picture_setQuantisers 3 none :: lw_tbl
abbrev c_Parser_moreContents : ByteArray := prog_4_method_18_code
def y_Parser_moreContents : MethodName := ⟨"SegmentReader$Parser", "moreContents", "()Z"⟩
abbrev w_Parser_moreContents : List Cond := Cond.code y_Parser_moreContents c_Parser_moreContents 1 (some .boolean) :: lw_tbl
abbrev c_Parser_readWords : ByteArray := prog_4_method_20_code
def y_Parser_readWords : MethodName := ⟨"SegmentReader$Parser", "readWords", "()V"⟩
abbrev w_Parser_readWords : List Cond := Cond.code y_Parser_readWords c_Parser_readWords 6 none :: lw_tbl
abbrev c_Parser_takeCounts : ByteArray := prog_4_method_21_code
def y_Parser_takeCounts : MethodName := ⟨"SegmentReader$Parser", "takeCounts", "()I"⟩
abbrev w_Parser_takeCounts : List Cond := Cond.code y_Parser_takeCounts c_Parser_takeCounts 5 (some .int) :: lw_tbl
abbrev c_Parser_takeSymbols : ByteArray := prog_4_method_22_code
def y_Parser_takeSymbols : MethodName := ⟨"SegmentReader$Parser", "takeSymbols", "(II)V"⟩
abbrev w_Parser_takeSymbols : List Cond := Cond.code y_Parser_takeSymbols c_Parser_takeSymbols 8 none :: lw_tbl
abbrev c_Arrays_fillJ : ByteArray := prog_12_method_101_code
def y_Arrays_fillJ : MethodName := ⟨"java/util/Arrays", "fill", "([JJ)V"⟩
abbrev w_Arrays_fillJ : List Cond := Cond.code y_Arrays_fillJ c_Arrays_fillJ 5 none :: lw_tbl
abbrev c_Picture_setWords : ByteArray := prog_5_method_21_code
def y_Picture_setWords : MethodName := ⟨"SegmentReader$Picture", "setWords", "(II)V"⟩
abbrev w_Picture_setWords : List Cond := Cond.code y_Picture_setWords c_Picture_setWords 4 none :: lw_tbl
abbrev c_Picture_rowOfWords : ByteArray := prog_5_method_22_code
def y_Picture_rowOfWords : MethodName := ⟨"SegmentReader$Picture", "rowOfWords", "(I)I"⟩
abbrev w_Picture_rowOfWords : List Cond := Cond.code y_Picture_rowOfWords c_Picture_rowOfWords 2 (some .int) :: lw_tbl
abbrev c_Parser_readFrame : ByteArray := prog_4_method_23_code
def y_Parser_readFrame : MethodName := ⟨"SegmentReader$Parser", "readFrame", "(I)V"⟩
abbrev w_Parser_readFrame : List Cond := Cond.code y_Parser_readFrame c_Parser_readFrame 4 none :: lw_tbl
abbrev c_Parser_readComponent : ByteArray := prog_4_method_24_code
def y_Parser_readComponent : MethodName := ⟨"SegmentReader$Parser", "readComponent", "()V"⟩
abbrev w_Parser_readComponent : List Cond := Cond.code y_Parser_readComponent c_Parser_readComponent 5 none :: lw_tbl
abbrev c_Picture_placeOfName : ByteArray := prog_5_method_12_code
def y_Picture_placeOfName : MethodName := ⟨"SegmentReader$Picture", "placeOfName", "(I)I"⟩
abbrev w_Picture_placeOfName : List Cond := Cond.code y_Picture_placeOfName c_Picture_placeOfName 3 (some .int) :: lw_tbl
abbrev c_Picture_ofComponent : ByteArray := prog_5_method_11_code
def y_Picture_ofComponent : MethodName := ⟨"SegmentReader$Picture", "ofComponent", "(II)I"⟩
abbrev w_Picture_ofComponent : List Cond := Cond.code y_Picture_ofComponent c_Picture_ofComponent 3 (some .int) :: lw_tbl
abbrev c_Picture_addComponent : ByteArray := prog_5_method_7_code
def y_Picture_addComponent : MethodName := ⟨"SegmentReader$Picture", "addComponent", "(IIII)V"⟩
abbrev w_Picture_addComponent : List Cond := Cond.code y_Picture_addComponent c_Picture_addComponent 6 none :: lw_tbl
abbrev c_Parser_readScan : ByteArray := prog_4_method_25_code
def y_Parser_readScan : MethodName := ⟨"SegmentReader$Parser", "readScan", "()V"⟩
abbrev w_Parser_readScan : List Cond := Cond.code y_Parser_readScan c_Parser_readScan 1 none :: lw_tbl
abbrev c_Parser_takeScanComponents : ByteArray := prog_4_method_26_code
def y_Parser_takeScanComponents : MethodName := ⟨"SegmentReader$Parser", "takeScanComponents", "()V"⟩
abbrev w_Parser_takeScanComponents : List Cond := Cond.code y_Parser_takeScanComponents c_Parser_takeScanComponents 6 none :: lw_tbl
abbrev c_Parser_takeBits : ByteArray := prog_4_method_27_code
def y_Parser_takeBits : MethodName := ⟨"SegmentReader$Parser", "takeBits", "(I)V"⟩
abbrev w_Parser_takeBits : List Cond := Cond.code y_Parser_takeBits c_Parser_takeBits 3 none :: lw_tbl
abbrev c_Parser_checkSent : ByteArray := prog_4_method_29_code
def y_Parser_checkSent : MethodName := ⟨"SegmentReader$Parser", "checkSent", "()V"⟩
abbrev w_Parser_checkSent : List Cond := Cond.code y_Parser_checkSent c_Parser_checkSent 7 none :: lw_tbl
abbrev c_Scan_placeAt : ByteArray := prog_6_method_2_code
def y_Scan_placeAt : MethodName := ⟨"SegmentReader$Scan", "placeAt", "(I)I"⟩
abbrev w_Scan_placeAt : List Cond := Cond.code y_Scan_placeAt c_Scan_placeAt 2 (some .int) :: lw_tbl
abbrev c_Scan_nameAt : ByteArray := prog_6_method_3_code
def y_Scan_nameAt : MethodName := ⟨"SegmentReader$Scan", "nameAt", "(I)I"⟩
abbrev w_Scan_nameAt : List Cond := Cond.code y_Scan_nameAt c_Scan_nameAt 2 (some .int) :: lw_tbl
abbrev c_Parser_checkTables : ByteArray := prog_4_method_30_code
def y_Parser_checkTables : MethodName := ⟨"SegmentReader$Parser", "checkTables", "()V"⟩
abbrev w_Parser_checkTables : List Cond := Cond.code y_Parser_checkTables c_Parser_checkTables 5 none :: lw_tbl
abbrev c_Picture_hasQuantisers : ByteArray := prog_5_method_17_code
def y_Picture_hasQuantisers : MethodName := ⟨"SegmentReader$Picture", "hasQuantisers", "(I)Z"⟩
abbrev w_Picture_hasQuantisers : List Cond := Cond.code y_Picture_hasQuantisers c_Picture_hasQuantisers 2 (some .boolean) :: lw_tbl
abbrev c_Picture_placeOfWords : ByteArray := prog_5_method_20_code
def y_Picture_placeOfWords : MethodName := ⟨"SegmentReader$Picture", "placeOfWords", "(I)I"⟩
abbrev w_Picture_placeOfWords : List Cond := Cond.code y_Picture_placeOfWords c_Picture_placeOfWords 3 (some .int) :: lw_tbl
abbrev c_Parser_noteSent : ByteArray := prog_4_method_31_code
def y_Parser_noteSent : MethodName := ⟨"SegmentReader$Parser", "noteSent", "()V"⟩
abbrev w_Parser_noteSent : List Cond := Cond.code y_Parser_noteSent c_Parser_noteSent 5 none :: lw_tbl
abbrev c_Parser_skipContents : ByteArray := prog_4_method_14_code
def y_Parser_skipContents : MethodName := ⟨"SegmentReader$Parser", "skipContents", "()V"⟩
abbrev w_Parser_skipContents : List Cond := Cond.code y_Parser_skipContents c_Parser_skipContents 1 none :: lw_tbl
abbrev c_Parser_readData : ByteArray := prog_4_method_32_code
def y_Parser_readData : MethodName := ⟨"SegmentReader$Parser", "readData", "()V"⟩
abbrev w_Parser_readData : List Cond := Cond.code y_Parser_readData c_Parser_readData 5 none :: lw_tbl
abbrev c_Parser_endData : ByteArray := prog_4_method_33_code
def y_Parser_endData : MethodName := ⟨"SegmentReader$Parser", "endData", "(III)V"⟩
abbrev w_Parser_endData : List Cond := Cond.code y_Parser_endData c_Parser_endData 4 none :: lw_tbl
abbrev c_Picture_scanCount : ByteArray := prog_5_method_4_code
def y_Picture_scanCount : MethodName := ⟨"SegmentReader$Picture", "scanCount", "()I"⟩
abbrev w_Picture_scanCount : List Cond := Cond.code y_Picture_scanCount c_Picture_scanCount 1 (some .int) :: lw_tbl
abbrev c_Picture_addScan : ByteArray := prog_5_method_6_code
def y_Picture_addScan : MethodName := ⟨"SegmentReader$Picture", "addScan", "(IIII)V"⟩
abbrev w_Picture_addScan : List Cond := Cond.code y_Picture_addScan c_Picture_addScan 5 none :: lw_tbl
abbrev c_Parser_finish : ByteArray := prog_4_method_5_code
def y_Parser_finish : MethodName := ⟨"SegmentReader$Parser", "finish", "()I"⟩
abbrev w_Parser_finish : List Cond := Cond.code y_Parser_finish c_Parser_finish 1 (some .int) :: lw_tbl
abbrev c_Reader_segment : ByteArray := prog_1_method_5_code
def y_Reader_segment : MethodName := ⟨"SegmentReader", "segment", "(II)I"⟩
abbrev w_Reader_segment : List Cond := Cond.code y_Reader_segment c_Reader_segment 3 (some .int) :: lw_tbl
abbrev c_Picture_ofSegment : ByteArray := prog_5_method_8_code
def y_Picture_ofSegment : MethodName := ⟨"SegmentReader$Picture", "ofSegment", "(II)I"⟩
abbrev w_Picture_ofSegment : List Cond := Cond.code y_Picture_ofSegment c_Picture_ofSegment 4 (some .int) :: lw_tbl
abbrev c_Picture_segmentCount : ByteArray := prog_5_method_3_code
def y_Picture_segmentCount : MethodName := ⟨"SegmentReader$Picture", "segmentCount", "()I"⟩
abbrev w_Picture_segmentCount : List Cond := Cond.code y_Picture_segmentCount c_Picture_segmentCount 1 (some .int) :: lw_tbl
abbrev c_Numbers_at : ByteArray := prog_3_method_3_code
def y_Numbers_at : MethodName := ⟨"SegmentReader$Numbers", "at", "(I)I"⟩
abbrev w_Numbers_at : List Cond := Cond.code y_Numbers_at c_Numbers_at 2 (some .int) :: lw_tbl
abbrev c_Reader_frame : ByteArray := prog_1_method_6_code
def y_Reader_frame : MethodName := ⟨"SegmentReader", "frame", "(I)I"⟩
abbrev w_Reader_frame : List Cond := Cond.code y_Reader_frame c_Reader_frame 2 (some .int) :: lw_tbl
abbrev c_Picture_ofFrame : ByteArray := prog_5_method_9_code
def y_Picture_ofFrame : MethodName := ⟨"SegmentReader$Picture", "ofFrame", "(I)I"⟩
abbrev w_Picture_ofFrame : List Cond := Cond.code y_Picture_ofFrame c_Picture_ofFrame 2 (some .int) :: lw_tbl
abbrev c_Picture_greatest : ByteArray := prog_5_method_10_code
def y_Picture_greatest : MethodName := ⟨"SegmentReader$Picture", "greatest", "(I)I"⟩
abbrev w_Picture_greatest : List Cond := Cond.code y_Picture_greatest c_Picture_greatest 4 (some .int) :: lw_tbl
abbrev c_Math_max : ByteArray := prog_10_method_65_code
def y_Math_max : MethodName := ⟨"java/lang/Math", "max", "(II)I"⟩
abbrev w_Math_max : List Cond := Cond.code y_Math_max c_Math_max 2 (some .int) :: lw_tbl
abbrev c_Reader_component : ByteArray := prog_1_method_7_code
def y_Reader_component : MethodName := ⟨"SegmentReader", "component", "(II)I"⟩
abbrev w_Reader_component : List Cond := Cond.code y_Reader_component c_Reader_component 3 (some .int) :: lw_tbl
abbrev c_Reader_scan : ByteArray := prog_1_method_8_code
def y_Reader_scan : MethodName := ⟨"SegmentReader", "scan", "(II)I"⟩
abbrev w_Reader_scan : List Cond := Cond.code y_Reader_scan c_Reader_scan 3 (some .int) :: lw_tbl
abbrev c_Picture_ofScan : ByteArray := prog_5_method_13_code
def y_Picture_ofScan : MethodName := ⟨"SegmentReader$Picture", "ofScan", "(II)I"⟩
abbrev w_Picture_ofScan : List Cond := Cond.code y_Picture_ofScan c_Picture_ofScan 7 (some .int) :: lw_tbl
abbrev c_Picture_ofScanComponent : ByteArray := prog_5_method_14_code
def y_Picture_ofScanComponent : MethodName := ⟨"SegmentReader$Picture", "ofScanComponent", "(III)I"⟩
abbrev w_Picture_ofScanComponent : List Cond := Cond.code y_Picture_ofScanComponent c_Picture_ofScanComponent 6 (some .int) :: lw_tbl
abbrev c_Reader_data : ByteArray := prog_1_method_9_code
def y_Reader_data : MethodName := ⟨"SegmentReader", "data", "(II)I"⟩
abbrev w_Reader_data : List Cond := Cond.code y_Reader_data c_Reader_data 3 (some .int) :: lw_tbl
abbrev c_Picture_dataByte : ByteArray := prog_5_method_15_code
def y_Picture_dataByte : MethodName := ⟨"SegmentReader$Picture", "dataByte", "(II)I"⟩
abbrev w_Picture_dataByte : List Cond := Cond.code y_Picture_dataByte c_Picture_dataByte 8 (some .int) :: lw_tbl
abbrev c_Reader_quantiser : ByteArray := prog_1_method_10_code
def y_Reader_quantiser : MethodName := ⟨"SegmentReader", "quantiser", "(II)I"⟩
abbrev w_Reader_quantiser : List Cond := Cond.code y_Reader_quantiser c_Reader_quantiser 3 (some .int) :: lw_tbl
abbrev c_Picture_quantiserValue : ByteArray := prog_5_method_16_code
def y_Picture_quantiserValue : MethodName := ⟨"SegmentReader$Picture", "quantiserValue", "(II)I"⟩
abbrev w_Picture_quantiserValue : List Cond := Cond.code y_Picture_quantiserValue c_Picture_quantiserValue 3 (some .int) :: lw_tbl
abbrev c_Reader_word : ByteArray := prog_1_method_11_code
def y_Reader_word : MethodName := ⟨"SegmentReader", "word", "(III)I"⟩
abbrev w_Reader_word : List Cond := Cond.code y_Reader_word c_Reader_word 4 (some .int) :: lw_tbl
abbrev c_Picture_ofWords : ByteArray := prog_5_method_19_code
def y_Picture_ofWords : MethodName := ⟨"SegmentReader$Picture", "ofWords", "(III)I"⟩
abbrev w_Picture_ofWords : List Cond := Cond.code y_Picture_ofWords c_Picture_ofWords 5 (some .int) :: lw_tbl
abbrev c_Picture_wordCount : ByteArray := prog_5_method_23_code
def y_Picture_wordCount : MethodName := ⟨"SegmentReader$Picture", "wordCount", "(I)I"⟩
abbrev w_Picture_wordCount : List Cond := Cond.code y_Picture_wordCount c_Picture_wordCount 4 (some .int) :: lw_tbl
abbrev c_Reader_look : ByteArray := prog_1_method_12_code
def y_Reader_look : MethodName := ⟨"SegmentReader", "look", "(I)I"⟩
abbrev w_Reader_look : List Cond := Cond.code y_Reader_look c_Reader_look 2 (some .int) :: lw_tbl
abbrev c_Model_init : ByteArray := prog_8_method_1_code
def y_Model_init : MethodName := ⟨"SegmentReaderModel", "<init>", "()V"⟩
abbrev w_Model_init : List Cond := Cond.code y_Model_init c_Model_init 1 none :: lw_tbl
abbrev c_Model_forget : ByteArray := prog_8_method_3_code
def y_Model_forget : MethodName := ⟨"SegmentReaderModel", "forget", "()V"⟩
abbrev w_Model_forget : List Cond := Cond.code y_Model_forget c_Model_forget 2 none :: lw_tbl
abbrev c_Model_give : ByteArray := prog_8_method_4_code
def y_Model_give : MethodName := ⟨"SegmentReaderModel", "give", "(JI)Z"⟩
abbrev w_Model_give : List Cond := Cond.code y_Model_give c_Model_give 5 (some .boolean) :: lw_tbl
abbrev c_Model_wipe : ByteArray := prog_8_method_5_code
def y_Model_wipe : MethodName := ⟨"SegmentReaderModel", "wipe", "()V"⟩
abbrev w_Model_wipe : List Cond := Cond.code y_Model_wipe c_Model_wipe 1 none :: lw_tbl
abbrev c_Model_read : ByteArray := prog_8_method_29_code
def y_Model_read : MethodName := ⟨"SegmentReaderModel", "read", "()I"⟩
abbrev w_Model_read : List Cond := Cond.code y_Model_read c_Model_read 1 (some .int) :: lw_tbl
abbrev c_Model_readFile : ByteArray := prog_8_method_27_code
def y_Model_readFile : MethodName := ⟨"SegmentReaderModel", "readFile", "()V"⟩
abbrev w_Model_readFile : List Cond := Cond.code y_Model_readFile c_Model_readFile 9 none :: lw_tbl
abbrev c_Model_next : ByteArray := prog_8_method_8_code
def y_Model_next : MethodName := ⟨"SegmentReaderModel", "next", "()I"⟩
abbrev w_Model_next : List Cond := Cond.code y_Model_next c_Model_next 1 (some .int) :: lw_tbl
abbrev c_Model_lengthAt : ByteArray := prog_8_method_11_code
def y_Model_lengthAt : MethodName := ⟨"SegmentReaderModel", "lengthAt", "()I"⟩
abbrev w_Model_lengthAt : List Cond := Cond.code y_Model_lengthAt c_Model_lengthAt 1 (some .int) :: lw_tbl
abbrev c_Model_wrong : ByteArray := prog_8_method_6_code
def y_Model_wrong : MethodName := ⟨"SegmentReaderModel", "wrong", "(II)I"⟩
abbrev w_Model_wrong : List Cond := Cond.code y_Model_wrong c_Model_wrong 3 (some .int) :: lw_tbl
abbrev c_Model_byteAt : ByteArray := prog_8_method_7_code
def y_Model_byteAt : MethodName := ⟨"SegmentReaderModel", "byteAt", "(I)I"⟩
abbrev w_Model_byteAt : List Cond := Cond.code y_Model_byteAt c_Model_byteAt 2 (some .int) :: lw_tbl
abbrev c_Model_marker : ByteArray := prog_8_method_12_code
def y_Model_marker : MethodName := ⟨"SegmentReaderModel", "marker", "()I"⟩
abbrev w_Model_marker : List Cond := Cond.code y_Model_marker c_Model_marker 2 (some .int) :: lw_tbl
abbrev c_Model_isSent : ByteArray := prog_8_method_26_code
def y_Model_isSent : MethodName := ⟨"SegmentReaderModel", "isSent", "()Z"⟩
abbrev w_Model_isSent : List Cond := Cond.code y_Model_isSent c_Model_isSent 3 (some .boolean) :: lw_tbl
abbrev c_Model_segment1 : ByteArray := prog_8_method_28_code
def y_Model_segment1 : MethodName := ⟨"SegmentReaderModel", "segment", "(I)Z"⟩
abbrev w_Model_segment1 : List Cond := Cond.code y_Model_segment1 c_Model_segment1 3 (some .boolean) :: lw_tbl
abbrev c_Model_open : ByteArray := prog_8_method_13_code
def y_Model_open : MethodName := ⟨"SegmentReaderModel", "open", "()V"⟩
abbrev w_Model_open : List Cond := Cond.code y_Model_open c_Model_open 3 none :: lw_tbl
abbrev c_Model_two : ByteArray := prog_8_method_9_code
def y_Model_two : MethodName := ⟨"SegmentReaderModel", "two", "()I"⟩
abbrev w_Model_two : List Cond := Cond.code y_Model_two c_Model_two 2 (some .int) :: lw_tbl
abbrev c_Model_readQuantisers : ByteArray := prog_8_method_16_code
def y_Model_readQuantisers : MethodName := ⟨"SegmentReaderModel", "readQuantisers", "()V"⟩
abbrev w_Model_readQuantisers : List Cond := Cond.code y_Model_readQuantisers c_Model_readQuantisers 5 none :: lw_tbl
abbrev c_Model_must : ByteArray := prog_8_method_10_code
def y_Model_must : MethodName := ⟨"SegmentReaderModel", "must", "(Z)V"⟩
abbrev w_Model_must : List Cond := Cond.code y_Model_must c_Model_must 3 none :: lw_tbl
abbrev c_Model_readWords : ByteArray := prog_8_method_17_code
def y_Model_readWords : MethodName := ⟨"SegmentReaderModel", "readWords", "()V"⟩
abbrev w_Model_readWords : List Cond := Cond.code y_Model_readWords c_Model_readWords 4 none :: lw_tbl
abbrev c_Model_readTable : ByteArray := prog_8_method_18_code
def y_Model_readTable : MethodName := ⟨"SegmentReaderModel", "readTable", "(I)V"⟩
abbrev w_Model_readTable : List Cond := Cond.code y_Model_readTable c_Model_readTable 7 none :: lw_tbl
abbrev c_Model_readFrame : ByteArray := prog_8_method_19_code
def y_Model_readFrame : MethodName := ⟨"SegmentReaderModel", "readFrame", "(I)V"⟩
abbrev w_Model_readFrame : List Cond := Cond.code y_Model_readFrame c_Model_readFrame 6 none :: lw_tbl
abbrev c_Model_readScan : ByteArray := prog_8_method_21_code
def y_Model_readScan : MethodName := ⟨"SegmentReaderModel", "readScan", "()V"⟩
abbrev w_Model_readScan : List Cond := Cond.code y_Model_readScan c_Model_readScan 6 none :: lw_tbl
abbrev c_Model_named : ByteArray := prog_8_method_20_code
def y_Model_named : MethodName := ⟨"SegmentReaderModel", "named", "(I)I"⟩
abbrev w_Model_named : List Cond := Cond.code y_Model_named c_Model_named 4 (some .int) :: lw_tbl
abbrev c_Model_order : ByteArray := prog_8_method_22_code
def y_Model_order : MethodName := ⟨"SegmentReaderModel", "order", "(IZ)V"⟩
abbrev w_Model_order : List Cond := Cond.code y_Model_order c_Model_order 7 none :: lw_tbl
abbrev c_Model_needs : ByteArray := prog_8_method_23_code
def y_Model_needs : MethodName := ⟨"SegmentReaderModel", "needs", "(I)V"⟩
abbrev w_Model_needs : List Cond := Cond.code y_Model_needs c_Model_needs 4 none :: lw_tbl
abbrev c_Model_any : ByteArray := prog_8_method_15_code
def y_Model_any : MethodName := ⟨"SegmentReaderModel", "any", "()V"⟩
abbrev w_Model_any : List Cond := Cond.code y_Model_any c_Model_any 2 none :: lw_tbl
abbrev c_Model_close : ByteArray := prog_8_method_14_code
def y_Model_close : MethodName := ⟨"SegmentReaderModel", "close", "(I)V"⟩
abbrev w_Model_close : List Cond := Cond.code y_Model_close c_Model_close 3 none :: lw_tbl
abbrev c_Model_keepScan : ByteArray := prog_8_method_24_code
def y_Model_keepScan : MethodName := ⟨"SegmentReaderModel", "keepScan", "()V"⟩
abbrev w_Model_keepScan : List Cond := Cond.code y_Model_keepScan c_Model_keepScan 4 none :: lw_tbl
abbrev c_Model_readData : ByteArray := prog_8_method_25_code
def y_Model_readData : MethodName := ⟨"SegmentReaderModel", "readData", "(I)V"⟩
abbrev w_Model_readData : List Cond := Cond.code y_Model_readData c_Model_readData 8 none :: lw_tbl
abbrev c_Model_segment : ByteArray := prog_8_method_30_code
def y_Model_segment : MethodName := ⟨"SegmentReaderModel", "segment", "(II)I"⟩
abbrev w_Model_segment : List Cond := Cond.code y_Model_segment c_Model_segment 3 (some .int) :: lw_tbl
abbrev c_Model_frame : ByteArray := prog_8_method_31_code
def y_Model_frame : MethodName := ⟨"SegmentReaderModel", "frame", "(I)I"⟩
abbrev w_Model_frame : List Cond := Cond.code y_Model_frame c_Model_frame 5 (some .int) :: lw_tbl
abbrev c_Model_component : ByteArray := prog_8_method_32_code
def y_Model_component : MethodName := ⟨"SegmentReaderModel", "component", "(II)I"⟩
abbrev w_Model_component : List Cond := Cond.code y_Model_component c_Model_component 3 (some .int) :: lw_tbl
abbrev c_Model_scan : ByteArray := prog_8_method_33_code
def y_Model_scan : MethodName := ⟨"SegmentReaderModel", "scan", "(II)I"⟩
abbrev w_Model_scan : List Cond := Cond.code y_Model_scan c_Model_scan 4 (some .int) :: lw_tbl
abbrev c_Model_data : ByteArray := prog_8_method_34_code
def y_Model_data : MethodName := ⟨"SegmentReaderModel", "data", "(II)I"⟩
abbrev w_Model_data : List Cond := Cond.code y_Model_data c_Model_data 8 (some .int) :: lw_tbl
abbrev c_Model_quantiser : ByteArray := prog_8_method_35_code
def y_Model_quantiser : MethodName := ⟨"SegmentReaderModel", "quantiser", "(II)I"⟩
abbrev w_Model_quantiser : List Cond := Cond.code y_Model_quantiser c_Model_quantiser 4 (some .int) :: lw_tbl
abbrev c_Model_word : ByteArray := prog_8_method_36_code
def y_Model_word : MethodName := ⟨"SegmentReaderModel", "word", "(III)I"⟩
abbrev w_Model_word : List Cond := Cond.code y_Model_word c_Model_word 6 (some .int) :: lw_tbl
abbrev c_Model_look : ByteArray := prog_8_method_37_code
def y_Model_look : MethodName := ⟨"SegmentReaderModel", "look", "(I)I"⟩
abbrev w_Model_look : List Cond := Cond.code y_Model_look c_Model_look 2 (some .int) :: lw_tbl
end
section
theorem aw_good : lw_tbl.all goodWord = true := by decide +kernel
theorem mm {w c : Cond} (h : w ∈ lw_tbl) : w ∈ c :: lw_tbl := List.mem_cons_of_mem _ h
theorem aw_sub {Ts ex : List Cond} {cd : Cond} (hs : ∀ w ∈ lw_tbl, w ∈ Ts) (hx : ∀ w ∈ ex, w ∈ lw_tbl) (hc : cd ∈ lw_tbl) : GoodIn Ts (ex ++ (cd :: lw_tbl)) := by
  intro w hw
  have h : w ∈ lw_tbl := by
    rcases List.mem_append.mp hw with h | h
    · exact hx w h
    · rcases List.mem_cons.mp h with h | h
      · rw [h]; exact hc
      · exact h
  exact ⟨hs w h, good_of_word (List.all_eq_true.mp aw_good w h)⟩
theorem aw_V {Ts : List Cond} {own C : String} {idx : Nat} {y : MethodName} {cd : Cond} (hs : ∀ w ∈ lw_tbl, w ∈ Ts) (h1 : Cond.methodLink own idx y ∈ lw_tbl) (h2 : Cond.instanceMethod y ∈ lw_tbl) (h3 : Cond.selects C y y ∈ lw_tbl) (h4 : Cond.initialized C ∈ lw_tbl) (hc : cd ∈ lw_tbl) : GoodIn Ts (wsV own idx C y (cd :: lw_tbl)) := aw_sub hs (List.forall_mem_cons.mpr ⟨h1, List.forall_mem_cons.mpr ⟨h2, List.forall_mem_cons.mpr ⟨h3, List.forall_mem_cons.mpr ⟨h4, fun _ h => absurd h List.not_mem_nil⟩⟩⟩⟩) hc
theorem aw_S {Ts : List Cond} {own : String} {idx : Nat} {y : MethodName} {cd : Cond} (hs : ∀ w ∈ lw_tbl, w ∈ Ts) (h1 : Cond.methodLink own idx y ∈ lw_tbl) (h2 : Cond.static y ∈ lw_tbl) (h4 : Cond.initialized y.cls ∈ lw_tbl) (hc : cd ∈ lw_tbl) : GoodIn Ts (va_wsS own idx y (cd :: lw_tbl)) := aw_sub hs (List.forall_mem_cons.mpr ⟨h1, List.forall_mem_cons.mpr ⟨h2, List.forall_mem_cons.mpr ⟨h4, fun _ h => absurd h List.not_mem_nil⟩⟩⟩) hc
theorem aw_I {Ts : List Cond} {cd : Cond} (hs : ∀ w ∈ lw_tbl, w ∈ Ts) (hc : cd ∈ lw_tbl) : GoodIn Ts (cd :: lw_tbl) := aw_sub (ex := []) hs (fun _ h => absurd h List.not_mem_nil) hc
theorem in_Bytes : ∀ w ∈ u_ws R_Bytes T_Bytes 2, w ∈ lw_tbl := by decide +kernel
theorem in_Numbers : ∀ w ∈ u_ws R_Numbers T_Numbers 2, w ∈ lw_tbl := by decide +kernel
theorem in_Parser : ∀ w ∈ u_ws R_Parser T_Parser 11, w ∈ lw_tbl := by decide +kernel
theorem in_Picture : ∀ w ∈ u_ws R_Picture T_Picture 12, w ∈ lw_tbl := by decide +kernel
theorem in_Scan : ∀ w ∈ u_ws R_Scan T_Scan 7, w ∈ lw_tbl := by decide +kernel
theorem in_Reader : ∀ w ∈ u_ws R_Reader T_Reader 3, w ∈ lw_tbl := by decide +kernel
theorem in_Model : ∀ w ∈ u_ws R_Model T_Model 40, w ∈ lw_tbl := by decide +kernel
theorem k_se_Parser_fail : Cond.selects "SegmentReader$Parser" y_Parser_fail y_Parser_fail ∈ lw_tbl := List.mem_of_getElem? (i := 0) (by decide +kernel)
theorem k_se_Parser_takeMarker : Cond.selects "SegmentReader$Parser" y_Parser_takeMarker y_Parser_takeMarker ∈ lw_tbl := List.mem_of_getElem? (i := 1) (by decide +kernel)
theorem k_se_Parser_canStand : Cond.selects "SegmentReader$Parser" y_Parser_canStand y_Parser_canStand ∈ lw_tbl := List.mem_of_getElem? (i := 2) (by decide +kernel)
theorem k_se_Parser_allBegun : Cond.selects "SegmentReader$Parser" y_Parser_allBegun y_Parser_allBegun ∈ lw_tbl := List.mem_of_getElem? (i := 3) (by decide +kernel)
theorem k_se_Parser_latestOf : Cond.selects "SegmentReader$Parser" y_Parser_latestOf y_Parser_latestOf ∈ lw_tbl := List.mem_of_getElem? (i := 4) (by decide +kernel)
theorem k_se_Parser_isFree : Cond.selects "SegmentReader$Parser" y_Parser_isFree y_Parser_isFree ∈ lw_tbl := List.mem_of_getElem? (i := 5) (by decide +kernel)
theorem k_se_Parser_takeLength : Cond.selects "SegmentReader$Parser" y_Parser_takeLength y_Parser_takeLength ∈ lw_tbl := List.mem_of_getElem? (i := 6) (by decide +kernel)
theorem k_se_Parser_takePair : Cond.selects "SegmentReader$Parser" y_Parser_takePair y_Parser_takePair ∈ lw_tbl := List.mem_of_getElem? (i := 7) (by decide +kernel)
theorem k_se_Parser_take : Cond.selects "SegmentReader$Parser" y_Parser_take y_Parser_take ∈ lw_tbl := List.mem_of_getElem? (i := 8) (by decide +kernel)
theorem k_se_Parser_refuseTaken : Cond.selects "SegmentReader$Parser" y_Parser_refuseTaken y_Parser_refuseTaken ∈ lw_tbl := List.mem_of_getElem? (i := 9) (by decide +kernel)
theorem k_se_Parser_readContents : Cond.selects "SegmentReader$Parser" y_Parser_readContents y_Parser_readContents ∈ lw_tbl := List.mem_of_getElem? (i := 10) (by decide +kernel)
theorem k_se_Parser_readQuantisers : Cond.selects "SegmentReader$Parser" y_Parser_readQuantisers y_Parser_readQuantisers ∈ lw_tbl := List.mem_of_getElem? (i := 11) (by decide +kernel)
theorem k_se_Parser_moreContents : Cond.selects "SegmentReader$Parser" y_Parser_moreContents y_Parser_moreContents ∈ lw_tbl := List.mem_of_getElem? (i := 12) (by decide +kernel)
theorem k_se_Parser_readWords : Cond.selects "SegmentReader$Parser" y_Parser_readWords y_Parser_readWords ∈ lw_tbl := List.mem_of_getElem? (i := 13) (by decide +kernel)
theorem k_se_Parser_takeCounts : Cond.selects "SegmentReader$Parser" y_Parser_takeCounts y_Parser_takeCounts ∈ lw_tbl := List.mem_of_getElem? (i := 14) (by decide +kernel)
theorem k_se_Parser_takeSymbols : Cond.selects "SegmentReader$Parser" y_Parser_takeSymbols y_Parser_takeSymbols ∈ lw_tbl := List.mem_of_getElem? (i := 15) (by decide +kernel)
theorem k_se_Picture_rowOfWords : Cond.selects "SegmentReader$Picture" y_Picture_rowOfWords y_Picture_rowOfWords ∈ lw_tbl := List.mem_of_getElem? (i := 16) (by decide +kernel)
theorem k_se_Parser_readFrame : Cond.selects "SegmentReader$Parser" y_Parser_readFrame y_Parser_readFrame ∈ lw_tbl := List.mem_of_getElem? (i := 17) (by decide +kernel)
theorem k_se_Parser_readComponent : Cond.selects "SegmentReader$Parser" y_Parser_readComponent y_Parser_readComponent ∈ lw_tbl := List.mem_of_getElem? (i := 18) (by decide +kernel)
theorem k_se_Parser_readScan : Cond.selects "SegmentReader$Parser" y_Parser_readScan y_Parser_readScan ∈ lw_tbl := List.mem_of_getElem? (i := 19) (by decide +kernel)
theorem k_se_Parser_takeScanComponents : Cond.selects "SegmentReader$Parser" y_Parser_takeScanComponents y_Parser_takeScanComponents ∈ lw_tbl := List.mem_of_getElem? (i := 20) (by decide +kernel)
theorem k_se_Parser_takeBits : Cond.selects "SegmentReader$Parser" y_Parser_takeBits y_Parser_takeBits ∈ lw_tbl := List.mem_of_getElem? (i := 21) (by decide +kernel)
theorem k_se_Parser_checkSent : Cond.selects "SegmentReader$Parser" y_Parser_checkSent y_Parser_checkSent ∈ lw_tbl := List.mem_of_getElem? (i := 22) (by decide +kernel)
theorem k_se_Parser_checkTables : Cond.selects "SegmentReader$Parser" y_Parser_checkTables y_Parser_checkTables ∈ lw_tbl := List.mem_of_getElem? (i := 23) (by decide +kernel)
theorem k_se_Parser_noteSent : Cond.selects "SegmentReader$Parser" y_Parser_noteSent y_Parser_noteSent ∈ lw_tbl := List.mem_of_getElem? (i := 24) (by decide +kernel)
theorem k_se_Parser_skipContents : Cond.selects "SegmentReader$Parser" y_Parser_skipContents y_Parser_skipContents ∈ lw_tbl := List.mem_of_getElem? (i := 25) (by decide +kernel)
theorem k_se_Parser_readData : Cond.selects "SegmentReader$Parser" y_Parser_readData y_Parser_readData ∈ lw_tbl := List.mem_of_getElem? (i := 26) (by decide +kernel)
theorem k_se_Parser_endData : Cond.selects "SegmentReader$Parser" y_Parser_endData y_Parser_endData ∈ lw_tbl := List.mem_of_getElem? (i := 27) (by decide +kernel)
theorem k_se_Picture_greatest : Cond.selects "SegmentReader$Picture" y_Picture_greatest y_Picture_greatest ∈ lw_tbl := List.mem_of_getElem? (i := 28) (by decide +kernel)
theorem k_se_Picture_ofScanComponent : Cond.selects "SegmentReader$Picture" y_Picture_ofScanComponent y_Picture_ofScanComponent ∈ lw_tbl := List.mem_of_getElem? (i := 29) (by decide +kernel)
theorem k_se_Picture_wordCount : Cond.selects "SegmentReader$Picture" y_Picture_wordCount y_Picture_wordCount ∈ lw_tbl := List.mem_of_getElem? (i := 30) (by decide +kernel)
theorem k_se_Model_forget : Cond.selects "SegmentReaderModel" y_Model_forget y_Model_forget ∈ lw_tbl := List.mem_of_getElem? (i := 31) (by decide +kernel)
theorem k_se_Model_readFile : Cond.selects "SegmentReaderModel" y_Model_readFile y_Model_readFile ∈ lw_tbl := List.mem_of_getElem? (i := 32) (by decide +kernel)
theorem k_se_Model_next : Cond.selects "SegmentReaderModel" y_Model_next y_Model_next ∈ lw_tbl := List.mem_of_getElem? (i := 33) (by decide +kernel)
theorem k_se_Model_lengthAt : Cond.selects "SegmentReaderModel" y_Model_lengthAt y_Model_lengthAt ∈ lw_tbl := List.mem_of_getElem? (i := 34) (by decide +kernel)
theorem k_se_Model_wrong : Cond.selects "SegmentReaderModel" y_Model_wrong y_Model_wrong ∈ lw_tbl := List.mem_of_getElem? (i := 35) (by decide +kernel)
theorem k_se_Model_byteAt : Cond.selects "SegmentReaderModel" y_Model_byteAt y_Model_byteAt ∈ lw_tbl := List.mem_of_getElem? (i := 36) (by decide +kernel)
theorem k_se_Model_marker : Cond.selects "SegmentReaderModel" y_Model_marker y_Model_marker ∈ lw_tbl := List.mem_of_getElem? (i := 37) (by decide +kernel)
theorem k_se_Model_isSent : Cond.selects "SegmentReaderModel" y_Model_isSent y_Model_isSent ∈ lw_tbl := List.mem_of_getElem? (i := 38) (by decide +kernel)
theorem k_se_Model_segment1 : Cond.selects "SegmentReaderModel" y_Model_segment1 y_Model_segment1 ∈ lw_tbl := List.mem_of_getElem? (i := 39) (by decide +kernel)
theorem k_se_Model_open : Cond.selects "SegmentReaderModel" y_Model_open y_Model_open ∈ lw_tbl := List.mem_of_getElem? (i := 40) (by decide +kernel)
theorem k_se_Model_two : Cond.selects "SegmentReaderModel" y_Model_two y_Model_two ∈ lw_tbl := List.mem_of_getElem? (i := 41) (by decide +kernel)
theorem k_se_Model_readQuantisers : Cond.selects "SegmentReaderModel" y_Model_readQuantisers y_Model_readQuantisers ∈ lw_tbl := List.mem_of_getElem? (i := 42) (by decide +kernel)
theorem k_se_Model_must : Cond.selects "SegmentReaderModel" y_Model_must y_Model_must ∈ lw_tbl := List.mem_of_getElem? (i := 43) (by decide +kernel)
theorem k_se_Model_readWords : Cond.selects "SegmentReaderModel" y_Model_readWords y_Model_readWords ∈ lw_tbl := List.mem_of_getElem? (i := 44) (by decide +kernel)
theorem k_se_Model_readTable : Cond.selects "SegmentReaderModel" y_Model_readTable y_Model_readTable ∈ lw_tbl := List.mem_of_getElem? (i := 45) (by decide +kernel)
theorem k_se_Model_readFrame : Cond.selects "SegmentReaderModel" y_Model_readFrame y_Model_readFrame ∈ lw_tbl := List.mem_of_getElem? (i := 46) (by decide +kernel)
theorem k_se_Model_readScan : Cond.selects "SegmentReaderModel" y_Model_readScan y_Model_readScan ∈ lw_tbl := List.mem_of_getElem? (i := 47) (by decide +kernel)
theorem k_se_Model_named : Cond.selects "SegmentReaderModel" y_Model_named y_Model_named ∈ lw_tbl := List.mem_of_getElem? (i := 48) (by decide +kernel)
theorem k_se_Model_order : Cond.selects "SegmentReaderModel" y_Model_order y_Model_order ∈ lw_tbl := List.mem_of_getElem? (i := 49) (by decide +kernel)
theorem k_se_Model_needs : Cond.selects "SegmentReaderModel" y_Model_needs y_Model_needs ∈ lw_tbl := List.mem_of_getElem? (i := 50) (by decide +kernel)
theorem k_se_Model_any : Cond.selects "SegmentReaderModel" y_Model_any y_Model_any ∈ lw_tbl := List.mem_of_getElem? (i := 51) (by decide +kernel)
theorem k_se_Model_close : Cond.selects "SegmentReaderModel" y_Model_close y_Model_close ∈ lw_tbl := List.mem_of_getElem? (i := 52) (by decide +kernel)
theorem k_se_Model_keepScan : Cond.selects "SegmentReaderModel" y_Model_keepScan y_Model_keepScan ∈ lw_tbl := List.mem_of_getElem? (i := 53) (by decide +kernel)
theorem k_se_Model_readData : Cond.selects "SegmentReaderModel" y_Model_readData y_Model_readData ∈ lw_tbl := List.mem_of_getElem? (i := 54) (by decide +kernel)
theorem k_in_Law : Cond.initialized "SegmentReaderLaw" ∈ lw_tbl := List.mem_of_getElem? (i := 55) (by decide +kernel)
theorem k_in_Reader : Cond.initialized "SegmentReader" ∈ lw_tbl := List.mem_of_getElem? (i := 56) (by decide +kernel)
theorem k_in_Bytes : Cond.initialized "SegmentReader$Bytes" ∈ lw_tbl := List.mem_of_getElem? (i := 57) (by decide +kernel)
theorem k_in_Picture : Cond.initialized "SegmentReader$Picture" ∈ lw_tbl := List.mem_of_getElem? (i := 58) (by decide +kernel)
theorem k_in_Numbers : Cond.initialized "SegmentReader$Numbers" ∈ lw_tbl := List.mem_of_getElem? (i := 59) (by decide +kernel)
theorem k_in_Arrays : Cond.initialized "java/util/Arrays" ∈ lw_tbl := List.mem_of_getElem? (i := 60) (by decide +kernel)
theorem k_in_Parser : Cond.initialized "SegmentReader$Parser" ∈ lw_tbl := List.mem_of_getElem? (i := 61) (by decide +kernel)
theorem k_in_Scan : Cond.initialized "SegmentReader$Scan" ∈ lw_tbl := List.mem_of_getElem? (i := 62) (by decide +kernel)
theorem k_in_Model : Cond.initialized "SegmentReaderModel" ∈ lw_tbl := List.mem_of_getElem? (i := 63) (by decide +kernel)
theorem k_in_Math : Cond.initialized "java/lang/Math" ∈ lw_tbl := List.mem_of_getElem? (i := 64) (by decide +kernel)
theorem k_in_java_lang_System : Cond.initialized "java/lang/System" ∈ lw_tbl := List.mem_of_getElem? (i := 65) (by decide +kernel)
theorem k_cl_Law_7 : Cond.classLink "SegmentReaderLaw" 7 "SegmentReader" ∈ lw_tbl := List.mem_of_getElem? (i := 66) (by decide +kernel)
theorem k_is_Reader : Cond.instantiable "SegmentReader" 3 ∈ lw_tbl := List.mem_of_getElem? (i := 67) (by decide +kernel)
theorem k_ml_Law_9 : Cond.methodLink "SegmentReaderLaw" 9 y_Reader_init ∈ lw_tbl := List.mem_of_getElem? (i := 68) (by decide +kernel)
theorem k_im_Reader_init : Cond.instanceMethod y_Reader_init ∈ lw_tbl := List.mem_of_getElem? (i := 69) (by decide +kernel)
theorem k_cd_Reader_init : Cond.code y_Reader_init c_Reader_init 1 none ∈ lw_tbl := List.mem_of_getElem? (i := 70) (by decide +kernel)
theorem k_ml_Reader_1 : Cond.methodLink "SegmentReader" 1 ⟨"java/lang/Object", "<init>", "()V"⟩ ∈ lw_tbl := List.mem_of_getElem? (i := 71) (by decide +kernel)
theorem k_im_Object_init : Cond.instanceMethod ⟨"java/lang/Object", "<init>", "()V"⟩ ∈ lw_tbl := List.mem_of_getElem? (i := 72) (by decide +kernel)
theorem k_cd_Object_init : Cond.code objectInit ⟨#[0xb1]⟩ 1 none ∈ lw_tbl := List.mem_of_getElem? (i := 73) (by decide +kernel)
theorem k_cl_Reader_7 : Cond.classLink "SegmentReader" 7 "SegmentReader$Bytes" ∈ lw_tbl := List.mem_of_getElem? (i := 74) (by decide +kernel)
theorem k_is_Bytes : Cond.instantiable "SegmentReader$Bytes" 2 ∈ lw_tbl := List.mem_of_getElem? (i := 75) (by decide +kernel)
theorem k_mln_Reader_9 : Cond.methodLinkNest "SegmentReader" 9 y_Bytes_init "SegmentReader" ∈ lw_tbl := List.mem_of_getElem? (i := 76) (by decide +kernel)
theorem k_im_Bytes_init : Cond.instanceMethod y_Bytes_init ∈ lw_tbl := List.mem_of_getElem? (i := 77) (by decide +kernel)
theorem k_cd_Bytes_init : Cond.code y_Bytes_init c_Bytes_init 1 none ∈ lw_tbl := List.mem_of_getElem? (i := 78) (by decide +kernel)
theorem k_ml_Bytes_3 : Cond.methodLink "SegmentReader$Bytes" 3 ⟨"java/lang/Object", "<init>", "()V"⟩ ∈ lw_tbl := List.mem_of_getElem? (i := 79) (by decide +kernel)
theorem k_fl_Bytes_9 : Cond.fieldLink "SegmentReader$Bytes" 9 "SegmentReader$Bytes" "held" "[B" ∈ lw_tbl := List.mem_of_getElem? (i := 80) (by decide +kernel)
theorem k_fl_Bytes_15 : Cond.fieldLink "SegmentReader$Bytes" 15 "SegmentReader$Bytes" "size" "I" ∈ lw_tbl := List.mem_of_getElem? (i := 81) (by decide +kernel)
theorem k_fln_Reader_34 : Cond.fieldLinkNest "SegmentReader" 34 "SegmentReader$Bytes" "size" "I" "SegmentReader" ∈ lw_tbl := List.mem_of_getElem? (i := 82) (by decide +kernel)
theorem k_fln_Parser_68 : Cond.fieldLinkNest "SegmentReader$Parser" 68 "SegmentReader$Bytes" "size" "I" "SegmentReader" ∈ lw_tbl := List.mem_of_getElem? (i := 83) (by decide +kernel)
theorem k_ac_byte : Cond.arrayClass .byte ∈ lw_tbl := List.mem_of_getElem? (i := 89) (by decide +kernel)
theorem k_cl_Reader_16 : Cond.classLink "SegmentReader" 16 "SegmentReader$Picture" ∈ lw_tbl := List.mem_of_getElem? (i := 90) (by decide +kernel)
theorem k_is_Picture : Cond.instantiable "SegmentReader$Picture" 12 ∈ lw_tbl := List.mem_of_getElem? (i := 91) (by decide +kernel)
theorem k_ml_Reader_18 : Cond.methodLink "SegmentReader" 18 y_Picture_init ∈ lw_tbl := List.mem_of_getElem? (i := 92) (by decide +kernel)
theorem k_im_Picture_init : Cond.instanceMethod y_Picture_init ∈ lw_tbl := List.mem_of_getElem? (i := 93) (by decide +kernel)
theorem k_cd_Picture_init : Cond.code y_Picture_init c_Picture_init 2 none ∈ lw_tbl := List.mem_of_getElem? (i := 94) (by decide +kernel)
theorem k_ml_Picture_3 : Cond.methodLink "SegmentReader$Picture" 3 ⟨"java/lang/Object", "<init>", "()V"⟩ ∈ lw_tbl := List.mem_of_getElem? (i := 95) (by decide +kernel)
theorem k_cl_Picture_9 : Cond.classLink "SegmentReader$Picture" 9 "SegmentReader$Numbers" ∈ lw_tbl := List.mem_of_getElem? (i := 96) (by decide +kernel)
theorem k_is_Numbers : Cond.instantiable "SegmentReader$Numbers" 2 ∈ lw_tbl := List.mem_of_getElem? (i := 97) (by decide +kernel)
theorem k_mln_Picture_11 : Cond.methodLinkNest "SegmentReader$Picture" 11 y_Numbers_init "SegmentReader" ∈ lw_tbl := List.mem_of_getElem? (i := 98) (by decide +kernel)
theorem k_im_Numbers_init : Cond.instanceMethod y_Numbers_init ∈ lw_tbl := List.mem_of_getElem? (i := 99) (by decide +kernel)
theorem k_cd_Numbers_init : Cond.code y_Numbers_init c_Numbers_init 1 none ∈ lw_tbl := List.mem_of_getElem? (i := 100) (by decide +kernel)
theorem k_ml_Numbers_3 : Cond.methodLink "SegmentReader$Numbers" 3 ⟨"java/lang/Object", "<init>", "()V"⟩ ∈ lw_tbl := List.mem_of_getElem? (i := 101) (by decide +kernel)
theorem k_fl_Numbers_9 : Cond.fieldLink "SegmentReader$Numbers" 9 "SegmentReader$Numbers" "held" "[I" ∈ lw_tbl := List.mem_of_getElem? (i := 102) (by decide +kernel)
theorem k_fl_Numbers_15 : Cond.fieldLink "SegmentReader$Numbers" 15 "SegmentReader$Numbers" "size" "I" ∈ lw_tbl := List.mem_of_getElem? (i := 103) (by decide +kernel)
theorem k_fln_Picture_38 : Cond.fieldLinkNest "SegmentReader$Picture" 38 "SegmentReader$Numbers" "size" "I" "SegmentReader" ∈ lw_tbl := List.mem_of_getElem? (i := 104) (by decide +kernel)
theorem k_ac_int : Cond.arrayClass .int ∈ lw_tbl := List.mem_of_getElem? (i := 110) (by decide +kernel)
theorem k_ml_Picture_35 : Cond.methodLink "SegmentReader$Picture" 35 y_Picture_clear ∈ lw_tbl := List.mem_of_getElem? (i := 111) (by decide +kernel)
theorem k_im_Picture_clear : Cond.instanceMethod y_Picture_clear ∈ lw_tbl := List.mem_of_getElem? (i := 112) (by decide +kernel)
theorem k_se_Picture_clear : Cond.selects "SegmentReader$Picture" y_Picture_clear y_Picture_clear ∈ lw_tbl := List.mem_of_getElem? (i := 113) (by decide +kernel)
theorem k_cd_Picture_clear : Cond.code y_Picture_clear c_Picture_clear 1 none ∈ lw_tbl := List.mem_of_getElem? (i := 114) (by decide +kernel)
theorem k_ml_Picture_42 : Cond.methodLink "SegmentReader$Picture" 42 y_Arrays_fillI ∈ lw_tbl := List.mem_of_getElem? (i := 115) (by decide +kernel)
theorem k_st_Arrays_fillI : Cond.static y_Arrays_fillI ∈ lw_tbl := List.mem_of_getElem? (i := 116) (by decide +kernel)
theorem k_cd_Arrays_fillI : Cond.code y_Arrays_fillI c_Arrays_fillI 4 none ∈ lw_tbl := List.mem_of_getElem? (i := 117) (by decide +kernel)
theorem k_fl_Picture_31 : Cond.fieldLink "SegmentReader$Picture" 31 "SegmentReader$Picture" "input" "LSegmentReader$Bytes;" ∈ lw_tbl := List.mem_of_getElem? (i := 118) (by decide +kernel)
theorem k_fl_Picture_12 : Cond.fieldLink "SegmentReader$Picture" 12 "SegmentReader$Picture" "segments" "LSegmentReader$Numbers;" ∈ lw_tbl := List.mem_of_getElem? (i := 119) (by decide +kernel)
theorem k_fl_Picture_18 : Cond.fieldLink "SegmentReader$Picture" 18 "SegmentReader$Picture" "scans" "LSegmentReader$Numbers;" ∈ lw_tbl := List.mem_of_getElem? (i := 120) (by decide +kernel)
theorem k_fl_Picture_21 : Cond.fieldLink "SegmentReader$Picture" 21 "SegmentReader$Picture" "components" "[I" ∈ lw_tbl := List.mem_of_getElem? (i := 121) (by decide +kernel)
theorem k_fl_Picture_25 : Cond.fieldLink "SegmentReader$Picture" 25 "SegmentReader$Picture" "quantisersAt" "[I" ∈ lw_tbl := List.mem_of_getElem? (i := 122) (by decide +kernel)
theorem k_fl_Picture_28 : Cond.fieldLink "SegmentReader$Picture" 28 "SegmentReader$Picture" "wordsAt" "[I" ∈ lw_tbl := List.mem_of_getElem? (i := 123) (by decide +kernel)
theorem k_fl_Picture_48 : Cond.fieldLink "SegmentReader$Picture" 48 "SegmentReader$Picture" "frameCode" "I" ∈ lw_tbl := List.mem_of_getElem? (i := 124) (by decide +kernel)
theorem k_fln_Parser_106 : Cond.fieldLinkNest "SegmentReader$Parser" 106 "SegmentReader$Picture" "frameCode" "I" "SegmentReader" ∈ lw_tbl := List.mem_of_getElem? (i := 125) (by decide +kernel)
theorem k_fl_Picture_51 : Cond.fieldLink "SegmentReader$Picture" 51 "SegmentReader$Picture" "width" "I" ∈ lw_tbl := List.mem_of_getElem? (i := 126) (by decide +kernel)
theorem k_fln_Parser_171 : Cond.fieldLinkNest "SegmentReader$Parser" 171 "SegmentReader$Picture" "width" "I" "SegmentReader" ∈ lw_tbl := List.mem_of_getElem? (i := 127) (by decide +kernel)
theorem k_fl_Picture_54 : Cond.fieldLink "SegmentReader$Picture" 54 "SegmentReader$Picture" "height" "I" ∈ lw_tbl := List.mem_of_getElem? (i := 128) (by decide +kernel)
theorem k_fln_Parser_141 : Cond.fieldLinkNest "SegmentReader$Parser" 141 "SegmentReader$Picture" "height" "I" "SegmentReader" ∈ lw_tbl := List.mem_of_getElem? (i := 129) (by decide +kernel)
theorem k_fl_Picture_57 : Cond.fieldLink "SegmentReader$Picture" 57 "SegmentReader$Picture" "componentCount" "I" ∈ lw_tbl := List.mem_of_getElem? (i := 130) (by decide +kernel)
theorem k_fln_Parser_116 : Cond.fieldLinkNest "SegmentReader$Parser" 116 "SegmentReader$Picture" "componentCount" "I" "SegmentReader" ∈ lw_tbl := List.mem_of_getElem? (i := 131) (by decide +kernel)
theorem k_fl_Picture_60 : Cond.fieldLink "SegmentReader$Picture" 60 "SegmentReader$Picture" "interval" "I" ∈ lw_tbl := List.mem_of_getElem? (i := 132) (by decide +kernel)
theorem k_fln_Reader_95 : Cond.fieldLinkNest "SegmentReader" 95 "SegmentReader$Picture" "interval" "I" "SegmentReader" ∈ lw_tbl := List.mem_of_getElem? (i := 133) (by decide +kernel)
theorem k_fln_Parser_132 : Cond.fieldLinkNest "SegmentReader$Parser" 132 "SegmentReader$Picture" "interval" "I" "SegmentReader" ∈ lw_tbl := List.mem_of_getElem? (i := 134) (by decide +kernel)
theorem k_fl_Picture_63 : Cond.fieldLink "SegmentReader$Picture" 63 "SegmentReader$Picture" "end" "I" ∈ lw_tbl := List.mem_of_getElem? (i := 135) (by decide +kernel)
theorem k_fln_Parser_81 : Cond.fieldLinkNest "SegmentReader$Parser" 81 "SegmentReader$Picture" "end" "I" "SegmentReader" ∈ lw_tbl := List.mem_of_getElem? (i := 136) (by decide +kernel)
theorem k_fln_Reader_98 : Cond.fieldLinkNest "SegmentReader" 98 "SegmentReader$Picture" "end" "I" "SegmentReader" ∈ lw_tbl := List.mem_of_getElem? (i := 137) (by decide +kernel)
theorem k_cl_Reader_25 : Cond.classLink "SegmentReader" 25 "SegmentReader$Parser" ∈ lw_tbl := List.mem_of_getElem? (i := 163) (by decide +kernel)
theorem k_is_Parser : Cond.instantiable "SegmentReader$Parser" 11 ∈ lw_tbl := List.mem_of_getElem? (i := 164) (by decide +kernel)
theorem k_ml_Reader_27 : Cond.methodLink "SegmentReader" 27 y_Parser_init ∈ lw_tbl := List.mem_of_getElem? (i := 165) (by decide +kernel)
theorem k_im_Parser_init : Cond.instanceMethod y_Parser_init ∈ lw_tbl := List.mem_of_getElem? (i := 166) (by decide +kernel)
theorem k_cd_Parser_init : Cond.code y_Parser_init c_Parser_init 3 none ∈ lw_tbl := List.mem_of_getElem? (i := 167) (by decide +kernel)
theorem k_ml_Parser_3 : Cond.methodLink "SegmentReader$Parser" 3 ⟨"java/lang/Object", "<init>", "()V"⟩ ∈ lw_tbl := List.mem_of_getElem? (i := 168) (by decide +kernel)
theorem k_cl_Parser_9 : Cond.classLink "SegmentReader$Parser" 9 "SegmentReader$Scan" ∈ lw_tbl := List.mem_of_getElem? (i := 169) (by decide +kernel)
theorem k_is_Scan : Cond.instantiable "SegmentReader$Scan" 7 ∈ lw_tbl := List.mem_of_getElem? (i := 170) (by decide +kernel)
theorem k_mln_Parser_11 : Cond.methodLinkNest "SegmentReader$Parser" 11 y_Scan_init "SegmentReader" ∈ lw_tbl := List.mem_of_getElem? (i := 171) (by decide +kernel)
theorem k_im_Scan_init : Cond.instanceMethod y_Scan_init ∈ lw_tbl := List.mem_of_getElem? (i := 172) (by decide +kernel)
theorem k_cd_Scan_init : Cond.code y_Scan_init c_Scan_init 1 none ∈ lw_tbl := List.mem_of_getElem? (i := 173) (by decide +kernel)
theorem k_ml_Scan_3 : Cond.methodLink "SegmentReader$Scan" 3 ⟨"java/lang/Object", "<init>", "()V"⟩ ∈ lw_tbl := List.mem_of_getElem? (i := 174) (by decide +kernel)
theorem k_fl_Scan_15 : Cond.fieldLink "SegmentReader$Scan" 15 "SegmentReader$Scan" "contents" "I" ∈ lw_tbl := List.mem_of_getElem? (i := 175) (by decide +kernel)
theorem k_fln_Parser_184 : Cond.fieldLinkNest "SegmentReader$Parser" 184 "SegmentReader$Scan" "contents" "I" "SegmentReader" ∈ lw_tbl := List.mem_of_getElem? (i := 176) (by decide +kernel)
theorem k_fln_Parser_187 : Cond.fieldLinkNest "SegmentReader$Parser" 187 "SegmentReader$Scan" "count" "I" "SegmentReader" ∈ lw_tbl := List.mem_of_getElem? (i := 177) (by decide +kernel)
theorem k_fln_Parser_193 : Cond.fieldLinkNest "SegmentReader$Parser" 193 "SegmentReader$Scan" "first" "I" "SegmentReader" ∈ lw_tbl := List.mem_of_getElem? (i := 178) (by decide +kernel)
theorem k_fln_Parser_196 : Cond.fieldLinkNest "SegmentReader$Parser" 196 "SegmentReader$Scan" "last" "I" "SegmentReader" ∈ lw_tbl := List.mem_of_getElem? (i := 179) (by decide +kernel)
theorem k_fln_Parser_217 : Cond.fieldLinkNest "SegmentReader$Parser" 217 "SegmentReader$Scan" "before" "I" "SegmentReader" ∈ lw_tbl := List.mem_of_getElem? (i := 180) (by decide +kernel)
theorem k_fln_Parser_220 : Cond.fieldLinkNest "SegmentReader$Parser" 220 "SegmentReader$Scan" "bits" "I" "SegmentReader" ∈ lw_tbl := List.mem_of_getElem? (i := 181) (by decide +kernel)
theorem k_fl_Scan_9 : Cond.fieldLink "SegmentReader$Scan" 9 "SegmentReader$Scan" "places" "[I" ∈ lw_tbl := List.mem_of_getElem? (i := 182) (by decide +kernel)
theorem k_fln_Parser_214 : Cond.fieldLinkNest "SegmentReader$Parser" 214 "SegmentReader$Scan" "places" "[I" "SegmentReader" ∈ lw_tbl := List.mem_of_getElem? (i := 183) (by decide +kernel)
theorem k_fl_Parser_46 : Cond.fieldLink "SegmentReader$Parser" 46 "SegmentReader$Parser" "input" "LSegmentReader$Bytes;" ∈ lw_tbl := List.mem_of_getElem? (i := 199) (by decide +kernel)
theorem k_fl_Parser_50 : Cond.fieldLink "SegmentReader$Parser" 50 "SegmentReader$Parser" "picture" "LSegmentReader$Picture;" ∈ lw_tbl := List.mem_of_getElem? (i := 200) (by decide +kernel)
theorem k_fl_Parser_12 : Cond.fieldLink "SegmentReader$Parser" 12 "SegmentReader$Parser" "scan" "LSegmentReader$Scan;" ∈ lw_tbl := List.mem_of_getElem? (i := 201) (by decide +kernel)
theorem k_fl_Parser_18 : Cond.fieldLink "SegmentReader$Parser" 18 "SegmentReader$Parser" "latestBits" "[I" ∈ lw_tbl := List.mem_of_getElem? (i := 202) (by decide +kernel)
theorem k_fl_Parser_22 : Cond.fieldLink "SegmentReader$Parser" 22 "SegmentReader$Parser" "seen" "[J" ∈ lw_tbl := List.mem_of_getElem? (i := 203) (by decide +kernel)
theorem k_fl_Parser_26 : Cond.fieldLink "SegmentReader$Parser" 26 "SegmentReader$Parser" "place" "I" ∈ lw_tbl := List.mem_of_getElem? (i := 204) (by decide +kernel)
theorem k_fl_Parser_30 : Cond.fieldLink "SegmentReader$Parser" 30 "SegmentReader$Parser" "lengthPlace" "I" ∈ lw_tbl := List.mem_of_getElem? (i := 205) (by decide +kernel)
theorem k_fl_Parser_33 : Cond.fieldLink "SegmentReader$Parser" 33 "SegmentReader$Parser" "contentsEnd" "I" ∈ lw_tbl := List.mem_of_getElem? (i := 206) (by decide +kernel)
theorem k_fl_Parser_36 : Cond.fieldLink "SegmentReader$Parser" 36 "SegmentReader$Parser" "linesDue" "Z" ∈ lw_tbl := List.mem_of_getElem? (i := 207) (by decide +kernel)
theorem k_fl_Parser_40 : Cond.fieldLink "SegmentReader$Parser" 40 "SegmentReader$Parser" "fault" "I" ∈ lw_tbl := List.mem_of_getElem? (i := 208) (by decide +kernel)
theorem k_fln_Reader_83 : Cond.fieldLinkNest "SegmentReader" 83 "SegmentReader$Parser" "fault" "I" "SegmentReader" ∈ lw_tbl := List.mem_of_getElem? (i := 209) (by decide +kernel)
theorem k_fl_Parser_43 : Cond.fieldLink "SegmentReader$Parser" 43 "SegmentReader$Parser" "faultPlace" "I" ∈ lw_tbl := List.mem_of_getElem? (i := 210) (by decide +kernel)
theorem k_fln_Reader_86 : Cond.fieldLinkNest "SegmentReader" 86 "SegmentReader$Parser" "faultPlace" "I" "SegmentReader" ∈ lw_tbl := List.mem_of_getElem? (i := 211) (by decide +kernel)
theorem k_ac_long : Cond.arrayClass .long ∈ lw_tbl := List.mem_of_getElem? (i := 235) (by decide +kernel)
theorem k_fl_Reader_10 : Cond.fieldLink "SegmentReader" 10 "SegmentReader" "input" "LSegmentReader$Bytes;" ∈ lw_tbl := List.mem_of_getElem? (i := 236) (by decide +kernel)
theorem k_fl_Reader_21 : Cond.fieldLink "SegmentReader" 21 "SegmentReader" "picture" "LSegmentReader$Picture;" ∈ lw_tbl := List.mem_of_getElem? (i := 237) (by decide +kernel)
theorem k_fl_Reader_30 : Cond.fieldLink "SegmentReader" 30 "SegmentReader" "parser" "LSegmentReader$Parser;" ∈ lw_tbl := List.mem_of_getElem? (i := 238) (by decide +kernel)
theorem k_ml_Law_15 : Cond.methodLink "SegmentReaderLaw" 15 y_Reader_give ∈ lw_tbl := List.mem_of_getElem? (i := 246) (by decide +kernel)
theorem k_im_Reader_give : Cond.instanceMethod y_Reader_give ∈ lw_tbl := List.mem_of_getElem? (i := 247) (by decide +kernel)
theorem k_se_Reader_give : Cond.selects "SegmentReader" y_Reader_give y_Reader_give ∈ lw_tbl := List.mem_of_getElem? (i := 248) (by decide +kernel)
theorem k_cd_Reader_give : Cond.code y_Reader_give c_Reader_give 5 (some .boolean) ∈ lw_tbl := List.mem_of_getElem? (i := 249) (by decide +kernel)
theorem k_ml_Reader_38 : Cond.methodLink "SegmentReader" 38 y_Bytes_add ∈ lw_tbl := List.mem_of_getElem? (i := 250) (by decide +kernel)
theorem k_im_Bytes_add : Cond.instanceMethod y_Bytes_add ∈ lw_tbl := List.mem_of_getElem? (i := 251) (by decide +kernel)
theorem k_se_Bytes_add : Cond.selects "SegmentReader$Bytes" y_Bytes_add y_Bytes_add ∈ lw_tbl := List.mem_of_getElem? (i := 252) (by decide +kernel)
theorem k_cd_Bytes_add : Cond.code y_Bytes_add c_Bytes_add 2 none ∈ lw_tbl := List.mem_of_getElem? (i := 253) (by decide +kernel)
theorem k_ml_Bytes_19 : Cond.methodLink "SegmentReader$Bytes" 19 y_Arrays_copyOfB ∈ lw_tbl := List.mem_of_getElem? (i := 254) (by decide +kernel)
theorem k_st_Arrays_copyOfB : Cond.static y_Arrays_copyOfB ∈ lw_tbl := List.mem_of_getElem? (i := 255) (by decide +kernel)
theorem k_cd_Arrays_copyOfB : Cond.code y_Arrays_copyOfB c_Arrays_copyOfB 3 (some (.array .byte)) ∈ lw_tbl := List.mem_of_getElem? (i := 256) (by decide +kernel)
theorem k_ml_Arrays_310 : Cond.methodLink "java/util/Arrays" 310 ⟨"[B", "clone", "()Ljava/lang/Object;"⟩ ∈ lw_tbl := List.mem_of_getElem? (i := 257) (by decide +kernel)
theorem k_na_Object_clone : Cond.native ⟨"java/lang/Object", "clone", "()Ljava/lang/Object;"⟩ ∈ lw_tbl := List.mem_of_getElem? (i := 259) (by decide +kernel)
theorem k_im_Object_clone : Cond.instanceMethod ⟨"java/lang/Object", "clone", "()Ljava/lang/Object;"⟩ ∈ lw_tbl := List.mem_of_getElem? (i := 260) (by decide +kernel)
theorem k_se_AB_clone : Cond.selects "[B" ⟨"[B", "clone", "()Ljava/lang/Object;"⟩ ⟨"java/lang/Object", "clone", "()Ljava/lang/Object;"⟩ ∈ lw_tbl := List.mem_of_getElem? (i := 261) (by decide +kernel)
theorem k_cl_Arrays_311 : Cond.classLink "java/util/Arrays" 311 "[B" ∈ lw_tbl := List.mem_of_getElem? (i := 263) (by decide +kernel)
theorem k_ml_Arrays_304 : Cond.methodLink "java/util/Arrays" 304 y_Math_min ∈ lw_tbl := List.mem_of_getElem? (i := 264) (by decide +kernel)
theorem k_st_Math_min : Cond.static y_Math_min ∈ lw_tbl := List.mem_of_getElem? (i := 265) (by decide +kernel)
theorem k_cd_Math_min : Cond.code y_Math_min c_Math_min 2 (some .int) ∈ lw_tbl := List.mem_of_getElem? (i := 266) (by decide +kernel)
theorem k_ml_Arrays_150 : Cond.methodLink "java/util/Arrays" 150 ⟨"java/lang/System", "arraycopy", "(Ljava/lang/Object;ILjava/lang/Object;II)V"⟩ ∈ lw_tbl := List.mem_of_getElem? (i := 267) (by decide +kernel)
theorem k_st_java_lang_System_arraycopy : Cond.static ⟨"java/lang/System", "arraycopy", "(Ljava/lang/Object;ILjava/lang/Object;II)V"⟩ ∈ lw_tbl := List.mem_of_getElem? (i := 268) (by decide +kernel)
theorem k_na_java_lang_System_arraycopy : Cond.native ⟨"java/lang/System", "arraycopy", "(Ljava/lang/Object;ILjava/lang/Object;II)V"⟩ ∈ lw_tbl := List.mem_of_getElem? (i := 269) (by decide +kernel)
theorem k_ml_Reader_42 : Cond.methodLink "SegmentReader" 42 y_Parser_forget ∈ lw_tbl := List.mem_of_getElem? (i := 270) (by decide +kernel)
theorem k_im_Parser_forget : Cond.instanceMethod y_Parser_forget ∈ lw_tbl := List.mem_of_getElem? (i := 271) (by decide +kernel)
theorem k_se_Parser_forget : Cond.selects "SegmentReader$Parser" y_Parser_forget y_Parser_forget ∈ lw_tbl := List.mem_of_getElem? (i := 272) (by decide +kernel)
theorem k_cd_Parser_forget : Cond.code y_Parser_forget c_Parser_forget 1 none ∈ lw_tbl := List.mem_of_getElem? (i := 273) (by decide +kernel)
theorem k_ml_Parser_54 : Cond.methodLink "SegmentReader$Parser" 54 y_Picture_clear ∈ lw_tbl := List.mem_of_getElem? (i := 274) (by decide +kernel)
theorem k_ml_Law_20 : Cond.methodLink "SegmentReaderLaw" 20 y_Reader_wipe ∈ lw_tbl := List.mem_of_getElem? (i := 275) (by decide +kernel)
theorem k_im_Reader_wipe : Cond.instanceMethod y_Reader_wipe ∈ lw_tbl := List.mem_of_getElem? (i := 276) (by decide +kernel)
theorem k_se_Reader_wipe : Cond.selects "SegmentReader" y_Reader_wipe y_Reader_wipe ∈ lw_tbl := List.mem_of_getElem? (i := 277) (by decide +kernel)
theorem k_cd_Reader_wipe : Cond.code y_Reader_wipe c_Reader_wipe 1 none ∈ lw_tbl := List.mem_of_getElem? (i := 278) (by decide +kernel)
theorem k_ml_Law_24 : Cond.methodLink "SegmentReaderLaw" 24 y_Reader_read ∈ lw_tbl := List.mem_of_getElem? (i := 279) (by decide +kernel)
theorem k_im_Reader_read : Cond.instanceMethod y_Reader_read ∈ lw_tbl := List.mem_of_getElem? (i := 280) (by decide +kernel)
theorem k_se_Reader_read : Cond.selects "SegmentReader" y_Reader_read y_Reader_read ∈ lw_tbl := List.mem_of_getElem? (i := 281) (by decide +kernel)
theorem k_cd_Reader_read : Cond.code y_Reader_read c_Reader_read 2 (some .int) ∈ lw_tbl := List.mem_of_getElem? (i := 282) (by decide +kernel)
theorem k_ml_Reader_45 : Cond.methodLink "SegmentReader" 45 y_Parser_begin ∈ lw_tbl := List.mem_of_getElem? (i := 283) (by decide +kernel)
theorem k_im_Parser_begin : Cond.instanceMethod y_Parser_begin ∈ lw_tbl := List.mem_of_getElem? (i := 284) (by decide +kernel)
theorem k_se_Parser_begin : Cond.selects "SegmentReader$Parser" y_Parser_begin y_Parser_begin ∈ lw_tbl := List.mem_of_getElem? (i := 285) (by decide +kernel)
theorem k_cd_Parser_begin : Cond.code y_Parser_begin c_Parser_begin 1 none ∈ lw_tbl := List.mem_of_getElem? (i := 286) (by decide +kernel)
theorem k_ml_Parser_59 : Cond.methodLink "SegmentReader$Parser" 59 y_Parser_forget ∈ lw_tbl := List.mem_of_getElem? (i := 287) (by decide +kernel)
theorem k_ml_Parser_62 : Cond.methodLink "SegmentReader$Parser" 62 y_Arrays_fillI ∈ lw_tbl := List.mem_of_getElem? (i := 288) (by decide +kernel)
theorem k_ml_Parser_73 : Cond.methodLink "SegmentReader$Parser" 73 y_Bytes_at ∈ lw_tbl := List.mem_of_getElem? (i := 289) (by decide +kernel)
theorem k_im_Bytes_at : Cond.instanceMethod y_Bytes_at ∈ lw_tbl := List.mem_of_getElem? (i := 290) (by decide +kernel)
theorem k_se_Bytes_at : Cond.selects "SegmentReader$Bytes" y_Bytes_at y_Bytes_at ∈ lw_tbl := List.mem_of_getElem? (i := 291) (by decide +kernel)
theorem k_cd_Bytes_at : Cond.code y_Bytes_at c_Bytes_at 2 (some .int) ∈ lw_tbl := List.mem_of_getElem? (i := 292) (by decide +kernel)
theorem k_ml_Parser_77 : Cond.methodLink "SegmentReader$Parser" 77 y_Parser_fail ∈ lw_tbl := List.mem_of_getElem? (i := 293) (by decide +kernel)
theorem k_im_Parser_fail : Cond.instanceMethod y_Parser_fail ∈ lw_tbl := List.mem_of_getElem? (i := 295) (by decide +kernel)
theorem k_cd_Parser_fail : Cond.code y_Parser_fail c_Parser_fail 3 (some .int) ∈ lw_tbl := List.mem_of_getElem? (i := 296) (by decide +kernel)
theorem k_ml_Reader_48 : Cond.methodLink "SegmentReader" 48 y_Parser_goesOn ∈ lw_tbl := List.mem_of_getElem? (i := 297) (by decide +kernel)
theorem k_im_Parser_goesOn : Cond.instanceMethod y_Parser_goesOn ∈ lw_tbl := List.mem_of_getElem? (i := 298) (by decide +kernel)
theorem k_se_Parser_goesOn : Cond.selects "SegmentReader$Parser" y_Parser_goesOn y_Parser_goesOn ∈ lw_tbl := List.mem_of_getElem? (i := 299) (by decide +kernel)
theorem k_cd_Parser_goesOn : Cond.code y_Parser_goesOn c_Parser_goesOn 1 (some .boolean) ∈ lw_tbl := List.mem_of_getElem? (i := 300) (by decide +kernel)
theorem k_ml_Reader_52 : Cond.methodLink "SegmentReader" 52 y_Parser_readNext ∈ lw_tbl := List.mem_of_getElem? (i := 301) (by decide +kernel)
theorem k_im_Parser_readNext : Cond.instanceMethod y_Parser_readNext ∈ lw_tbl := List.mem_of_getElem? (i := 302) (by decide +kernel)
theorem k_se_Parser_readNext : Cond.selects "SegmentReader$Parser" y_Parser_readNext y_Parser_readNext ∈ lw_tbl := List.mem_of_getElem? (i := 303) (by decide +kernel)
theorem k_cd_Parser_readNext : Cond.code y_Parser_readNext c_Parser_readNext 3 none ∈ lw_tbl := List.mem_of_getElem? (i := 304) (by decide +kernel)
theorem k_ml_Parser_84 : Cond.methodLink "SegmentReader$Parser" 84 y_Parser_takeMarker ∈ lw_tbl := List.mem_of_getElem? (i := 305) (by decide +kernel)
theorem k_im_Parser_takeMarker : Cond.instanceMethod y_Parser_takeMarker ∈ lw_tbl := List.mem_of_getElem? (i := 307) (by decide +kernel)
theorem k_cd_Parser_takeMarker : Cond.code y_Parser_takeMarker c_Parser_takeMarker 3 (some .int) ∈ lw_tbl := List.mem_of_getElem? (i := 308) (by decide +kernel)
theorem k_ml_Parser_102 : Cond.methodLink "SegmentReader$Parser" 102 y_Parser_canStand ∈ lw_tbl := List.mem_of_getElem? (i := 309) (by decide +kernel)
theorem k_im_Parser_canStand : Cond.instanceMethod y_Parser_canStand ∈ lw_tbl := List.mem_of_getElem? (i := 311) (by decide +kernel)
theorem k_cd_Parser_canStand : Cond.code y_Parser_canStand c_Parser_canStand 2 (some .boolean) ∈ lw_tbl := List.mem_of_getElem? (i := 312) (by decide +kernel)
theorem k_ml_Parser_109 : Cond.methodLink "SegmentReader$Parser" 109 y_Parser_allBegun ∈ lw_tbl := List.mem_of_getElem? (i := 313) (by decide +kernel)
theorem k_im_Parser_allBegun : Cond.instanceMethod y_Parser_allBegun ∈ lw_tbl := List.mem_of_getElem? (i := 315) (by decide +kernel)
theorem k_cd_Parser_allBegun : Cond.code y_Parser_allBegun c_Parser_allBegun 2 (some .boolean) ∈ lw_tbl := List.mem_of_getElem? (i := 316) (by decide +kernel)
theorem k_ml_Parser_119 : Cond.methodLink "SegmentReader$Parser" 119 y_Parser_latestOf ∈ lw_tbl := List.mem_of_getElem? (i := 317) (by decide +kernel)
theorem k_im_Parser_latestOf : Cond.instanceMethod y_Parser_latestOf ∈ lw_tbl := List.mem_of_getElem? (i := 319) (by decide +kernel)
theorem k_cd_Parser_latestOf : Cond.code y_Parser_latestOf c_Parser_latestOf 4 (some .int) ∈ lw_tbl := List.mem_of_getElem? (i := 320) (by decide +kernel)
theorem k_ml_Parser_113 : Cond.methodLink "SegmentReader$Parser" 113 y_Parser_isFree ∈ lw_tbl := List.mem_of_getElem? (i := 321) (by decide +kernel)
theorem k_im_Parser_isFree : Cond.instanceMethod y_Parser_isFree ∈ lw_tbl := List.mem_of_getElem? (i := 323) (by decide +kernel)
theorem k_cd_Parser_isFree : Cond.code y_Parser_isFree c_Parser_isFree 2 (some .boolean) ∈ lw_tbl := List.mem_of_getElem? (i := 324) (by decide +kernel)
theorem k_ml_Parser_88 : Cond.methodLink "SegmentReader$Parser" 88 y_Parser_takeLength ∈ lw_tbl := List.mem_of_getElem? (i := 325) (by decide +kernel)
theorem k_im_Parser_takeLength : Cond.instanceMethod y_Parser_takeLength ∈ lw_tbl := List.mem_of_getElem? (i := 327) (by decide +kernel)
theorem k_cd_Parser_takeLength : Cond.code y_Parser_takeLength c_Parser_takeLength 2 none ∈ lw_tbl := List.mem_of_getElem? (i := 328) (by decide +kernel)
theorem k_co_Parser_122 : Cond.constant "SegmentReader$Parser" 122 (65535 : Int32) ∈ lw_tbl := List.mem_of_getElem? (i := 329) (by decide +kernel)
theorem k_ml_Parser_123 : Cond.methodLink "SegmentReader$Parser" 123 y_Parser_takePair ∈ lw_tbl := List.mem_of_getElem? (i := 330) (by decide +kernel)
theorem k_im_Parser_takePair : Cond.instanceMethod y_Parser_takePair ∈ lw_tbl := List.mem_of_getElem? (i := 332) (by decide +kernel)
theorem k_cd_Parser_takePair : Cond.code y_Parser_takePair c_Parser_takePair 6 (some .int) ∈ lw_tbl := List.mem_of_getElem? (i := 333) (by decide +kernel)
theorem k_ml_Parser_147 : Cond.methodLink "SegmentReader$Parser" 147 y_Parser_take ∈ lw_tbl := List.mem_of_getElem? (i := 334) (by decide +kernel)
theorem k_im_Parser_take : Cond.instanceMethod y_Parser_take ∈ lw_tbl := List.mem_of_getElem? (i := 336) (by decide +kernel)
theorem k_cd_Parser_take : Cond.code y_Parser_take c_Parser_take 4 (some .int) ∈ lw_tbl := List.mem_of_getElem? (i := 337) (by decide +kernel)
theorem k_ml_Parser_150 : Cond.methodLink "SegmentReader$Parser" 150 y_Parser_refuseTaken ∈ lw_tbl := List.mem_of_getElem? (i := 338) (by decide +kernel)
theorem k_im_Parser_refuseTaken : Cond.instanceMethod y_Parser_refuseTaken ∈ lw_tbl := List.mem_of_getElem? (i := 340) (by decide +kernel)
theorem k_cd_Parser_refuseTaken : Cond.code y_Parser_refuseTaken c_Parser_refuseTaken 1 none ∈ lw_tbl := List.mem_of_getElem? (i := 341) (by decide +kernel)
theorem k_ml_Parser_91 : Cond.methodLink "SegmentReader$Parser" 91 y_Picture_addSegment ∈ lw_tbl := List.mem_of_getElem? (i := 342) (by decide +kernel)
theorem k_im_Picture_addSegment : Cond.instanceMethod y_Picture_addSegment ∈ lw_tbl := List.mem_of_getElem? (i := 343) (by decide +kernel)
theorem k_se_Picture_addSegment : Cond.selects "SegmentReader$Picture" y_Picture_addSegment y_Picture_addSegment ∈ lw_tbl := List.mem_of_getElem? (i := 344) (by decide +kernel)
theorem k_cd_Picture_addSegment : Cond.code y_Picture_addSegment c_Picture_addSegment 3 none ∈ lw_tbl := List.mem_of_getElem? (i := 345) (by decide +kernel)
theorem k_ml_Picture_66 : Cond.methodLink "SegmentReader$Picture" 66 y_Numbers_add ∈ lw_tbl := List.mem_of_getElem? (i := 346) (by decide +kernel)
theorem k_im_Numbers_add : Cond.instanceMethod y_Numbers_add ∈ lw_tbl := List.mem_of_getElem? (i := 347) (by decide +kernel)
theorem k_se_Numbers_add : Cond.selects "SegmentReader$Numbers" y_Numbers_add y_Numbers_add ∈ lw_tbl := List.mem_of_getElem? (i := 348) (by decide +kernel)
theorem k_cd_Numbers_add : Cond.code y_Numbers_add c_Numbers_add 2 none ∈ lw_tbl := List.mem_of_getElem? (i := 349) (by decide +kernel)
theorem k_ml_Numbers_19 : Cond.methodLink "SegmentReader$Numbers" 19 y_Arrays_copyOfI ∈ lw_tbl := List.mem_of_getElem? (i := 350) (by decide +kernel)
theorem k_st_Arrays_copyOfI : Cond.static y_Arrays_copyOfI ∈ lw_tbl := List.mem_of_getElem? (i := 351) (by decide +kernel)
theorem k_cd_Arrays_copyOfI : Cond.code y_Arrays_copyOfI c_Arrays_copyOfI 3 (some (.array .int)) ∈ lw_tbl := List.mem_of_getElem? (i := 352) (by decide +kernel)
theorem k_ml_Arrays_316 : Cond.methodLink "java/util/Arrays" 316 ⟨"[I", "clone", "()Ljava/lang/Object;"⟩ ∈ lw_tbl := List.mem_of_getElem? (i := 353) (by decide +kernel)
theorem k_se_AI_clone : Cond.selects "[I" ⟨"[I", "clone", "()Ljava/lang/Object;"⟩ ⟨"java/lang/Object", "clone", "()Ljava/lang/Object;"⟩ ∈ lw_tbl := List.mem_of_getElem? (i := 355) (by decide +kernel)
theorem k_cl_Arrays_317 : Cond.classLink "java/util/Arrays" 317 "[I" ∈ lw_tbl := List.mem_of_getElem? (i := 357) (by decide +kernel)
theorem k_ml_Parser_95 : Cond.methodLink "SegmentReader$Parser" 95 y_Parser_readContents ∈ lw_tbl := List.mem_of_getElem? (i := 358) (by decide +kernel)
theorem k_im_Parser_readContents : Cond.instanceMethod y_Parser_readContents ∈ lw_tbl := List.mem_of_getElem? (i := 360) (by decide +kernel)
theorem k_cd_Parser_readContents : Cond.code y_Parser_readContents c_Parser_readContents 2 none ∈ lw_tbl := List.mem_of_getElem? (i := 361) (by decide +kernel)
theorem k_ml_Parser_126 : Cond.methodLink "SegmentReader$Parser" 126 y_Parser_readQuantisers ∈ lw_tbl := List.mem_of_getElem? (i := 362) (by decide +kernel)
theorem k_im_Parser_readQuantisers : Cond.instanceMethod y_Parser_readQuantisers ∈ lw_tbl := List.mem_of_getElem? (i := 364) (by decide +kernel)
theorem k_cd_Parser_readQuantisers : Cond.code y_Parser_readQuantisers c_Parser_readQuantisers 6 none ∈ lw_tbl := List.mem_of_getElem? (i := 365) (by decide +kernel)
theorem k_ml_Parser_153 : Cond.methodLink "SegmentReader$Parser" 153 y_Picture_setQuantisers ∈ lw_tbl := List.mem_of_getElem? (i := 366) (by decide +kernel)
theorem k_im_Picture_setQuantisers : Cond.instanceMethod y_Picture_setQuantisers ∈ lw_tbl := List.mem_of_getElem? (i := 367) (by decide +kernel)
theorem k_se_Picture_setQuantisers : Cond.selects "SegmentReader$Picture" y_Picture_setQuantisers y_Picture_setQuantisers ∈ lw_tbl := List.mem_of_getElem? (i := 368) (by decide +kernel)
theorem k_cd_Picture_setQuantisers : Cond.code y_Picture_setQuantisers c_Picture_setQuantisers 3 none ∈ lw_tbl := List.mem_of_getElem? (i := 369) (by decide +kernel)
theorem k_ml_Parser_156 : Cond.methodLink "SegmentReader$Parser" 156 y_Parser_moreContents ∈ lw_tbl := List.mem_of_getElem? (i := 370) (by decide +kernel)
theorem k_im_Parser_moreContents : Cond.instanceMethod y_Parser_moreContents ∈ lw_tbl := List.mem_of_getElem? (i := 372) (by decide +kernel)
theorem k_cd_Parser_moreContents : Cond.code y_Parser_moreContents c_Parser_moreContents 1 (some .boolean) ∈ lw_tbl := List.mem_of_getElem? (i := 373) (by decide +kernel)
theorem k_ml_Parser_129 : Cond.methodLink "SegmentReader$Parser" 129 y_Parser_readWords ∈ lw_tbl := List.mem_of_getElem? (i := 374) (by decide +kernel)
theorem k_im_Parser_readWords : Cond.instanceMethod y_Parser_readWords ∈ lw_tbl := List.mem_of_getElem? (i := 376) (by decide +kernel)
theorem k_cd_Parser_readWords : Cond.code y_Parser_readWords c_Parser_readWords 6 none ∈ lw_tbl := List.mem_of_getElem? (i := 377) (by decide +kernel)
theorem k_ml_Parser_159 : Cond.methodLink "SegmentReader$Parser" 159 y_Parser_takeCounts ∈ lw_tbl := List.mem_of_getElem? (i := 378) (by decide +kernel)
theorem k_im_Parser_takeCounts : Cond.instanceMethod y_Parser_takeCounts ∈ lw_tbl := List.mem_of_getElem? (i := 380) (by decide +kernel)
theorem k_cd_Parser_takeCounts : Cond.code y_Parser_takeCounts c_Parser_takeCounts 5 (some .int) ∈ lw_tbl := List.mem_of_getElem? (i := 381) (by decide +kernel)
theorem k_ml_Parser_162 : Cond.methodLink "SegmentReader$Parser" 162 y_Parser_takeSymbols ∈ lw_tbl := List.mem_of_getElem? (i := 382) (by decide +kernel)
theorem k_im_Parser_takeSymbols : Cond.instanceMethod y_Parser_takeSymbols ∈ lw_tbl := List.mem_of_getElem? (i := 384) (by decide +kernel)
theorem k_cd_Parser_takeSymbols : Cond.code y_Parser_takeSymbols c_Parser_takeSymbols 8 none ∈ lw_tbl := List.mem_of_getElem? (i := 385) (by decide +kernel)
theorem k_ml_Parser_168 : Cond.methodLink "SegmentReader$Parser" 168 y_Arrays_fillJ ∈ lw_tbl := List.mem_of_getElem? (i := 386) (by decide +kernel)
theorem k_st_Arrays_fillJ : Cond.static y_Arrays_fillJ ∈ lw_tbl := List.mem_of_getElem? (i := 387) (by decide +kernel)
theorem k_cd_Arrays_fillJ : Cond.code y_Arrays_fillJ c_Arrays_fillJ 5 none ∈ lw_tbl := List.mem_of_getElem? (i := 388) (by decide +kernel)
theorem k_ml_Parser_165 : Cond.methodLink "SegmentReader$Parser" 165 y_Picture_setWords ∈ lw_tbl := List.mem_of_getElem? (i := 389) (by decide +kernel)
theorem k_im_Picture_setWords : Cond.instanceMethod y_Picture_setWords ∈ lw_tbl := List.mem_of_getElem? (i := 390) (by decide +kernel)
theorem k_se_Picture_setWords : Cond.selects "SegmentReader$Picture" y_Picture_setWords y_Picture_setWords ∈ lw_tbl := List.mem_of_getElem? (i := 391) (by decide +kernel)
theorem k_cd_Picture_setWords : Cond.code y_Picture_setWords c_Picture_setWords 4 none ∈ lw_tbl := List.mem_of_getElem? (i := 392) (by decide +kernel)
theorem k_ml_Picture_113 : Cond.methodLink "SegmentReader$Picture" 113 y_Picture_rowOfWords ∈ lw_tbl := List.mem_of_getElem? (i := 393) (by decide +kernel)
theorem k_im_Picture_rowOfWords : Cond.instanceMethod y_Picture_rowOfWords ∈ lw_tbl := List.mem_of_getElem? (i := 395) (by decide +kernel)
theorem k_cd_Picture_rowOfWords : Cond.code y_Picture_rowOfWords c_Picture_rowOfWords 2 (some .int) ∈ lw_tbl := List.mem_of_getElem? (i := 396) (by decide +kernel)
theorem k_ml_Parser_135 : Cond.methodLink "SegmentReader$Parser" 135 y_Parser_readFrame ∈ lw_tbl := List.mem_of_getElem? (i := 397) (by decide +kernel)
theorem k_im_Parser_readFrame : Cond.instanceMethod y_Parser_readFrame ∈ lw_tbl := List.mem_of_getElem? (i := 399) (by decide +kernel)
theorem k_cd_Parser_readFrame : Cond.code y_Parser_readFrame c_Parser_readFrame 4 none ∈ lw_tbl := List.mem_of_getElem? (i := 400) (by decide +kernel)
theorem k_ml_Parser_174 : Cond.methodLink "SegmentReader$Parser" 174 y_Parser_readComponent ∈ lw_tbl := List.mem_of_getElem? (i := 401) (by decide +kernel)
theorem k_im_Parser_readComponent : Cond.instanceMethod y_Parser_readComponent ∈ lw_tbl := List.mem_of_getElem? (i := 403) (by decide +kernel)
theorem k_cd_Parser_readComponent : Cond.code y_Parser_readComponent c_Parser_readComponent 5 none ∈ lw_tbl := List.mem_of_getElem? (i := 404) (by decide +kernel)
theorem k_ml_Parser_177 : Cond.methodLink "SegmentReader$Parser" 177 y_Picture_placeOfName ∈ lw_tbl := List.mem_of_getElem? (i := 405) (by decide +kernel)
theorem k_im_Picture_placeOfName : Cond.instanceMethod y_Picture_placeOfName ∈ lw_tbl := List.mem_of_getElem? (i := 406) (by decide +kernel)
theorem k_se_Picture_placeOfName : Cond.selects "SegmentReader$Picture" y_Picture_placeOfName y_Picture_placeOfName ∈ lw_tbl := List.mem_of_getElem? (i := 407) (by decide +kernel)
theorem k_cd_Picture_placeOfName : Cond.code y_Picture_placeOfName c_Picture_placeOfName 3 (some .int) ∈ lw_tbl := List.mem_of_getElem? (i := 408) (by decide +kernel)
theorem k_ml_Picture_84 : Cond.methodLink "SegmentReader$Picture" 84 y_Picture_ofComponent ∈ lw_tbl := List.mem_of_getElem? (i := 409) (by decide +kernel)
theorem k_im_Picture_ofComponent : Cond.instanceMethod y_Picture_ofComponent ∈ lw_tbl := List.mem_of_getElem? (i := 410) (by decide +kernel)
theorem k_se_Picture_ofComponent : Cond.selects "SegmentReader$Picture" y_Picture_ofComponent y_Picture_ofComponent ∈ lw_tbl := List.mem_of_getElem? (i := 411) (by decide +kernel)
theorem k_cd_Picture_ofComponent : Cond.code y_Picture_ofComponent c_Picture_ofComponent 3 (some .int) ∈ lw_tbl := List.mem_of_getElem? (i := 412) (by decide +kernel)
theorem k_ml_Parser_180 : Cond.methodLink "SegmentReader$Parser" 180 y_Picture_addComponent ∈ lw_tbl := List.mem_of_getElem? (i := 413) (by decide +kernel)
theorem k_im_Picture_addComponent : Cond.instanceMethod y_Picture_addComponent ∈ lw_tbl := List.mem_of_getElem? (i := 414) (by decide +kernel)
theorem k_se_Picture_addComponent : Cond.selects "SegmentReader$Picture" y_Picture_addComponent y_Picture_addComponent ∈ lw_tbl := List.mem_of_getElem? (i := 415) (by decide +kernel)
theorem k_cd_Picture_addComponent : Cond.code y_Picture_addComponent c_Picture_addComponent 6 none ∈ lw_tbl := List.mem_of_getElem? (i := 416) (by decide +kernel)
theorem k_ml_Parser_138 : Cond.methodLink "SegmentReader$Parser" 138 y_Parser_readScan ∈ lw_tbl := List.mem_of_getElem? (i := 417) (by decide +kernel)
theorem k_im_Parser_readScan : Cond.instanceMethod y_Parser_readScan ∈ lw_tbl := List.mem_of_getElem? (i := 419) (by decide +kernel)
theorem k_cd_Parser_readScan : Cond.code y_Parser_readScan c_Parser_readScan 1 none ∈ lw_tbl := List.mem_of_getElem? (i := 420) (by decide +kernel)
theorem k_ml_Parser_190 : Cond.methodLink "SegmentReader$Parser" 190 y_Parser_takeScanComponents ∈ lw_tbl := List.mem_of_getElem? (i := 421) (by decide +kernel)
theorem k_im_Parser_takeScanComponents : Cond.instanceMethod y_Parser_takeScanComponents ∈ lw_tbl := List.mem_of_getElem? (i := 423) (by decide +kernel)
theorem k_cd_Parser_takeScanComponents : Cond.code y_Parser_takeScanComponents c_Parser_takeScanComponents 6 none ∈ lw_tbl := List.mem_of_getElem? (i := 424) (by decide +kernel)
theorem k_ml_Parser_211 : Cond.methodLink "SegmentReader$Parser" 211 y_Picture_ofComponent ∈ lw_tbl := List.mem_of_getElem? (i := 425) (by decide +kernel)
theorem k_ml_Parser_199 : Cond.methodLink "SegmentReader$Parser" 199 y_Parser_takeBits ∈ lw_tbl := List.mem_of_getElem? (i := 426) (by decide +kernel)
theorem k_im_Parser_takeBits : Cond.instanceMethod y_Parser_takeBits ∈ lw_tbl := List.mem_of_getElem? (i := 428) (by decide +kernel)
theorem k_cd_Parser_takeBits : Cond.code y_Parser_takeBits c_Parser_takeBits 3 none ∈ lw_tbl := List.mem_of_getElem? (i := 429) (by decide +kernel)
theorem k_ml_Parser_202 : Cond.methodLink "SegmentReader$Parser" 202 y_Parser_checkSent ∈ lw_tbl := List.mem_of_getElem? (i := 430) (by decide +kernel)
theorem k_im_Parser_checkSent : Cond.instanceMethod y_Parser_checkSent ∈ lw_tbl := List.mem_of_getElem? (i := 432) (by decide +kernel)
theorem k_cd_Parser_checkSent : Cond.code y_Parser_checkSent c_Parser_checkSent 7 none ∈ lw_tbl := List.mem_of_getElem? (i := 433) (by decide +kernel)
theorem k_ml_Parser_223 : Cond.methodLink "SegmentReader$Parser" 223 y_Scan_placeAt ∈ lw_tbl := List.mem_of_getElem? (i := 434) (by decide +kernel)
theorem k_im_Scan_placeAt : Cond.instanceMethod y_Scan_placeAt ∈ lw_tbl := List.mem_of_getElem? (i := 435) (by decide +kernel)
theorem k_se_Scan_placeAt : Cond.selects "SegmentReader$Scan" y_Scan_placeAt y_Scan_placeAt ∈ lw_tbl := List.mem_of_getElem? (i := 436) (by decide +kernel)
theorem k_cd_Scan_placeAt : Cond.code y_Scan_placeAt c_Scan_placeAt 2 (some .int) ∈ lw_tbl := List.mem_of_getElem? (i := 437) (by decide +kernel)
theorem k_ml_Parser_226 : Cond.methodLink "SegmentReader$Parser" 226 y_Scan_nameAt ∈ lw_tbl := List.mem_of_getElem? (i := 438) (by decide +kernel)
theorem k_im_Scan_nameAt : Cond.instanceMethod y_Scan_nameAt ∈ lw_tbl := List.mem_of_getElem? (i := 439) (by decide +kernel)
theorem k_se_Scan_nameAt : Cond.selects "SegmentReader$Scan" y_Scan_nameAt y_Scan_nameAt ∈ lw_tbl := List.mem_of_getElem? (i := 440) (by decide +kernel)
theorem k_cd_Scan_nameAt : Cond.code y_Scan_nameAt c_Scan_nameAt 2 (some .int) ∈ lw_tbl := List.mem_of_getElem? (i := 441) (by decide +kernel)
theorem k_ml_Parser_205 : Cond.methodLink "SegmentReader$Parser" 205 y_Parser_checkTables ∈ lw_tbl := List.mem_of_getElem? (i := 442) (by decide +kernel)
theorem k_im_Parser_checkTables : Cond.instanceMethod y_Parser_checkTables ∈ lw_tbl := List.mem_of_getElem? (i := 444) (by decide +kernel)
theorem k_cd_Parser_checkTables : Cond.code y_Parser_checkTables c_Parser_checkTables 5 none ∈ lw_tbl := List.mem_of_getElem? (i := 445) (by decide +kernel)
theorem k_ml_Parser_229 : Cond.methodLink "SegmentReader$Parser" 229 y_Picture_hasQuantisers ∈ lw_tbl := List.mem_of_getElem? (i := 446) (by decide +kernel)
theorem k_im_Picture_hasQuantisers : Cond.instanceMethod y_Picture_hasQuantisers ∈ lw_tbl := List.mem_of_getElem? (i := 447) (by decide +kernel)
theorem k_se_Picture_hasQuantisers : Cond.selects "SegmentReader$Picture" y_Picture_hasQuantisers y_Picture_hasQuantisers ∈ lw_tbl := List.mem_of_getElem? (i := 448) (by decide +kernel)
theorem k_cd_Picture_hasQuantisers : Cond.code y_Picture_hasQuantisers c_Picture_hasQuantisers 2 (some .boolean) ∈ lw_tbl := List.mem_of_getElem? (i := 449) (by decide +kernel)
theorem k_ml_Parser_232 : Cond.methodLink "SegmentReader$Parser" 232 y_Picture_placeOfWords ∈ lw_tbl := List.mem_of_getElem? (i := 450) (by decide +kernel)
theorem k_im_Picture_placeOfWords : Cond.instanceMethod y_Picture_placeOfWords ∈ lw_tbl := List.mem_of_getElem? (i := 451) (by decide +kernel)
theorem k_se_Picture_placeOfWords : Cond.selects "SegmentReader$Picture" y_Picture_placeOfWords y_Picture_placeOfWords ∈ lw_tbl := List.mem_of_getElem? (i := 452) (by decide +kernel)
theorem k_cd_Picture_placeOfWords : Cond.code y_Picture_placeOfWords c_Picture_placeOfWords 3 (some .int) ∈ lw_tbl := List.mem_of_getElem? (i := 453) (by decide +kernel)
theorem k_ml_Parser_208 : Cond.methodLink "SegmentReader$Parser" 208 y_Parser_noteSent ∈ lw_tbl := List.mem_of_getElem? (i := 454) (by decide +kernel)
theorem k_im_Parser_noteSent : Cond.instanceMethod y_Parser_noteSent ∈ lw_tbl := List.mem_of_getElem? (i := 456) (by decide +kernel)
theorem k_cd_Parser_noteSent : Cond.code y_Parser_noteSent c_Parser_noteSent 5 none ∈ lw_tbl := List.mem_of_getElem? (i := 457) (by decide +kernel)
theorem k_ml_Parser_144 : Cond.methodLink "SegmentReader$Parser" 144 y_Parser_skipContents ∈ lw_tbl := List.mem_of_getElem? (i := 458) (by decide +kernel)
theorem k_im_Parser_skipContents : Cond.instanceMethod y_Parser_skipContents ∈ lw_tbl := List.mem_of_getElem? (i := 460) (by decide +kernel)
theorem k_cd_Parser_skipContents : Cond.code y_Parser_skipContents c_Parser_skipContents 1 none ∈ lw_tbl := List.mem_of_getElem? (i := 461) (by decide +kernel)
theorem k_ml_Parser_99 : Cond.methodLink "SegmentReader$Parser" 99 y_Parser_readData ∈ lw_tbl := List.mem_of_getElem? (i := 462) (by decide +kernel)
theorem k_im_Parser_readData : Cond.instanceMethod y_Parser_readData ∈ lw_tbl := List.mem_of_getElem? (i := 464) (by decide +kernel)
theorem k_cd_Parser_readData : Cond.code y_Parser_readData c_Parser_readData 5 none ∈ lw_tbl := List.mem_of_getElem? (i := 465) (by decide +kernel)
theorem k_ml_Parser_235 : Cond.methodLink "SegmentReader$Parser" 235 y_Parser_endData ∈ lw_tbl := List.mem_of_getElem? (i := 466) (by decide +kernel)
theorem k_im_Parser_endData : Cond.instanceMethod y_Parser_endData ∈ lw_tbl := List.mem_of_getElem? (i := 468) (by decide +kernel)
theorem k_cd_Parser_endData : Cond.code y_Parser_endData c_Parser_endData 4 none ∈ lw_tbl := List.mem_of_getElem? (i := 469) (by decide +kernel)
theorem k_ml_Parser_239 : Cond.methodLink "SegmentReader$Parser" 239 y_Picture_scanCount ∈ lw_tbl := List.mem_of_getElem? (i := 470) (by decide +kernel)
theorem k_im_Picture_scanCount : Cond.instanceMethod y_Picture_scanCount ∈ lw_tbl := List.mem_of_getElem? (i := 471) (by decide +kernel)
theorem k_se_Picture_scanCount : Cond.selects "SegmentReader$Picture" y_Picture_scanCount y_Picture_scanCount ∈ lw_tbl := List.mem_of_getElem? (i := 472) (by decide +kernel)
theorem k_cd_Picture_scanCount : Cond.code y_Picture_scanCount c_Picture_scanCount 1 (some .int) ∈ lw_tbl := List.mem_of_getElem? (i := 473) (by decide +kernel)
theorem k_ml_Parser_242 : Cond.methodLink "SegmentReader$Parser" 242 y_Picture_addScan ∈ lw_tbl := List.mem_of_getElem? (i := 474) (by decide +kernel)
theorem k_im_Picture_addScan : Cond.instanceMethod y_Picture_addScan ∈ lw_tbl := List.mem_of_getElem? (i := 475) (by decide +kernel)
theorem k_se_Picture_addScan : Cond.selects "SegmentReader$Picture" y_Picture_addScan y_Picture_addScan ∈ lw_tbl := List.mem_of_getElem? (i := 476) (by decide +kernel)
theorem k_cd_Picture_addScan : Cond.code y_Picture_addScan c_Picture_addScan 5 none ∈ lw_tbl := List.mem_of_getElem? (i := 477) (by decide +kernel)
theorem k_ml_Reader_55 : Cond.methodLink "SegmentReader" 55 y_Parser_finish ∈ lw_tbl := List.mem_of_getElem? (i := 478) (by decide +kernel)
theorem k_im_Parser_finish : Cond.instanceMethod y_Parser_finish ∈ lw_tbl := List.mem_of_getElem? (i := 479) (by decide +kernel)
theorem k_se_Parser_finish : Cond.selects "SegmentReader$Parser" y_Parser_finish y_Parser_finish ∈ lw_tbl := List.mem_of_getElem? (i := 480) (by decide +kernel)
theorem k_cd_Parser_finish : Cond.code y_Parser_finish c_Parser_finish 1 (some .int) ∈ lw_tbl := List.mem_of_getElem? (i := 481) (by decide +kernel)
theorem k_ml_Law_29 : Cond.methodLink "SegmentReaderLaw" 29 y_Reader_segment ∈ lw_tbl := List.mem_of_getElem? (i := 482) (by decide +kernel)
theorem k_im_Reader_segment : Cond.instanceMethod y_Reader_segment ∈ lw_tbl := List.mem_of_getElem? (i := 483) (by decide +kernel)
theorem k_se_Reader_segment : Cond.selects "SegmentReader" y_Reader_segment y_Reader_segment ∈ lw_tbl := List.mem_of_getElem? (i := 484) (by decide +kernel)
theorem k_cd_Reader_segment : Cond.code y_Reader_segment c_Reader_segment 3 (some .int) ∈ lw_tbl := List.mem_of_getElem? (i := 485) (by decide +kernel)
theorem k_ml_Reader_59 : Cond.methodLink "SegmentReader" 59 y_Picture_ofSegment ∈ lw_tbl := List.mem_of_getElem? (i := 486) (by decide +kernel)
theorem k_im_Picture_ofSegment : Cond.instanceMethod y_Picture_ofSegment ∈ lw_tbl := List.mem_of_getElem? (i := 487) (by decide +kernel)
theorem k_se_Picture_ofSegment : Cond.selects "SegmentReader$Picture" y_Picture_ofSegment y_Picture_ofSegment ∈ lw_tbl := List.mem_of_getElem? (i := 488) (by decide +kernel)
theorem k_cd_Picture_ofSegment : Cond.code y_Picture_ofSegment c_Picture_ofSegment 4 (some .int) ∈ lw_tbl := List.mem_of_getElem? (i := 489) (by decide +kernel)
theorem k_ml_Picture_70 : Cond.methodLink "SegmentReader$Picture" 70 y_Picture_segmentCount ∈ lw_tbl := List.mem_of_getElem? (i := 490) (by decide +kernel)
theorem k_im_Picture_segmentCount : Cond.instanceMethod y_Picture_segmentCount ∈ lw_tbl := List.mem_of_getElem? (i := 491) (by decide +kernel)
theorem k_se_Picture_segmentCount : Cond.selects "SegmentReader$Picture" y_Picture_segmentCount y_Picture_segmentCount ∈ lw_tbl := List.mem_of_getElem? (i := 492) (by decide +kernel)
theorem k_cd_Picture_segmentCount : Cond.code y_Picture_segmentCount c_Picture_segmentCount 1 (some .int) ∈ lw_tbl := List.mem_of_getElem? (i := 493) (by decide +kernel)
theorem k_ml_Picture_74 : Cond.methodLink "SegmentReader$Picture" 74 y_Numbers_at ∈ lw_tbl := List.mem_of_getElem? (i := 494) (by decide +kernel)
theorem k_im_Numbers_at : Cond.instanceMethod y_Numbers_at ∈ lw_tbl := List.mem_of_getElem? (i := 495) (by decide +kernel)
theorem k_se_Numbers_at : Cond.selects "SegmentReader$Numbers" y_Numbers_at y_Numbers_at ∈ lw_tbl := List.mem_of_getElem? (i := 496) (by decide +kernel)
theorem k_cd_Numbers_at : Cond.code y_Numbers_at c_Numbers_at 2 (some .int) ∈ lw_tbl := List.mem_of_getElem? (i := 497) (by decide +kernel)
theorem k_ml_Picture_78 : Cond.methodLink "SegmentReader$Picture" 78 y_Bytes_at ∈ lw_tbl := List.mem_of_getElem? (i := 498) (by decide +kernel)
theorem k_ml_Law_34 : Cond.methodLink "SegmentReaderLaw" 34 y_Reader_frame ∈ lw_tbl := List.mem_of_getElem? (i := 499) (by decide +kernel)
theorem k_im_Reader_frame : Cond.instanceMethod y_Reader_frame ∈ lw_tbl := List.mem_of_getElem? (i := 500) (by decide +kernel)
theorem k_se_Reader_frame : Cond.selects "SegmentReader" y_Reader_frame y_Reader_frame ∈ lw_tbl := List.mem_of_getElem? (i := 501) (by decide +kernel)
theorem k_cd_Reader_frame : Cond.code y_Reader_frame c_Reader_frame 2 (some .int) ∈ lw_tbl := List.mem_of_getElem? (i := 502) (by decide +kernel)
theorem k_ml_Reader_63 : Cond.methodLink "SegmentReader" 63 y_Picture_ofFrame ∈ lw_tbl := List.mem_of_getElem? (i := 503) (by decide +kernel)
theorem k_im_Picture_ofFrame : Cond.instanceMethod y_Picture_ofFrame ∈ lw_tbl := List.mem_of_getElem? (i := 504) (by decide +kernel)
theorem k_se_Picture_ofFrame : Cond.selects "SegmentReader$Picture" y_Picture_ofFrame y_Picture_ofFrame ∈ lw_tbl := List.mem_of_getElem? (i := 505) (by decide +kernel)
theorem k_cd_Picture_ofFrame : Cond.code y_Picture_ofFrame c_Picture_ofFrame 2 (some .int) ∈ lw_tbl := List.mem_of_getElem? (i := 506) (by decide +kernel)
theorem k_ml_Picture_81 : Cond.methodLink "SegmentReader$Picture" 81 y_Picture_greatest ∈ lw_tbl := List.mem_of_getElem? (i := 507) (by decide +kernel)
theorem k_im_Picture_greatest : Cond.instanceMethod y_Picture_greatest ∈ lw_tbl := List.mem_of_getElem? (i := 509) (by decide +kernel)
theorem k_cd_Picture_greatest : Cond.code y_Picture_greatest c_Picture_greatest 4 (some .int) ∈ lw_tbl := List.mem_of_getElem? (i := 510) (by decide +kernel)
theorem k_ml_Picture_88 : Cond.methodLink "SegmentReader$Picture" 88 y_Math_max ∈ lw_tbl := List.mem_of_getElem? (i := 511) (by decide +kernel)
theorem k_st_Math_max : Cond.static y_Math_max ∈ lw_tbl := List.mem_of_getElem? (i := 512) (by decide +kernel)
theorem k_cd_Math_max : Cond.code y_Math_max c_Math_max 2 (some .int) ∈ lw_tbl := List.mem_of_getElem? (i := 513) (by decide +kernel)
theorem k_ml_Law_39 : Cond.methodLink "SegmentReaderLaw" 39 y_Reader_component ∈ lw_tbl := List.mem_of_getElem? (i := 514) (by decide +kernel)
theorem k_im_Reader_component : Cond.instanceMethod y_Reader_component ∈ lw_tbl := List.mem_of_getElem? (i := 515) (by decide +kernel)
theorem k_se_Reader_component : Cond.selects "SegmentReader" y_Reader_component y_Reader_component ∈ lw_tbl := List.mem_of_getElem? (i := 516) (by decide +kernel)
theorem k_cd_Reader_component : Cond.code y_Reader_component c_Reader_component 3 (some .int) ∈ lw_tbl := List.mem_of_getElem? (i := 517) (by decide +kernel)
theorem k_ml_Reader_67 : Cond.methodLink "SegmentReader" 67 y_Picture_ofComponent ∈ lw_tbl := List.mem_of_getElem? (i := 518) (by decide +kernel)
theorem k_ml_Law_43 : Cond.methodLink "SegmentReaderLaw" 43 y_Reader_scan ∈ lw_tbl := List.mem_of_getElem? (i := 519) (by decide +kernel)
theorem k_im_Reader_scan : Cond.instanceMethod y_Reader_scan ∈ lw_tbl := List.mem_of_getElem? (i := 520) (by decide +kernel)
theorem k_se_Reader_scan : Cond.selects "SegmentReader" y_Reader_scan y_Reader_scan ∈ lw_tbl := List.mem_of_getElem? (i := 521) (by decide +kernel)
theorem k_cd_Reader_scan : Cond.code y_Reader_scan c_Reader_scan 3 (some .int) ∈ lw_tbl := List.mem_of_getElem? (i := 522) (by decide +kernel)
theorem k_ml_Reader_70 : Cond.methodLink "SegmentReader" 70 y_Picture_ofScan ∈ lw_tbl := List.mem_of_getElem? (i := 523) (by decide +kernel)
theorem k_im_Picture_ofScan : Cond.instanceMethod y_Picture_ofScan ∈ lw_tbl := List.mem_of_getElem? (i := 524) (by decide +kernel)
theorem k_se_Picture_ofScan : Cond.selects "SegmentReader$Picture" y_Picture_ofScan y_Picture_ofScan ∈ lw_tbl := List.mem_of_getElem? (i := 525) (by decide +kernel)
theorem k_cd_Picture_ofScan : Cond.code y_Picture_ofScan c_Picture_ofScan 7 (some .int) ∈ lw_tbl := List.mem_of_getElem? (i := 526) (by decide +kernel)
theorem k_ml_Picture_93 : Cond.methodLink "SegmentReader$Picture" 93 y_Picture_scanCount ∈ lw_tbl := List.mem_of_getElem? (i := 527) (by decide +kernel)
theorem k_ml_Picture_96 : Cond.methodLink "SegmentReader$Picture" 96 y_Picture_ofScanComponent ∈ lw_tbl := List.mem_of_getElem? (i := 528) (by decide +kernel)
theorem k_im_Picture_ofScanComponent : Cond.instanceMethod y_Picture_ofScanComponent ∈ lw_tbl := List.mem_of_getElem? (i := 530) (by decide +kernel)
theorem k_cd_Picture_ofScanComponent : Cond.code y_Picture_ofScanComponent c_Picture_ofScanComponent 6 (some .int) ∈ lw_tbl := List.mem_of_getElem? (i := 531) (by decide +kernel)
theorem k_ml_Picture_100 : Cond.methodLink "SegmentReader$Picture" 100 y_Picture_placeOfName ∈ lw_tbl := List.mem_of_getElem? (i := 532) (by decide +kernel)
theorem k_ml_Law_47 : Cond.methodLink "SegmentReaderLaw" 47 y_Reader_data ∈ lw_tbl := List.mem_of_getElem? (i := 533) (by decide +kernel)
theorem k_im_Reader_data : Cond.instanceMethod y_Reader_data ∈ lw_tbl := List.mem_of_getElem? (i := 534) (by decide +kernel)
theorem k_se_Reader_data : Cond.selects "SegmentReader" y_Reader_data y_Reader_data ∈ lw_tbl := List.mem_of_getElem? (i := 535) (by decide +kernel)
theorem k_cd_Reader_data : Cond.code y_Reader_data c_Reader_data 3 (some .int) ∈ lw_tbl := List.mem_of_getElem? (i := 536) (by decide +kernel)
theorem k_ml_Reader_73 : Cond.methodLink "SegmentReader" 73 y_Picture_dataByte ∈ lw_tbl := List.mem_of_getElem? (i := 537) (by decide +kernel)
theorem k_im_Picture_dataByte : Cond.instanceMethod y_Picture_dataByte ∈ lw_tbl := List.mem_of_getElem? (i := 538) (by decide +kernel)
theorem k_se_Picture_dataByte : Cond.selects "SegmentReader$Picture" y_Picture_dataByte y_Picture_dataByte ∈ lw_tbl := List.mem_of_getElem? (i := 539) (by decide +kernel)
theorem k_cd_Picture_dataByte : Cond.code y_Picture_dataByte c_Picture_dataByte 8 (some .int) ∈ lw_tbl := List.mem_of_getElem? (i := 540) (by decide +kernel)
theorem k_ml_Law_51 : Cond.methodLink "SegmentReaderLaw" 51 y_Reader_quantiser ∈ lw_tbl := List.mem_of_getElem? (i := 541) (by decide +kernel)
theorem k_im_Reader_quantiser : Cond.instanceMethod y_Reader_quantiser ∈ lw_tbl := List.mem_of_getElem? (i := 542) (by decide +kernel)
theorem k_se_Reader_quantiser : Cond.selects "SegmentReader" y_Reader_quantiser y_Reader_quantiser ∈ lw_tbl := List.mem_of_getElem? (i := 543) (by decide +kernel)
theorem k_cd_Reader_quantiser : Cond.code y_Reader_quantiser c_Reader_quantiser 3 (some .int) ∈ lw_tbl := List.mem_of_getElem? (i := 544) (by decide +kernel)
theorem k_ml_Reader_76 : Cond.methodLink "SegmentReader" 76 y_Picture_quantiserValue ∈ lw_tbl := List.mem_of_getElem? (i := 545) (by decide +kernel)
theorem k_im_Picture_quantiserValue : Cond.instanceMethod y_Picture_quantiserValue ∈ lw_tbl := List.mem_of_getElem? (i := 546) (by decide +kernel)
theorem k_se_Picture_quantiserValue : Cond.selects "SegmentReader$Picture" y_Picture_quantiserValue y_Picture_quantiserValue ∈ lw_tbl := List.mem_of_getElem? (i := 547) (by decide +kernel)
theorem k_cd_Picture_quantiserValue : Cond.code y_Picture_quantiserValue c_Picture_quantiserValue 3 (some .int) ∈ lw_tbl := List.mem_of_getElem? (i := 548) (by decide +kernel)
theorem k_ml_Picture_103 : Cond.methodLink "SegmentReader$Picture" 103 y_Picture_hasQuantisers ∈ lw_tbl := List.mem_of_getElem? (i := 549) (by decide +kernel)
theorem k_ml_Law_55 : Cond.methodLink "SegmentReaderLaw" 55 y_Reader_word ∈ lw_tbl := List.mem_of_getElem? (i := 550) (by decide +kernel)
theorem k_im_Reader_word : Cond.instanceMethod y_Reader_word ∈ lw_tbl := List.mem_of_getElem? (i := 551) (by decide +kernel)
theorem k_se_Reader_word : Cond.selects "SegmentReader" y_Reader_word y_Reader_word ∈ lw_tbl := List.mem_of_getElem? (i := 552) (by decide +kernel)
theorem k_cd_Reader_word : Cond.code y_Reader_word c_Reader_word 4 (some .int) ∈ lw_tbl := List.mem_of_getElem? (i := 553) (by decide +kernel)
theorem k_ml_Reader_79 : Cond.methodLink "SegmentReader" 79 y_Picture_ofWords ∈ lw_tbl := List.mem_of_getElem? (i := 554) (by decide +kernel)
theorem k_im_Picture_ofWords : Cond.instanceMethod y_Picture_ofWords ∈ lw_tbl := List.mem_of_getElem? (i := 555) (by decide +kernel)
theorem k_se_Picture_ofWords : Cond.selects "SegmentReader$Picture" y_Picture_ofWords y_Picture_ofWords ∈ lw_tbl := List.mem_of_getElem? (i := 556) (by decide +kernel)
theorem k_cd_Picture_ofWords : Cond.code y_Picture_ofWords c_Picture_ofWords 5 (some .int) ∈ lw_tbl := List.mem_of_getElem? (i := 557) (by decide +kernel)
theorem k_ml_Picture_107 : Cond.methodLink "SegmentReader$Picture" 107 y_Picture_placeOfWords ∈ lw_tbl := List.mem_of_getElem? (i := 558) (by decide +kernel)
theorem k_ml_Picture_110 : Cond.methodLink "SegmentReader$Picture" 110 y_Picture_wordCount ∈ lw_tbl := List.mem_of_getElem? (i := 559) (by decide +kernel)
theorem k_im_Picture_wordCount : Cond.instanceMethod y_Picture_wordCount ∈ lw_tbl := List.mem_of_getElem? (i := 561) (by decide +kernel)
theorem k_cd_Picture_wordCount : Cond.code y_Picture_wordCount c_Picture_wordCount 4 (some .int) ∈ lw_tbl := List.mem_of_getElem? (i := 562) (by decide +kernel)
theorem k_ml_Law_60 : Cond.methodLink "SegmentReaderLaw" 60 y_Reader_look ∈ lw_tbl := List.mem_of_getElem? (i := 563) (by decide +kernel)
theorem k_im_Reader_look : Cond.instanceMethod y_Reader_look ∈ lw_tbl := List.mem_of_getElem? (i := 564) (by decide +kernel)
theorem k_se_Reader_look : Cond.selects "SegmentReader" y_Reader_look y_Reader_look ∈ lw_tbl := List.mem_of_getElem? (i := 565) (by decide +kernel)
theorem k_cd_Reader_look : Cond.code y_Reader_look c_Reader_look 2 (some .int) ∈ lw_tbl := List.mem_of_getElem? (i := 566) (by decide +kernel)
theorem k_ml_Reader_89 : Cond.methodLink "SegmentReader" 89 y_Picture_segmentCount ∈ lw_tbl := List.mem_of_getElem? (i := 567) (by decide +kernel)
theorem k_ml_Reader_92 : Cond.methodLink "SegmentReader" 92 y_Picture_scanCount ∈ lw_tbl := List.mem_of_getElem? (i := 568) (by decide +kernel)
theorem k_cl_Law_10 : Cond.classLink "SegmentReaderLaw" 10 "SegmentReaderModel" ∈ lw_tbl := List.mem_of_getElem? (i := 569) (by decide +kernel)
theorem k_is_Model : Cond.instantiable "SegmentReaderModel" 40 ∈ lw_tbl := List.mem_of_getElem? (i := 570) (by decide +kernel)
theorem k_ml_Law_12 : Cond.methodLink "SegmentReaderLaw" 12 y_Model_init ∈ lw_tbl := List.mem_of_getElem? (i := 571) (by decide +kernel)
theorem k_im_Model_init : Cond.instanceMethod y_Model_init ∈ lw_tbl := List.mem_of_getElem? (i := 572) (by decide +kernel)
theorem k_cd_Model_init : Cond.code y_Model_init c_Model_init 1 none ∈ lw_tbl := List.mem_of_getElem? (i := 573) (by decide +kernel)
theorem k_ml_Model_1 : Cond.methodLink "SegmentReaderModel" 1 ⟨"java/lang/Object", "<init>", "()V"⟩ ∈ lw_tbl := List.mem_of_getElem? (i := 574) (by decide +kernel)
theorem k_co_Model_52 : Cond.constant "SegmentReaderModel" 52 (61440 : Int32) ∈ lw_tbl := List.mem_of_getElem? (i := 575) (by decide +kernel)
theorem k_ml_Model_74 : Cond.methodLink "SegmentReaderModel" 74 y_Model_forget ∈ lw_tbl := List.mem_of_getElem? (i := 576) (by decide +kernel)
theorem k_im_Model_forget : Cond.instanceMethod y_Model_forget ∈ lw_tbl := List.mem_of_getElem? (i := 578) (by decide +kernel)
theorem k_cd_Model_forget : Cond.code y_Model_forget c_Model_forget 2 none ∈ lw_tbl := List.mem_of_getElem? (i := 579) (by decide +kernel)
theorem k_fl_Model_77 : Cond.fieldLink "SegmentReaderModel" 77 "SegmentReaderModel" "thrown" "I" ∈ lw_tbl := List.mem_of_getElem? (i := 580) (by decide +kernel)
theorem k_fl_Model_7 : Cond.fieldLink "SegmentReaderModel" 7 "SegmentReaderModel" "input" "[B" ∈ lw_tbl := List.mem_of_getElem? (i := 581) (by decide +kernel)
theorem k_fl_Model_104 : Cond.fieldLink "SegmentReaderModel" 104 "SegmentReaderModel" "size" "I" ∈ lw_tbl := List.mem_of_getElem? (i := 582) (by decide +kernel)
theorem k_fl_Model_107 : Cond.fieldLink "SegmentReaderModel" 107 "SegmentReaderModel" "fault" "I" ∈ lw_tbl := List.mem_of_getElem? (i := 583) (by decide +kernel)
theorem k_fl_Model_13 : Cond.fieldLink "SegmentReaderModel" 13 "SegmentReaderModel" "place" "I" ∈ lw_tbl := List.mem_of_getElem? (i := 584) (by decide +kernel)
theorem k_fl_Model_113 : Cond.fieldLink "SegmentReaderModel" 113 "SegmentReaderModel" "p" "I" ∈ lw_tbl := List.mem_of_getElem? (i := 585) (by decide +kernel)
theorem k_fl_Model_110 : Cond.fieldLink "SegmentReaderModel" 110 "SegmentReaderModel" "end" "I" ∈ lw_tbl := List.mem_of_getElem? (i := 586) (by decide +kernel)
theorem k_fl_Model_134 : Cond.fieldLink "SegmentReaderModel" 134 "SegmentReaderModel" "first" "I" ∈ lw_tbl := List.mem_of_getElem? (i := 587) (by decide +kernel)
theorem k_fl_Model_80 : Cond.fieldLink "SegmentReaderModel" 80 "SegmentReaderModel" "ends" "I" ∈ lw_tbl := List.mem_of_getElem? (i := 588) (by decide +kernel)
theorem k_fl_Model_83 : Cond.fieldLink "SegmentReaderModel" 83 "SegmentReaderModel" "segments" "I" ∈ lw_tbl := List.mem_of_getElem? (i := 589) (by decide +kernel)
theorem k_fl_Model_17 : Cond.fieldLink "SegmentReaderModel" 17 "SegmentReaderModel" "segmentRows" "[I" ∈ lw_tbl := List.mem_of_getElem? (i := 590) (by decide +kernel)
theorem k_fl_Model_86 : Cond.fieldLink "SegmentReaderModel" 86 "SegmentReaderModel" "frameCode" "I" ∈ lw_tbl := List.mem_of_getElem? (i := 591) (by decide +kernel)
theorem k_fl_Model_89 : Cond.fieldLink "SegmentReaderModel" 89 "SegmentReaderModel" "width" "I" ∈ lw_tbl := List.mem_of_getElem? (i := 592) (by decide +kernel)
theorem k_fl_Model_92 : Cond.fieldLink "SegmentReaderModel" 92 "SegmentReaderModel" "height" "I" ∈ lw_tbl := List.mem_of_getElem? (i := 593) (by decide +kernel)
theorem k_fl_Model_95 : Cond.fieldLink "SegmentReaderModel" 95 "SegmentReaderModel" "components" "I" ∈ lw_tbl := List.mem_of_getElem? (i := 594) (by decide +kernel)
theorem k_fl_Model_21 : Cond.fieldLink "SegmentReaderModel" 21 "SegmentReaderModel" "names" "[I" ∈ lw_tbl := List.mem_of_getElem? (i := 595) (by decide +kernel)
theorem k_fl_Model_24 : Cond.fieldLink "SegmentReaderModel" 24 "SegmentReaderModel" "across" "[I" ∈ lw_tbl := List.mem_of_getElem? (i := 596) (by decide +kernel)
theorem k_fl_Model_27 : Cond.fieldLink "SegmentReaderModel" 27 "SegmentReaderModel" "down" "[I" ∈ lw_tbl := List.mem_of_getElem? (i := 597) (by decide +kernel)
theorem k_fl_Model_30 : Cond.fieldLink "SegmentReaderModel" 30 "SegmentReaderModel" "tables" "[I" ∈ lw_tbl := List.mem_of_getElem? (i := 598) (by decide +kernel)
theorem k_fl_Model_98 : Cond.fieldLink "SegmentReaderModel" 98 "SegmentReaderModel" "interval" "I" ∈ lw_tbl := List.mem_of_getElem? (i := 599) (by decide +kernel)
theorem k_fl_Model_33 : Cond.fieldLink "SegmentReaderModel" 33 "SegmentReaderModel" "hasQuantiser" "[Z" ∈ lw_tbl := List.mem_of_getElem? (i := 600) (by decide +kernel)
theorem k_fl_Model_37 : Cond.fieldLink "SegmentReaderModel" 37 "SegmentReaderModel" "quantisers" "[I" ∈ lw_tbl := List.mem_of_getElem? (i := 601) (by decide +kernel)
theorem k_fl_Model_40 : Cond.fieldLink "SegmentReaderModel" 40 "SegmentReaderModel" "hasWords" "[Z" ∈ lw_tbl := List.mem_of_getElem? (i := 602) (by decide +kernel)
theorem k_fl_Model_43 : Cond.fieldLink "SegmentReaderModel" 43 "SegmentReaderModel" "counts" "[I" ∈ lw_tbl := List.mem_of_getElem? (i := 603) (by decide +kernel)
theorem k_fl_Model_46 : Cond.fieldLink "SegmentReaderModel" 46 "SegmentReaderModel" "symbols" "[I" ∈ lw_tbl := List.mem_of_getElem? (i := 604) (by decide +kernel)
theorem k_fl_Model_49 : Cond.fieldLink "SegmentReaderModel" 49 "SegmentReaderModel" "symbolMany" "[I" ∈ lw_tbl := List.mem_of_getElem? (i := 605) (by decide +kernel)
theorem k_fl_Model_101 : Cond.fieldLink "SegmentReaderModel" 101 "SegmentReaderModel" "scans" "I" ∈ lw_tbl := List.mem_of_getElem? (i := 606) (by decide +kernel)
theorem k_fl_Model_53 : Cond.fieldLink "SegmentReaderModel" 53 "SegmentReaderModel" "scanRows" "[I" ∈ lw_tbl := List.mem_of_getElem? (i := 607) (by decide +kernel)
theorem k_fl_Model_56 : Cond.fieldLink "SegmentReaderModel" 56 "SegmentReaderModel" "latest" "[I" ∈ lw_tbl := List.mem_of_getElem? (i := 608) (by decide +kernel)
theorem k_fl_Model_150 : Cond.fieldLink "SegmentReaderModel" 150 "SegmentReaderModel" "many" "I" ∈ lw_tbl := List.mem_of_getElem? (i := 609) (by decide +kernel)
theorem k_fl_Model_59 : Cond.fieldLink "SegmentReaderModel" 59 "SegmentReaderModel" "which" "[I" ∈ lw_tbl := List.mem_of_getElem? (i := 610) (by decide +kernel)
theorem k_fl_Model_62 : Cond.fieldLink "SegmentReaderModel" 62 "SegmentReaderModel" "dc" "[I" ∈ lw_tbl := List.mem_of_getElem? (i := 611) (by decide +kernel)
theorem k_fl_Model_65 : Cond.fieldLink "SegmentReaderModel" 65 "SegmentReaderModel" "ac" "[I" ∈ lw_tbl := List.mem_of_getElem? (i := 612) (by decide +kernel)
theorem k_fl_Model_68 : Cond.fieldLink "SegmentReaderModel" 68 "SegmentReaderModel" "nameAt" "[I" ∈ lw_tbl := List.mem_of_getElem? (i := 613) (by decide +kernel)
theorem k_fl_Model_71 : Cond.fieldLink "SegmentReaderModel" 71 "SegmentReaderModel" "seen" "[Z" ∈ lw_tbl := List.mem_of_getElem? (i := 614) (by decide +kernel)
theorem k_fl_Model_131 : Cond.fieldLink "SegmentReaderModel" 131 "SegmentReaderModel" "begins" "I" ∈ lw_tbl := List.mem_of_getElem? (i := 615) (by decide +kernel)
theorem k_fl_Model_156 : Cond.fieldLink "SegmentReaderModel" 156 "SegmentReaderModel" "startScan" "I" ∈ lw_tbl := List.mem_of_getElem? (i := 616) (by decide +kernel)
theorem k_fl_Model_159 : Cond.fieldLink "SegmentReaderModel" 159 "SegmentReaderModel" "endScan" "I" ∈ lw_tbl := List.mem_of_getElem? (i := 617) (by decide +kernel)
theorem k_fl_Model_162 : Cond.fieldLink "SegmentReaderModel" 162 "SegmentReaderModel" "before" "I" ∈ lw_tbl := List.mem_of_getElem? (i := 618) (by decide +kernel)
theorem k_fl_Model_165 : Cond.fieldLink "SegmentReaderModel" 165 "SegmentReaderModel" "bits" "I" ∈ lw_tbl := List.mem_of_getElem? (i := 619) (by decide +kernel)
theorem k_ac_boolean : Cond.arrayClass .boolean ∈ lw_tbl := List.mem_of_getElem? (i := 701) (by decide +kernel)
theorem k_ml_Law_19 : Cond.methodLink "SegmentReaderLaw" 19 y_Model_give ∈ lw_tbl := List.mem_of_getElem? (i := 702) (by decide +kernel)
theorem k_im_Model_give : Cond.instanceMethod y_Model_give ∈ lw_tbl := List.mem_of_getElem? (i := 703) (by decide +kernel)
theorem k_se_Model_give : Cond.selects "SegmentReaderModel" y_Model_give y_Model_give ∈ lw_tbl := List.mem_of_getElem? (i := 704) (by decide +kernel)
theorem k_cd_Model_give : Cond.code y_Model_give c_Model_give 5 (some .boolean) ∈ lw_tbl := List.mem_of_getElem? (i := 705) (by decide +kernel)
theorem k_ml_Law_23 : Cond.methodLink "SegmentReaderLaw" 23 y_Model_wipe ∈ lw_tbl := List.mem_of_getElem? (i := 706) (by decide +kernel)
theorem k_im_Model_wipe : Cond.instanceMethod y_Model_wipe ∈ lw_tbl := List.mem_of_getElem? (i := 707) (by decide +kernel)
theorem k_se_Model_wipe : Cond.selects "SegmentReaderModel" y_Model_wipe y_Model_wipe ∈ lw_tbl := List.mem_of_getElem? (i := 708) (by decide +kernel)
theorem k_cd_Model_wipe : Cond.code y_Model_wipe c_Model_wipe 1 none ∈ lw_tbl := List.mem_of_getElem? (i := 709) (by decide +kernel)
theorem k_ml_Law_28 : Cond.methodLink "SegmentReaderLaw" 28 y_Model_read ∈ lw_tbl := List.mem_of_getElem? (i := 710) (by decide +kernel)
theorem k_im_Model_read : Cond.instanceMethod y_Model_read ∈ lw_tbl := List.mem_of_getElem? (i := 711) (by decide +kernel)
theorem k_se_Model_read : Cond.selects "SegmentReaderModel" y_Model_read y_Model_read ∈ lw_tbl := List.mem_of_getElem? (i := 712) (by decide +kernel)
theorem k_cd_Model_read : Cond.code y_Model_read c_Model_read 1 (some .int) ∈ lw_tbl := List.mem_of_getElem? (i := 713) (by decide +kernel)
theorem k_ml_Model_213 : Cond.methodLink "SegmentReaderModel" 213 y_Model_readFile ∈ lw_tbl := List.mem_of_getElem? (i := 714) (by decide +kernel)
theorem k_im_Model_readFile : Cond.instanceMethod y_Model_readFile ∈ lw_tbl := List.mem_of_getElem? (i := 716) (by decide +kernel)
theorem k_cd_Model_readFile : Cond.code y_Model_readFile c_Model_readFile 9 none ∈ lw_tbl := List.mem_of_getElem? (i := 717) (by decide +kernel)
theorem k_ml_Model_128 : Cond.methodLink "SegmentReaderModel" 128 y_Model_next ∈ lw_tbl := List.mem_of_getElem? (i := 718) (by decide +kernel)
theorem k_im_Model_next : Cond.instanceMethod y_Model_next ∈ lw_tbl := List.mem_of_getElem? (i := 720) (by decide +kernel)
theorem k_cd_Model_next : Cond.code y_Model_next c_Model_next 1 (some .int) ∈ lw_tbl := List.mem_of_getElem? (i := 721) (by decide +kernel)
theorem k_ml_Model_116 : Cond.methodLink "SegmentReaderModel" 116 y_Model_lengthAt ∈ lw_tbl := List.mem_of_getElem? (i := 722) (by decide +kernel)
theorem k_im_Model_lengthAt : Cond.instanceMethod y_Model_lengthAt ∈ lw_tbl := List.mem_of_getElem? (i := 724) (by decide +kernel)
theorem k_cd_Model_lengthAt : Cond.code y_Model_lengthAt c_Model_lengthAt 1 (some .int) ∈ lw_tbl := List.mem_of_getElem? (i := 725) (by decide +kernel)
theorem k_ml_Model_120 : Cond.methodLink "SegmentReaderModel" 120 y_Model_wrong ∈ lw_tbl := List.mem_of_getElem? (i := 726) (by decide +kernel)
theorem k_im_Model_wrong : Cond.instanceMethod y_Model_wrong ∈ lw_tbl := List.mem_of_getElem? (i := 728) (by decide +kernel)
theorem k_cd_Model_wrong : Cond.code y_Model_wrong c_Model_wrong 3 (some .int) ∈ lw_tbl := List.mem_of_getElem? (i := 729) (by decide +kernel)
theorem k_ml_Model_124 : Cond.methodLink "SegmentReaderModel" 124 y_Model_byteAt ∈ lw_tbl := List.mem_of_getElem? (i := 730) (by decide +kernel)
theorem k_im_Model_byteAt : Cond.instanceMethod y_Model_byteAt ∈ lw_tbl := List.mem_of_getElem? (i := 732) (by decide +kernel)
theorem k_cd_Model_byteAt : Cond.code y_Model_byteAt c_Model_byteAt 2 (some .int) ∈ lw_tbl := List.mem_of_getElem? (i := 733) (by decide +kernel)
theorem k_ml_Model_178 : Cond.methodLink "SegmentReaderModel" 178 y_Model_marker ∈ lw_tbl := List.mem_of_getElem? (i := 734) (by decide +kernel)
theorem k_im_Model_marker : Cond.instanceMethod y_Model_marker ∈ lw_tbl := List.mem_of_getElem? (i := 736) (by decide +kernel)
theorem k_cd_Model_marker : Cond.code y_Model_marker c_Model_marker 2 (some .int) ∈ lw_tbl := List.mem_of_getElem? (i := 737) (by decide +kernel)
theorem k_ml_Model_181 : Cond.methodLink "SegmentReaderModel" 181 y_Model_isSent ∈ lw_tbl := List.mem_of_getElem? (i := 738) (by decide +kernel)
theorem k_im_Model_isSent : Cond.instanceMethod y_Model_isSent ∈ lw_tbl := List.mem_of_getElem? (i := 740) (by decide +kernel)
theorem k_cd_Model_isSent : Cond.code y_Model_isSent c_Model_isSent 3 (some .boolean) ∈ lw_tbl := List.mem_of_getElem? (i := 741) (by decide +kernel)
theorem k_ml_Model_185 : Cond.methodLink "SegmentReaderModel" 185 y_Model_segment1 ∈ lw_tbl := List.mem_of_getElem? (i := 742) (by decide +kernel)
theorem k_im_Model_segment1 : Cond.instanceMethod y_Model_segment1 ∈ lw_tbl := List.mem_of_getElem? (i := 744) (by decide +kernel)
theorem k_cd_Model_segment1 : Cond.code y_Model_segment1 c_Model_segment1 3 (some .boolean) ∈ lw_tbl := List.mem_of_getElem? (i := 745) (by decide +kernel)
theorem k_ml_Model_189 : Cond.methodLink "SegmentReaderModel" 189 y_Model_open ∈ lw_tbl := List.mem_of_getElem? (i := 746) (by decide +kernel)
theorem k_im_Model_open : Cond.instanceMethod y_Model_open ∈ lw_tbl := List.mem_of_getElem? (i := 748) (by decide +kernel)
theorem k_cd_Model_open : Cond.code y_Model_open c_Model_open 3 none ∈ lw_tbl := List.mem_of_getElem? (i := 749) (by decide +kernel)
theorem k_ml_Model_137 : Cond.methodLink "SegmentReaderModel" 137 y_Model_two ∈ lw_tbl := List.mem_of_getElem? (i := 750) (by decide +kernel)
theorem k_im_Model_two : Cond.instanceMethod y_Model_two ∈ lw_tbl := List.mem_of_getElem? (i := 752) (by decide +kernel)
theorem k_cd_Model_two : Cond.code y_Model_two c_Model_two 2 (some .int) ∈ lw_tbl := List.mem_of_getElem? (i := 753) (by decide +kernel)
theorem k_ml_Model_192 : Cond.methodLink "SegmentReaderModel" 192 y_Model_readQuantisers ∈ lw_tbl := List.mem_of_getElem? (i := 754) (by decide +kernel)
theorem k_im_Model_readQuantisers : Cond.instanceMethod y_Model_readQuantisers ∈ lw_tbl := List.mem_of_getElem? (i := 756) (by decide +kernel)
theorem k_cd_Model_readQuantisers : Cond.code y_Model_readQuantisers c_Model_readQuantisers 5 none ∈ lw_tbl := List.mem_of_getElem? (i := 757) (by decide +kernel)
theorem k_ml_Model_140 : Cond.methodLink "SegmentReaderModel" 140 y_Model_must ∈ lw_tbl := List.mem_of_getElem? (i := 758) (by decide +kernel)
theorem k_im_Model_must : Cond.instanceMethod y_Model_must ∈ lw_tbl := List.mem_of_getElem? (i := 760) (by decide +kernel)
theorem k_cd_Model_must : Cond.code y_Model_must c_Model_must 3 none ∈ lw_tbl := List.mem_of_getElem? (i := 761) (by decide +kernel)
theorem k_ml_Model_195 : Cond.methodLink "SegmentReaderModel" 195 y_Model_readWords ∈ lw_tbl := List.mem_of_getElem? (i := 762) (by decide +kernel)
theorem k_im_Model_readWords : Cond.instanceMethod y_Model_readWords ∈ lw_tbl := List.mem_of_getElem? (i := 764) (by decide +kernel)
theorem k_cd_Model_readWords : Cond.code y_Model_readWords c_Model_readWords 4 none ∈ lw_tbl := List.mem_of_getElem? (i := 765) (by decide +kernel)
theorem k_ml_Model_144 : Cond.methodLink "SegmentReaderModel" 144 y_Model_readTable ∈ lw_tbl := List.mem_of_getElem? (i := 766) (by decide +kernel)
theorem k_im_Model_readTable : Cond.instanceMethod y_Model_readTable ∈ lw_tbl := List.mem_of_getElem? (i := 768) (by decide +kernel)
theorem k_cd_Model_readTable : Cond.code y_Model_readTable c_Model_readTable 7 none ∈ lw_tbl := List.mem_of_getElem? (i := 769) (by decide +kernel)
theorem k_co_Model_148 : Cond.constantLong "SegmentReaderModel" 148 (2 : Int64) ∈ lw_tbl := List.mem_of_getElem? (i := 770) (by decide +kernel)
theorem k_ml_Model_198 : Cond.methodLink "SegmentReaderModel" 198 y_Model_readFrame ∈ lw_tbl := List.mem_of_getElem? (i := 771) (by decide +kernel)
theorem k_im_Model_readFrame : Cond.instanceMethod y_Model_readFrame ∈ lw_tbl := List.mem_of_getElem? (i := 773) (by decide +kernel)
theorem k_cd_Model_readFrame : Cond.code y_Model_readFrame c_Model_readFrame 6 none ∈ lw_tbl := List.mem_of_getElem? (i := 774) (by decide +kernel)
theorem k_ml_Model_201 : Cond.methodLink "SegmentReaderModel" 201 y_Model_readScan ∈ lw_tbl := List.mem_of_getElem? (i := 775) (by decide +kernel)
theorem k_im_Model_readScan : Cond.instanceMethod y_Model_readScan ∈ lw_tbl := List.mem_of_getElem? (i := 777) (by decide +kernel)
theorem k_cd_Model_readScan : Cond.code y_Model_readScan c_Model_readScan 6 none ∈ lw_tbl := List.mem_of_getElem? (i := 778) (by decide +kernel)
theorem k_ml_Model_153 : Cond.methodLink "SegmentReaderModel" 153 y_Model_named ∈ lw_tbl := List.mem_of_getElem? (i := 779) (by decide +kernel)
theorem k_im_Model_named : Cond.instanceMethod y_Model_named ∈ lw_tbl := List.mem_of_getElem? (i := 781) (by decide +kernel)
theorem k_cd_Model_named : Cond.code y_Model_named c_Model_named 4 (some .int) ∈ lw_tbl := List.mem_of_getElem? (i := 782) (by decide +kernel)
theorem k_ml_Model_168 : Cond.methodLink "SegmentReaderModel" 168 y_Model_order ∈ lw_tbl := List.mem_of_getElem? (i := 783) (by decide +kernel)
theorem k_im_Model_order : Cond.instanceMethod y_Model_order ∈ lw_tbl := List.mem_of_getElem? (i := 785) (by decide +kernel)
theorem k_cd_Model_order : Cond.code y_Model_order c_Model_order 7 none ∈ lw_tbl := List.mem_of_getElem? (i := 786) (by decide +kernel)
theorem k_ml_Model_172 : Cond.methodLink "SegmentReaderModel" 172 y_Model_needs ∈ lw_tbl := List.mem_of_getElem? (i := 787) (by decide +kernel)
theorem k_im_Model_needs : Cond.instanceMethod y_Model_needs ∈ lw_tbl := List.mem_of_getElem? (i := 789) (by decide +kernel)
theorem k_cd_Model_needs : Cond.code y_Model_needs c_Model_needs 4 none ∈ lw_tbl := List.mem_of_getElem? (i := 790) (by decide +kernel)
theorem k_ml_Model_204 : Cond.methodLink "SegmentReaderModel" 204 y_Model_any ∈ lw_tbl := List.mem_of_getElem? (i := 791) (by decide +kernel)
theorem k_im_Model_any : Cond.instanceMethod y_Model_any ∈ lw_tbl := List.mem_of_getElem? (i := 793) (by decide +kernel)
theorem k_cd_Model_any : Cond.code y_Model_any c_Model_any 2 none ∈ lw_tbl := List.mem_of_getElem? (i := 794) (by decide +kernel)
theorem k_ml_Model_207 : Cond.methodLink "SegmentReaderModel" 207 y_Model_close ∈ lw_tbl := List.mem_of_getElem? (i := 795) (by decide +kernel)
theorem k_im_Model_close : Cond.instanceMethod y_Model_close ∈ lw_tbl := List.mem_of_getElem? (i := 797) (by decide +kernel)
theorem k_cd_Model_close : Cond.code y_Model_close c_Model_close 3 none ∈ lw_tbl := List.mem_of_getElem? (i := 798) (by decide +kernel)
theorem k_ml_Model_210 : Cond.methodLink "SegmentReaderModel" 210 y_Model_keepScan ∈ lw_tbl := List.mem_of_getElem? (i := 799) (by decide +kernel)
theorem k_im_Model_keepScan : Cond.instanceMethod y_Model_keepScan ∈ lw_tbl := List.mem_of_getElem? (i := 801) (by decide +kernel)
theorem k_cd_Model_keepScan : Cond.code y_Model_keepScan c_Model_keepScan 4 none ∈ lw_tbl := List.mem_of_getElem? (i := 802) (by decide +kernel)
theorem k_ml_Model_175 : Cond.methodLink "SegmentReaderModel" 175 y_Model_readData ∈ lw_tbl := List.mem_of_getElem? (i := 803) (by decide +kernel)
theorem k_im_Model_readData : Cond.instanceMethod y_Model_readData ∈ lw_tbl := List.mem_of_getElem? (i := 805) (by decide +kernel)
theorem k_cd_Model_readData : Cond.code y_Model_readData c_Model_readData 8 none ∈ lw_tbl := List.mem_of_getElem? (i := 806) (by decide +kernel)
theorem k_ml_Law_33 : Cond.methodLink "SegmentReaderLaw" 33 y_Model_segment ∈ lw_tbl := List.mem_of_getElem? (i := 807) (by decide +kernel)
theorem k_im_Model_segment : Cond.instanceMethod y_Model_segment ∈ lw_tbl := List.mem_of_getElem? (i := 808) (by decide +kernel)
theorem k_se_Model_segment : Cond.selects "SegmentReaderModel" y_Model_segment y_Model_segment ∈ lw_tbl := List.mem_of_getElem? (i := 809) (by decide +kernel)
theorem k_cd_Model_segment : Cond.code y_Model_segment c_Model_segment 3 (some .int) ∈ lw_tbl := List.mem_of_getElem? (i := 810) (by decide +kernel)
theorem k_ml_Law_38 : Cond.methodLink "SegmentReaderLaw" 38 y_Model_frame ∈ lw_tbl := List.mem_of_getElem? (i := 811) (by decide +kernel)
theorem k_im_Model_frame : Cond.instanceMethod y_Model_frame ∈ lw_tbl := List.mem_of_getElem? (i := 812) (by decide +kernel)
theorem k_se_Model_frame : Cond.selects "SegmentReaderModel" y_Model_frame y_Model_frame ∈ lw_tbl := List.mem_of_getElem? (i := 813) (by decide +kernel)
theorem k_cd_Model_frame : Cond.code y_Model_frame c_Model_frame 5 (some .int) ∈ lw_tbl := List.mem_of_getElem? (i := 814) (by decide +kernel)
theorem k_ml_Law_42 : Cond.methodLink "SegmentReaderLaw" 42 y_Model_component ∈ lw_tbl := List.mem_of_getElem? (i := 815) (by decide +kernel)
theorem k_im_Model_component : Cond.instanceMethod y_Model_component ∈ lw_tbl := List.mem_of_getElem? (i := 816) (by decide +kernel)
theorem k_se_Model_component : Cond.selects "SegmentReaderModel" y_Model_component y_Model_component ∈ lw_tbl := List.mem_of_getElem? (i := 817) (by decide +kernel)
theorem k_cd_Model_component : Cond.code y_Model_component c_Model_component 3 (some .int) ∈ lw_tbl := List.mem_of_getElem? (i := 818) (by decide +kernel)
theorem k_ml_Law_46 : Cond.methodLink "SegmentReaderLaw" 46 y_Model_scan ∈ lw_tbl := List.mem_of_getElem? (i := 819) (by decide +kernel)
theorem k_im_Model_scan : Cond.instanceMethod y_Model_scan ∈ lw_tbl := List.mem_of_getElem? (i := 820) (by decide +kernel)
theorem k_se_Model_scan : Cond.selects "SegmentReaderModel" y_Model_scan y_Model_scan ∈ lw_tbl := List.mem_of_getElem? (i := 821) (by decide +kernel)
theorem k_cd_Model_scan : Cond.code y_Model_scan c_Model_scan 4 (some .int) ∈ lw_tbl := List.mem_of_getElem? (i := 822) (by decide +kernel)
theorem k_ml_Law_50 : Cond.methodLink "SegmentReaderLaw" 50 y_Model_data ∈ lw_tbl := List.mem_of_getElem? (i := 823) (by decide +kernel)
theorem k_im_Model_data : Cond.instanceMethod y_Model_data ∈ lw_tbl := List.mem_of_getElem? (i := 824) (by decide +kernel)
theorem k_se_Model_data : Cond.selects "SegmentReaderModel" y_Model_data y_Model_data ∈ lw_tbl := List.mem_of_getElem? (i := 825) (by decide +kernel)
theorem k_cd_Model_data : Cond.code y_Model_data c_Model_data 8 (some .int) ∈ lw_tbl := List.mem_of_getElem? (i := 826) (by decide +kernel)
theorem k_ml_Law_54 : Cond.methodLink "SegmentReaderLaw" 54 y_Model_quantiser ∈ lw_tbl := List.mem_of_getElem? (i := 827) (by decide +kernel)
theorem k_im_Model_quantiser : Cond.instanceMethod y_Model_quantiser ∈ lw_tbl := List.mem_of_getElem? (i := 828) (by decide +kernel)
theorem k_se_Model_quantiser : Cond.selects "SegmentReaderModel" y_Model_quantiser y_Model_quantiser ∈ lw_tbl := List.mem_of_getElem? (i := 829) (by decide +kernel)
theorem k_cd_Model_quantiser : Cond.code y_Model_quantiser c_Model_quantiser 4 (some .int) ∈ lw_tbl := List.mem_of_getElem? (i := 830) (by decide +kernel)
theorem k_ml_Law_59 : Cond.methodLink "SegmentReaderLaw" 59 y_Model_word ∈ lw_tbl := List.mem_of_getElem? (i := 831) (by decide +kernel)
theorem k_im_Model_word : Cond.instanceMethod y_Model_word ∈ lw_tbl := List.mem_of_getElem? (i := 832) (by decide +kernel)
theorem k_se_Model_word : Cond.selects "SegmentReaderModel" y_Model_word y_Model_word ∈ lw_tbl := List.mem_of_getElem? (i := 833) (by decide +kernel)
theorem k_cd_Model_word : Cond.code y_Model_word c_Model_word 6 (some .int) ∈ lw_tbl := List.mem_of_getElem? (i := 834) (by decide +kernel)
theorem k_ml_Law_63 : Cond.methodLink "SegmentReaderLaw" 63 y_Model_look ∈ lw_tbl := List.mem_of_getElem? (i := 835) (by decide +kernel)
theorem k_im_Model_look : Cond.instanceMethod y_Model_look ∈ lw_tbl := List.mem_of_getElem? (i := 836) (by decide +kernel)
theorem k_se_Model_look : Cond.selects "SegmentReaderModel" y_Model_look y_Model_look ∈ lw_tbl := List.mem_of_getElem? (i := 837) (by decide +kernel)
theorem k_cd_Model_look : Cond.code y_Model_look c_Model_look 2 (some .int) ∈ lw_tbl := List.mem_of_getElem? (i := 838) (by decide +kernel)
theorem k_co_Law_13 : Cond.constantLong "SegmentReaderLaw" 13 (4294967295 : Int64) ∈ lw_tbl := List.mem_of_getElem? (i := 839) (by decide +kernel)
end
section
theorem d_Reader_init_0 : decode c_Reader_init 0 = .ok (.aload_n 0, 1) := by decide +kernel
theorem d_Reader_init_1 : decode c_Reader_init 1 = .ok (.invokespecial 1, 3) := by decide +kernel
theorem d_Reader_init_4 : decode c_Reader_init 4 = .ok (.aload_n 0, 1) := by decide +kernel
theorem d_Reader_init_5 : decode c_Reader_init 5 = .ok (.new 7, 3) := by decide +kernel
theorem d_Reader_init_8 : decode c_Reader_init 8 = .ok (.dup, 1) := by decide +kernel
theorem d_Reader_init_9 : decode c_Reader_init 9 = .ok (.invokespecial 9, 3) := by decide +kernel
theorem d_Reader_init_12 : decode c_Reader_init 12 = .ok (.putfield 10, 3) := by decide +kernel
theorem d_Reader_init_15 : decode c_Reader_init 15 = .ok (.aload_n 0, 1) := by decide +kernel
theorem d_Reader_init_16 : decode c_Reader_init 16 = .ok (.new 16, 3) := by decide +kernel
theorem d_Reader_init_19 : decode c_Reader_init 19 = .ok (.dup, 1) := by decide +kernel
theorem d_Reader_init_20 : decode c_Reader_init 20 = .ok (.aload_n 0, 1) := by decide +kernel
theorem d_Reader_init_21 : decode c_Reader_init 21 = .ok (.getfield 10, 3) := by decide +kernel
theorem d_Reader_init_24 : decode c_Reader_init 24 = .ok (.invokespecial 18, 3) := by decide +kernel
theorem d_Reader_init_27 : decode c_Reader_init 27 = .ok (.putfield 21, 3) := by decide +kernel
theorem d_Reader_init_30 : decode c_Reader_init 30 = .ok (.aload_n 0, 1) := by decide +kernel
theorem d_Reader_init_31 : decode c_Reader_init 31 = .ok (.new 25, 3) := by decide +kernel
theorem d_Reader_init_34 : decode c_Reader_init 34 = .ok (.dup, 1) := by decide +kernel
theorem d_Reader_init_35 : decode c_Reader_init 35 = .ok (.aload_n 0, 1) := by decide +kernel
theorem d_Reader_init_36 : decode c_Reader_init 36 = .ok (.getfield 10, 3) := by decide +kernel
theorem d_Reader_init_39 : decode c_Reader_init 39 = .ok (.aload_n 0, 1) := by decide +kernel
theorem d_Reader_init_40 : decode c_Reader_init 40 = .ok (.getfield 21, 3) := by decide +kernel
theorem d_Reader_init_43 : decode c_Reader_init 43 = .ok (.invokespecial 27, 3) := by decide +kernel
theorem d_Reader_init_46 : decode c_Reader_init 46 = .ok (.putfield 30, 3) := by decide +kernel
theorem d_Reader_init_49 : decode c_Reader_init 49 = .ok (.return_, 1) := by decide +kernel
theorem d_Bytes_init_0 : decode c_Bytes_init 0 = .ok (.aload_n 0, 1) := by decide +kernel
theorem d_Bytes_init_1 : decode c_Bytes_init 1 = .ok (.invokespecial 3, 3) := by decide +kernel
theorem d_Bytes_init_4 : decode c_Bytes_init 4 = .ok (.aload_n 0, 1) := by decide +kernel
theorem d_Bytes_init_5 : decode c_Bytes_init 5 = .ok (.bipush 64, 2) := by decide +kernel
theorem d_Bytes_init_7 : decode c_Bytes_init 7 = .ok (.newarray .byte, 2) := by decide +kernel
theorem d_Bytes_init_9 : decode c_Bytes_init 9 = .ok (.putfield 9, 3) := by decide +kernel
theorem d_Bytes_init_12 : decode c_Bytes_init 12 = .ok (.aload_n 0, 1) := by decide +kernel
theorem d_Bytes_init_13 : decode c_Bytes_init 13 = .ok (.iconst 0, 1) := by decide +kernel
theorem d_Bytes_init_14 : decode c_Bytes_init 14 = .ok (.putfield 15, 3) := by decide +kernel
theorem d_Bytes_init_17 : decode c_Bytes_init 17 = .ok (.return_, 1) := by decide +kernel
theorem d_Picture_init_0 : decode c_Picture_init 0 = .ok (.aload_n 0, 1) := by decide +kernel
theorem d_Picture_init_1 : decode c_Picture_init 1 = .ok (.invokespecial 3, 3) := by decide +kernel
theorem d_Picture_init_4 : decode c_Picture_init 4 = .ok (.aload_n 0, 1) := by decide +kernel
theorem d_Picture_init_5 : decode c_Picture_init 5 = .ok (.new 9, 3) := by decide +kernel
theorem d_Picture_init_8 : decode c_Picture_init 8 = .ok (.dup, 1) := by decide +kernel
theorem d_Picture_init_9 : decode c_Picture_init 9 = .ok (.invokespecial 11, 3) := by decide +kernel
theorem d_Picture_init_12 : decode c_Picture_init 12 = .ok (.putfield 12, 3) := by decide +kernel
theorem d_Picture_init_15 : decode c_Picture_init 15 = .ok (.aload_n 0, 1) := by decide +kernel
theorem d_Picture_init_16 : decode c_Picture_init 16 = .ok (.new 9, 3) := by decide +kernel
theorem d_Picture_init_19 : decode c_Picture_init 19 = .ok (.dup, 1) := by decide +kernel
theorem d_Picture_init_20 : decode c_Picture_init 20 = .ok (.invokespecial 11, 3) := by decide +kernel
theorem d_Picture_init_23 : decode c_Picture_init 23 = .ok (.putfield 18, 3) := by decide +kernel
theorem d_Picture_init_26 : decode c_Picture_init 26 = .ok (.aload_n 0, 1) := by decide +kernel
theorem d_Picture_init_27 : decode c_Picture_init 27 = .ok (.bipush 16, 2) := by decide +kernel
theorem d_Picture_init_29 : decode c_Picture_init 29 = .ok (.newarray .int, 2) := by decide +kernel
theorem d_Picture_init_31 : decode c_Picture_init 31 = .ok (.putfield 21, 3) := by decide +kernel
theorem d_Picture_init_34 : decode c_Picture_init 34 = .ok (.aload_n 0, 1) := by decide +kernel
theorem d_Picture_init_35 : decode c_Picture_init 35 = .ok (.iconst 4, 1) := by decide +kernel
theorem d_Picture_init_36 : decode c_Picture_init 36 = .ok (.newarray .int, 2) := by decide +kernel
theorem d_Picture_init_38 : decode c_Picture_init 38 = .ok (.putfield 25, 3) := by decide +kernel
theorem d_Picture_init_41 : decode c_Picture_init 41 = .ok (.aload_n 0, 1) := by decide +kernel
theorem d_Picture_init_42 : decode c_Picture_init 42 = .ok (.bipush 8, 2) := by decide +kernel
theorem d_Picture_init_44 : decode c_Picture_init 44 = .ok (.newarray .int, 2) := by decide +kernel
theorem d_Picture_init_46 : decode c_Picture_init 46 = .ok (.putfield 28, 3) := by decide +kernel
theorem d_Picture_init_49 : decode c_Picture_init 49 = .ok (.aload_n 0, 1) := by decide +kernel
theorem d_Picture_init_50 : decode c_Picture_init 50 = .ok (.aload_n 1, 1) := by decide +kernel
theorem d_Picture_init_51 : decode c_Picture_init 51 = .ok (.putfield 31, 3) := by decide +kernel
theorem d_Picture_init_54 : decode c_Picture_init 54 = .ok (.aload_n 0, 1) := by decide +kernel
theorem d_Picture_init_55 : decode c_Picture_init 55 = .ok (.invokevirtual 35, 3) := by decide +kernel
theorem d_Picture_init_58 : decode c_Picture_init 58 = .ok (.return_, 1) := by decide +kernel
theorem d_Numbers_init_0 : decode c_Numbers_init 0 = .ok (.aload_n 0, 1) := by decide +kernel
theorem d_Numbers_init_1 : decode c_Numbers_init 1 = .ok (.invokespecial 3, 3) := by decide +kernel
theorem d_Numbers_init_4 : decode c_Numbers_init 4 = .ok (.aload_n 0, 1) := by decide +kernel
theorem d_Numbers_init_5 : decode c_Numbers_init 5 = .ok (.bipush 16, 2) := by decide +kernel
theorem d_Numbers_init_7 : decode c_Numbers_init 7 = .ok (.newarray .int, 2) := by decide +kernel
theorem d_Numbers_init_9 : decode c_Numbers_init 9 = .ok (.putfield 9, 3) := by decide +kernel
theorem d_Numbers_init_12 : decode c_Numbers_init 12 = .ok (.aload_n 0, 1) := by decide +kernel
theorem d_Numbers_init_13 : decode c_Numbers_init 13 = .ok (.iconst 0, 1) := by decide +kernel
theorem d_Numbers_init_14 : decode c_Numbers_init 14 = .ok (.putfield 15, 3) := by decide +kernel
theorem d_Numbers_init_17 : decode c_Numbers_init 17 = .ok (.return_, 1) := by decide +kernel
theorem d_Picture_clear_0 : decode c_Picture_clear 0 = .ok (.aload_n 0, 1) := by decide +kernel
theorem d_Picture_clear_1 : decode c_Picture_clear 1 = .ok (.getfield 12, 3) := by decide +kernel
theorem d_Picture_clear_4 : decode c_Picture_clear 4 = .ok (.iconst 0, 1) := by decide +kernel
theorem d_Picture_clear_5 : decode c_Picture_clear 5 = .ok (.putfield 38, 3) := by decide +kernel
theorem d_Picture_clear_8 : decode c_Picture_clear 8 = .ok (.aload_n 0, 1) := by decide +kernel
theorem d_Picture_clear_9 : decode c_Picture_clear 9 = .ok (.getfield 18, 3) := by decide +kernel
theorem d_Picture_clear_12 : decode c_Picture_clear 12 = .ok (.iconst 0, 1) := by decide +kernel
theorem d_Picture_clear_13 : decode c_Picture_clear 13 = .ok (.putfield 38, 3) := by decide +kernel
theorem d_Picture_clear_16 : decode c_Picture_clear 16 = .ok (.aload_n 0, 1) := by decide +kernel
theorem d_Picture_clear_17 : decode c_Picture_clear 17 = .ok (.getfield 25, 3) := by decide +kernel
theorem d_Picture_clear_20 : decode c_Picture_clear 20 = .ok (.iconst (-1), 1) := by decide +kernel
theorem d_Picture_clear_21 : decode c_Picture_clear 21 = .ok (.invokestatic 42, 3) := by decide +kernel
theorem d_Picture_clear_24 : decode c_Picture_clear 24 = .ok (.aload_n 0, 1) := by decide +kernel
theorem d_Picture_clear_25 : decode c_Picture_clear 25 = .ok (.getfield 28, 3) := by decide +kernel
theorem d_Picture_clear_28 : decode c_Picture_clear 28 = .ok (.iconst (-1), 1) := by decide +kernel
theorem d_Picture_clear_29 : decode c_Picture_clear 29 = .ok (.invokestatic 42, 3) := by decide +kernel
theorem d_Picture_clear_32 : decode c_Picture_clear 32 = .ok (.aload_n 0, 1) := by decide +kernel
theorem d_Picture_clear_33 : decode c_Picture_clear 33 = .ok (.iconst (-1), 1) := by decide +kernel
theorem d_Picture_clear_34 : decode c_Picture_clear 34 = .ok (.putfield 48, 3) := by decide +kernel
theorem d_Picture_clear_37 : decode c_Picture_clear 37 = .ok (.aload_n 0, 1) := by decide +kernel
theorem d_Picture_clear_38 : decode c_Picture_clear 38 = .ok (.iconst 0, 1) := by decide +kernel
theorem d_Picture_clear_39 : decode c_Picture_clear 39 = .ok (.putfield 51, 3) := by decide +kernel
theorem d_Picture_clear_42 : decode c_Picture_clear 42 = .ok (.aload_n 0, 1) := by decide +kernel
theorem d_Picture_clear_43 : decode c_Picture_clear 43 = .ok (.iconst 0, 1) := by decide +kernel
theorem d_Picture_clear_44 : decode c_Picture_clear 44 = .ok (.putfield 54, 3) := by decide +kernel
theorem d_Picture_clear_47 : decode c_Picture_clear 47 = .ok (.aload_n 0, 1) := by decide +kernel
theorem d_Picture_clear_48 : decode c_Picture_clear 48 = .ok (.iconst 0, 1) := by decide +kernel
theorem d_Picture_clear_49 : decode c_Picture_clear 49 = .ok (.putfield 57, 3) := by decide +kernel
theorem d_Picture_clear_52 : decode c_Picture_clear 52 = .ok (.aload_n 0, 1) := by decide +kernel
theorem d_Picture_clear_53 : decode c_Picture_clear 53 = .ok (.iconst 0, 1) := by decide +kernel
theorem d_Picture_clear_54 : decode c_Picture_clear 54 = .ok (.putfield 60, 3) := by decide +kernel
theorem d_Picture_clear_57 : decode c_Picture_clear 57 = .ok (.aload_n 0, 1) := by decide +kernel
theorem d_Picture_clear_58 : decode c_Picture_clear 58 = .ok (.iconst (-1), 1) := by decide +kernel
theorem d_Picture_clear_59 : decode c_Picture_clear 59 = .ok (.putfield 63, 3) := by decide +kernel
theorem d_Picture_clear_62 : decode c_Picture_clear 62 = .ok (.return_, 1) := by decide +kernel
theorem d_Arrays_fillI_0 : decode c_Arrays_fillI 0 = .ok (.iconst 0, 1) := by decide +kernel
theorem d_Arrays_fillI_1 : decode c_Arrays_fillI 1 = .ok (.istore_n 2, 1) := by decide +kernel
theorem d_Arrays_fillI_2 : decode c_Arrays_fillI 2 = .ok (.aload_n 0, 1) := by decide +kernel
theorem d_Arrays_fillI_3 : decode c_Arrays_fillI 3 = .ok (.arraylength, 1) := by decide +kernel
theorem d_Arrays_fillI_4 : decode c_Arrays_fillI 4 = .ok (.istore_n 3, 1) := by decide +kernel
theorem d_Arrays_fillI_5 : decode c_Arrays_fillI 5 = .ok (.iload_n 2, 1) := by decide +kernel
theorem d_Arrays_fillI_6 : decode c_Arrays_fillI 6 = .ok (.iload_n 3, 1) := by decide +kernel
theorem d_Arrays_fillI_7 : decode c_Arrays_fillI 7 = .ok (.if_icmp .ge 13, 3) := by decide +kernel
theorem d_Arrays_fillI_10 : decode c_Arrays_fillI 10 = .ok (.aload_n 0, 1) := by decide +kernel
theorem d_Arrays_fillI_11 : decode c_Arrays_fillI 11 = .ok (.iload_n 2, 1) := by decide +kernel
theorem d_Arrays_fillI_12 : decode c_Arrays_fillI 12 = .ok (.iload_n 1, 1) := by decide +kernel
theorem d_Arrays_fillI_13 : decode c_Arrays_fillI 13 = .ok (.iastore, 1) := by decide +kernel
theorem d_Arrays_fillI_14 : decode c_Arrays_fillI 14 = .ok (.iinc 2 1, 3) := by decide +kernel
theorem d_Arrays_fillI_17 : decode c_Arrays_fillI 17 = .ok (.goto (-12), 3) := by decide +kernel
theorem d_Arrays_fillI_20 : decode c_Arrays_fillI 20 = .ok (.return_, 1) := by decide +kernel
theorem d_Parser_init_0 : decode c_Parser_init 0 = .ok (.aload_n 0, 1) := by decide +kernel
theorem d_Parser_init_1 : decode c_Parser_init 1 = .ok (.invokespecial 3, 3) := by decide +kernel
theorem d_Parser_init_4 : decode c_Parser_init 4 = .ok (.aload_n 0, 1) := by decide +kernel
theorem d_Parser_init_5 : decode c_Parser_init 5 = .ok (.new 9, 3) := by decide +kernel
theorem d_Parser_init_8 : decode c_Parser_init 8 = .ok (.dup, 1) := by decide +kernel
theorem d_Parser_init_9 : decode c_Parser_init 9 = .ok (.invokespecial 11, 3) := by decide +kernel
theorem d_Parser_init_12 : decode c_Parser_init 12 = .ok (.putfield 12, 3) := by decide +kernel
theorem d_Parser_init_15 : decode c_Parser_init 15 = .ok (.aload_n 0, 1) := by decide +kernel
theorem d_Parser_init_16 : decode c_Parser_init 16 = .ok (.sipush 256, 3) := by decide +kernel
theorem d_Parser_init_19 : decode c_Parser_init 19 = .ok (.newarray .int, 2) := by decide +kernel
theorem d_Parser_init_21 : decode c_Parser_init 21 = .ok (.putfield 18, 3) := by decide +kernel
theorem d_Parser_init_24 : decode c_Parser_init 24 = .ok (.aload_n 0, 1) := by decide +kernel
theorem d_Parser_init_25 : decode c_Parser_init 25 = .ok (.iconst 4, 1) := by decide +kernel
theorem d_Parser_init_26 : decode c_Parser_init 26 = .ok (.newarray .long, 2) := by decide +kernel
theorem d_Parser_init_28 : decode c_Parser_init 28 = .ok (.putfield 22, 3) := by decide +kernel
theorem d_Parser_init_31 : decode c_Parser_init 31 = .ok (.aload_n 0, 1) := by decide +kernel
theorem d_Parser_init_32 : decode c_Parser_init 32 = .ok (.iconst 0, 1) := by decide +kernel
theorem d_Parser_init_33 : decode c_Parser_init 33 = .ok (.putfield 26, 3) := by decide +kernel
theorem d_Parser_init_36 : decode c_Parser_init 36 = .ok (.aload_n 0, 1) := by decide +kernel
theorem d_Parser_init_37 : decode c_Parser_init 37 = .ok (.iconst 0, 1) := by decide +kernel
theorem d_Parser_init_38 : decode c_Parser_init 38 = .ok (.putfield 30, 3) := by decide +kernel
theorem d_Parser_init_41 : decode c_Parser_init 41 = .ok (.aload_n 0, 1) := by decide +kernel
theorem d_Parser_init_42 : decode c_Parser_init 42 = .ok (.iconst 0, 1) := by decide +kernel
theorem d_Parser_init_43 : decode c_Parser_init 43 = .ok (.putfield 33, 3) := by decide +kernel
theorem d_Parser_init_46 : decode c_Parser_init 46 = .ok (.aload_n 0, 1) := by decide +kernel
theorem d_Parser_init_47 : decode c_Parser_init 47 = .ok (.iconst 0, 1) := by decide +kernel
theorem d_Parser_init_48 : decode c_Parser_init 48 = .ok (.putfield 36, 3) := by decide +kernel
theorem d_Parser_init_51 : decode c_Parser_init 51 = .ok (.aload_n 0, 1) := by decide +kernel
theorem d_Parser_init_52 : decode c_Parser_init 52 = .ok (.iconst 0, 1) := by decide +kernel
theorem d_Parser_init_53 : decode c_Parser_init 53 = .ok (.putfield 40, 3) := by decide +kernel
theorem d_Parser_init_56 : decode c_Parser_init 56 = .ok (.aload_n 0, 1) := by decide +kernel
theorem d_Parser_init_57 : decode c_Parser_init 57 = .ok (.iconst (-1), 1) := by decide +kernel
theorem d_Parser_init_58 : decode c_Parser_init 58 = .ok (.putfield 43, 3) := by decide +kernel
theorem d_Parser_init_61 : decode c_Parser_init 61 = .ok (.aload_n 0, 1) := by decide +kernel
theorem d_Parser_init_62 : decode c_Parser_init 62 = .ok (.aload_n 1, 1) := by decide +kernel
theorem d_Parser_init_63 : decode c_Parser_init 63 = .ok (.putfield 46, 3) := by decide +kernel
theorem d_Parser_init_66 : decode c_Parser_init 66 = .ok (.aload_n 0, 1) := by decide +kernel
theorem d_Parser_init_67 : decode c_Parser_init 67 = .ok (.aload_n 2, 1) := by decide +kernel
theorem d_Parser_init_68 : decode c_Parser_init 68 = .ok (.putfield 50, 3) := by decide +kernel
theorem d_Parser_init_71 : decode c_Parser_init 71 = .ok (.return_, 1) := by decide +kernel
theorem d_Scan_init_0 : decode c_Scan_init 0 = .ok (.aload_n 0, 1) := by decide +kernel
theorem d_Scan_init_1 : decode c_Scan_init 1 = .ok (.invokespecial 3, 3) := by decide +kernel
theorem d_Scan_init_4 : decode c_Scan_init 4 = .ok (.aload_n 0, 1) := by decide +kernel
theorem d_Scan_init_5 : decode c_Scan_init 5 = .ok (.iconst 4, 1) := by decide +kernel
theorem d_Scan_init_6 : decode c_Scan_init 6 = .ok (.newarray .int, 2) := by decide +kernel
theorem d_Scan_init_8 : decode c_Scan_init 8 = .ok (.putfield 9, 3) := by decide +kernel
theorem d_Scan_init_11 : decode c_Scan_init 11 = .ok (.return_, 1) := by decide +kernel
theorem d_Reader_give_0 : decode c_Reader_give 0 = .ok (.iload_n 3, 1) := by decide +kernel
theorem d_Reader_give_1 : decode c_Reader_give 1 = .ok (.iconst 1, 1) := by decide +kernel
theorem d_Reader_give_2 : decode c_Reader_give 2 = .ok (.if_icmp .lt 24, 3) := by decide +kernel
theorem d_Reader_give_5 : decode c_Reader_give 5 = .ok (.iload_n 3, 1) := by decide +kernel
theorem d_Reader_give_6 : decode c_Reader_give 6 = .ok (.bipush 8, 2) := by decide +kernel
theorem d_Reader_give_8 : decode c_Reader_give 8 = .ok (.if_icmp .gt 18, 3) := by decide +kernel
theorem d_Reader_give_11 : decode c_Reader_give 11 = .ok (.iload_n 3, 1) := by decide +kernel
theorem d_Reader_give_12 : decode c_Reader_give 12 = .ok (.sipush 16384, 3) := by decide +kernel
theorem d_Reader_give_15 : decode c_Reader_give 15 = .ok (.aload_n 0, 1) := by decide +kernel
theorem d_Reader_give_16 : decode c_Reader_give 16 = .ok (.getfield 10, 3) := by decide +kernel
theorem d_Reader_give_19 : decode c_Reader_give 19 = .ok (.getfield 34, 3) := by decide +kernel
theorem d_Reader_give_22 : decode c_Reader_give 22 = .ok (.isub, 1) := by decide +kernel
theorem d_Reader_give_23 : decode c_Reader_give 23 = .ok (.if_icmp .le 5, 3) := by decide +kernel
theorem d_Reader_give_26 : decode c_Reader_give 26 = .ok (.iconst 0, 1) := by decide +kernel
theorem d_Reader_give_27 : decode c_Reader_give 27 = .ok (.ireturn, 1) := by decide +kernel
theorem d_Reader_give_28 : decode c_Reader_give 28 = .ok (.iload_n 3, 1) := by decide +kernel
theorem d_Reader_give_29 : decode c_Reader_give 29 = .ok (.iconst 1, 1) := by decide +kernel
theorem d_Reader_give_30 : decode c_Reader_give 30 = .ok (.isub, 1) := by decide +kernel
theorem d_Reader_give_31 : decode c_Reader_give 31 = .ok (.istore 4, 2) := by decide +kernel
theorem d_Reader_give_33 : decode c_Reader_give 33 = .ok (.iload 4, 2) := by decide +kernel
theorem d_Reader_give_35 : decode c_Reader_give 35 = .ok (.ifCond .lt 24, 3) := by decide +kernel
theorem d_Reader_give_38 : decode c_Reader_give 38 = .ok (.aload_n 0, 1) := by decide +kernel
theorem d_Reader_give_39 : decode c_Reader_give 39 = .ok (.getfield 10, 3) := by decide +kernel
theorem d_Reader_give_42 : decode c_Reader_give 42 = .ok (.lload_n 1, 1) := by decide +kernel
theorem d_Reader_give_43 : decode c_Reader_give 43 = .ok (.bipush 8, 2) := by decide +kernel
theorem d_Reader_give_45 : decode c_Reader_give 45 = .ok (.iload 4, 2) := by decide +kernel
theorem d_Reader_give_47 : decode c_Reader_give 47 = .ok (.imul, 1) := by decide +kernel
theorem d_Reader_give_48 : decode c_Reader_give 48 = .ok (.lushr, 1) := by decide +kernel
theorem d_Reader_give_49 : decode c_Reader_give 49 = .ok (.l2i, 1) := by decide +kernel
theorem d_Reader_give_50 : decode c_Reader_give 50 = .ok (.invokevirtual 38, 3) := by decide +kernel
theorem d_Reader_give_53 : decode c_Reader_give 53 = .ok (.iinc 4 (-1), 3) := by decide +kernel
theorem d_Reader_give_56 : decode c_Reader_give 56 = .ok (.goto (-23), 3) := by decide +kernel
theorem d_Reader_give_59 : decode c_Reader_give 59 = .ok (.aload_n 0, 1) := by decide +kernel
theorem d_Reader_give_60 : decode c_Reader_give 60 = .ok (.getfield 30, 3) := by decide +kernel
theorem d_Reader_give_63 : decode c_Reader_give 63 = .ok (.invokevirtual 42, 3) := by decide +kernel
theorem d_Reader_give_66 : decode c_Reader_give 66 = .ok (.iconst 1, 1) := by decide +kernel
theorem d_Reader_give_67 : decode c_Reader_give 67 = .ok (.ireturn, 1) := by decide +kernel
theorem d_Bytes_add_0 : decode c_Bytes_add 0 = .ok (.aload_n 0, 1) := by decide +kernel
theorem d_Bytes_add_1 : decode c_Bytes_add 1 = .ok (.getfield 15, 3) := by decide +kernel
theorem d_Bytes_add_4 : decode c_Bytes_add 4 = .ok (.sipush 16384, 3) := by decide +kernel
theorem d_Bytes_add_7 : decode c_Bytes_add 7 = .ok (.if_icmp .lt 4, 3) := by decide +kernel
theorem d_Bytes_add_10 : decode c_Bytes_add 10 = .ok (.return_, 1) := by decide +kernel
theorem d_Bytes_add_11 : decode c_Bytes_add 11 = .ok (.aload_n 0, 1) := by decide +kernel
theorem d_Bytes_add_12 : decode c_Bytes_add 12 = .ok (.getfield 15, 3) := by decide +kernel
theorem d_Bytes_add_15 : decode c_Bytes_add 15 = .ok (.aload_n 0, 1) := by decide +kernel
theorem d_Bytes_add_16 : decode c_Bytes_add 16 = .ok (.getfield 9, 3) := by decide +kernel
theorem d_Bytes_add_19 : decode c_Bytes_add 19 = .ok (.arraylength, 1) := by decide +kernel
theorem d_Bytes_add_20 : decode c_Bytes_add 20 = .ok (.if_icmp .lt 20, 3) := by decide +kernel
theorem d_Bytes_add_23 : decode c_Bytes_add 23 = .ok (.aload_n 0, 1) := by decide +kernel
theorem d_Bytes_add_24 : decode c_Bytes_add 24 = .ok (.aload_n 0, 1) := by decide +kernel
theorem d_Bytes_add_25 : decode c_Bytes_add 25 = .ok (.getfield 9, 3) := by decide +kernel
theorem d_Bytes_add_28 : decode c_Bytes_add 28 = .ok (.iconst 2, 1) := by decide +kernel
theorem d_Bytes_add_29 : decode c_Bytes_add 29 = .ok (.aload_n 0, 1) := by decide +kernel
theorem d_Bytes_add_30 : decode c_Bytes_add 30 = .ok (.getfield 15, 3) := by decide +kernel
theorem d_Bytes_add_33 : decode c_Bytes_add 33 = .ok (.imul, 1) := by decide +kernel
theorem d_Bytes_add_34 : decode c_Bytes_add 34 = .ok (.invokestatic 19, 3) := by decide +kernel
theorem d_Bytes_add_37 : decode c_Bytes_add 37 = .ok (.putfield 9, 3) := by decide +kernel
theorem d_Bytes_add_40 : decode c_Bytes_add 40 = .ok (.aload_n 0, 1) := by decide +kernel
theorem d_Bytes_add_41 : decode c_Bytes_add 41 = .ok (.getfield 9, 3) := by decide +kernel
theorem d_Bytes_add_44 : decode c_Bytes_add 44 = .ok (.aload_n 0, 1) := by decide +kernel
theorem d_Bytes_add_45 : decode c_Bytes_add 45 = .ok (.getfield 15, 3) := by decide +kernel
theorem d_Bytes_add_48 : decode c_Bytes_add 48 = .ok (.iload_n 1, 1) := by decide +kernel
theorem d_Bytes_add_49 : decode c_Bytes_add 49 = .ok (.i2b, 1) := by decide +kernel
theorem d_Bytes_add_50 : decode c_Bytes_add 50 = .ok (.bastore, 1) := by decide +kernel
theorem d_Bytes_add_51 : decode c_Bytes_add 51 = .ok (.aload_n 0, 1) := by decide +kernel
theorem d_Bytes_add_52 : decode c_Bytes_add 52 = .ok (.dup, 1) := by decide +kernel
theorem d_Bytes_add_53 : decode c_Bytes_add 53 = .ok (.getfield 15, 3) := by decide +kernel
theorem d_Bytes_add_56 : decode c_Bytes_add 56 = .ok (.iconst 1, 1) := by decide +kernel
theorem d_Bytes_add_57 : decode c_Bytes_add 57 = .ok (.iadd, 1) := by decide +kernel
theorem d_Bytes_add_58 : decode c_Bytes_add 58 = .ok (.putfield 15, 3) := by decide +kernel
theorem d_Bytes_add_61 : decode c_Bytes_add 61 = .ok (.return_, 1) := by decide +kernel
theorem d_Arrays_copyOfB_0 : decode c_Arrays_copyOfB 0 = .ok (.iload_n 1, 1) := by decide +kernel
theorem d_Arrays_copyOfB_1 : decode c_Arrays_copyOfB 1 = .ok (.aload_n 0, 1) := by decide +kernel
theorem d_Arrays_copyOfB_2 : decode c_Arrays_copyOfB 2 = .ok (.arraylength, 1) := by decide +kernel
theorem d_Arrays_copyOfB_3 : decode c_Arrays_copyOfB 3 = .ok (.if_icmp .ne 11, 3) := by decide +kernel
theorem d_Arrays_copyOfB_6 : decode c_Arrays_copyOfB 6 = .ok (.aload_n 0, 1) := by decide +kernel
theorem d_Arrays_copyOfB_7 : decode c_Arrays_copyOfB 7 = .ok (.invokevirtual 310, 3) := by decide +kernel
theorem d_Arrays_copyOfB_10 : decode c_Arrays_copyOfB 10 = .ok (.checkcast 311, 3) := by decide +kernel
theorem d_Arrays_copyOfB_13 : decode c_Arrays_copyOfB 13 = .ok (.areturn, 1) := by decide +kernel
theorem d_Arrays_copyOfB_14 : decode c_Arrays_copyOfB 14 = .ok (.iload_n 1, 1) := by decide +kernel
theorem d_Arrays_copyOfB_15 : decode c_Arrays_copyOfB 15 = .ok (.newarray .byte, 2) := by decide +kernel
theorem d_Arrays_copyOfB_17 : decode c_Arrays_copyOfB 17 = .ok (.astore_n 2, 1) := by decide +kernel
theorem d_Arrays_copyOfB_18 : decode c_Arrays_copyOfB 18 = .ok (.aload_n 0, 1) := by decide +kernel
theorem d_Arrays_copyOfB_19 : decode c_Arrays_copyOfB 19 = .ok (.iconst 0, 1) := by decide +kernel
theorem d_Arrays_copyOfB_20 : decode c_Arrays_copyOfB 20 = .ok (.aload_n 2, 1) := by decide +kernel
theorem d_Arrays_copyOfB_21 : decode c_Arrays_copyOfB 21 = .ok (.iconst 0, 1) := by decide +kernel
theorem d_Arrays_copyOfB_22 : decode c_Arrays_copyOfB 22 = .ok (.aload_n 0, 1) := by decide +kernel
theorem d_Arrays_copyOfB_23 : decode c_Arrays_copyOfB 23 = .ok (.arraylength, 1) := by decide +kernel
theorem d_Arrays_copyOfB_24 : decode c_Arrays_copyOfB 24 = .ok (.iload_n 1, 1) := by decide +kernel
theorem d_Arrays_copyOfB_25 : decode c_Arrays_copyOfB 25 = .ok (.invokestatic 304, 3) := by decide +kernel
theorem d_Arrays_copyOfB_28 : decode c_Arrays_copyOfB 28 = .ok (.invokestatic 150, 3) := by decide +kernel
theorem d_Arrays_copyOfB_31 : decode c_Arrays_copyOfB 31 = .ok (.aload_n 2, 1) := by decide +kernel
theorem d_Arrays_copyOfB_32 : decode c_Arrays_copyOfB 32 = .ok (.areturn, 1) := by decide +kernel
theorem d_Math_min_0 : decode c_Math_min 0 = .ok (.iload_n 0, 1) := by decide +kernel
theorem d_Math_min_1 : decode c_Math_min 1 = .ok (.iload_n 1, 1) := by decide +kernel
theorem d_Math_min_2 : decode c_Math_min 2 = .ok (.if_icmp .gt 7, 3) := by decide +kernel
theorem d_Math_min_5 : decode c_Math_min 5 = .ok (.iload_n 0, 1) := by decide +kernel
theorem d_Math_min_6 : decode c_Math_min 6 = .ok (.goto 4, 3) := by decide +kernel
theorem d_Math_min_9 : decode c_Math_min 9 = .ok (.iload_n 1, 1) := by decide +kernel
theorem d_Math_min_10 : decode c_Math_min 10 = .ok (.ireturn, 1) := by decide +kernel
theorem d_Parser_forget_0 : decode c_Parser_forget 0 = .ok (.aload_n 0, 1) := by decide +kernel
theorem d_Parser_forget_1 : decode c_Parser_forget 1 = .ok (.iconst 0, 1) := by decide +kernel
theorem d_Parser_forget_2 : decode c_Parser_forget 2 = .ok (.putfield 40, 3) := by decide +kernel
theorem d_Parser_forget_5 : decode c_Parser_forget 5 = .ok (.aload_n 0, 1) := by decide +kernel
theorem d_Parser_forget_6 : decode c_Parser_forget 6 = .ok (.iconst (-1), 1) := by decide +kernel
theorem d_Parser_forget_7 : decode c_Parser_forget 7 = .ok (.putfield 43, 3) := by decide +kernel
theorem d_Parser_forget_10 : decode c_Parser_forget 10 = .ok (.aload_n 0, 1) := by decide +kernel
theorem d_Parser_forget_11 : decode c_Parser_forget 11 = .ok (.getfield 50, 3) := by decide +kernel
theorem d_Parser_forget_14 : decode c_Parser_forget 14 = .ok (.invokevirtual 54, 3) := by decide +kernel
theorem d_Parser_forget_17 : decode c_Parser_forget 17 = .ok (.return_, 1) := by decide +kernel
theorem d_Reader_wipe_0 : decode c_Reader_wipe 0 = .ok (.aload_n 0, 1) := by decide +kernel
theorem d_Reader_wipe_1 : decode c_Reader_wipe 1 = .ok (.getfield 10, 3) := by decide +kernel
theorem d_Reader_wipe_4 : decode c_Reader_wipe 4 = .ok (.iconst 0, 1) := by decide +kernel
theorem d_Reader_wipe_5 : decode c_Reader_wipe 5 = .ok (.putfield 34, 3) := by decide +kernel
theorem d_Reader_wipe_8 : decode c_Reader_wipe 8 = .ok (.aload_n 0, 1) := by decide +kernel
theorem d_Reader_wipe_9 : decode c_Reader_wipe 9 = .ok (.getfield 30, 3) := by decide +kernel
theorem d_Reader_wipe_12 : decode c_Reader_wipe 12 = .ok (.invokevirtual 42, 3) := by decide +kernel
theorem d_Reader_wipe_15 : decode c_Reader_wipe 15 = .ok (.return_, 1) := by decide +kernel
theorem d_Reader_read_0 : decode c_Reader_read 0 = .ok (.aload_n 0, 1) := by decide +kernel
theorem d_Reader_read_1 : decode c_Reader_read 1 = .ok (.getfield 30, 3) := by decide +kernel
theorem d_Reader_read_4 : decode c_Reader_read 4 = .ok (.invokevirtual 45, 3) := by decide +kernel
theorem d_Reader_read_7 : decode c_Reader_read 7 = .ok (.iconst 0, 1) := by decide +kernel
theorem d_Reader_read_8 : decode c_Reader_read 8 = .ok (.istore_n 1, 1) := by decide +kernel
theorem d_Reader_read_9 : decode c_Reader_read 9 = .ok (.iload_n 1, 1) := by decide +kernel
theorem d_Reader_read_10 : decode c_Reader_read 10 = .ok (.sipush 16384, 3) := by decide +kernel
theorem d_Reader_read_13 : decode c_Reader_read 13 = .ok (.if_icmp .ge 26, 3) := by decide +kernel
theorem d_Reader_read_16 : decode c_Reader_read 16 = .ok (.aload_n 0, 1) := by decide +kernel
theorem d_Reader_read_17 : decode c_Reader_read 17 = .ok (.getfield 30, 3) := by decide +kernel
theorem d_Reader_read_20 : decode c_Reader_read 20 = .ok (.invokevirtual 48, 3) := by decide +kernel
theorem d_Reader_read_23 : decode c_Reader_read 23 = .ok (.ifCond .eq 16, 3) := by decide +kernel
theorem d_Reader_read_26 : decode c_Reader_read 26 = .ok (.aload_n 0, 1) := by decide +kernel
theorem d_Reader_read_27 : decode c_Reader_read 27 = .ok (.getfield 30, 3) := by decide +kernel
theorem d_Reader_read_30 : decode c_Reader_read 30 = .ok (.invokevirtual 52, 3) := by decide +kernel
theorem d_Reader_read_33 : decode c_Reader_read 33 = .ok (.iinc 1 1, 3) := by decide +kernel
theorem d_Reader_read_36 : decode c_Reader_read 36 = .ok (.goto (-27), 3) := by decide +kernel
theorem d_Reader_read_39 : decode c_Reader_read 39 = .ok (.aload_n 0, 1) := by decide +kernel
theorem d_Reader_read_40 : decode c_Reader_read 40 = .ok (.getfield 30, 3) := by decide +kernel
theorem d_Reader_read_43 : decode c_Reader_read 43 = .ok (.invokevirtual 55, 3) := by decide +kernel
theorem d_Reader_read_46 : decode c_Reader_read 46 = .ok (.ireturn, 1) := by decide +kernel
theorem d_Parser_begin_0 : decode c_Parser_begin 0 = .ok (.aload_n 0, 1) := by decide +kernel
theorem d_Parser_begin_1 : decode c_Parser_begin 1 = .ok (.invokevirtual 59, 3) := by decide +kernel
theorem d_Parser_begin_4 : decode c_Parser_begin 4 = .ok (.aload_n 0, 1) := by decide +kernel
theorem d_Parser_begin_5 : decode c_Parser_begin 5 = .ok (.getfield 18, 3) := by decide +kernel
theorem d_Parser_begin_8 : decode c_Parser_begin 8 = .ok (.iconst (-1), 1) := by decide +kernel
theorem d_Parser_begin_9 : decode c_Parser_begin 9 = .ok (.invokestatic 62, 3) := by decide +kernel
theorem d_Parser_begin_12 : decode c_Parser_begin 12 = .ok (.aload_n 0, 1) := by decide +kernel
theorem d_Parser_begin_13 : decode c_Parser_begin 13 = .ok (.iconst 0, 1) := by decide +kernel
theorem d_Parser_begin_14 : decode c_Parser_begin 14 = .ok (.putfield 36, 3) := by decide +kernel
theorem d_Parser_begin_17 : decode c_Parser_begin 17 = .ok (.aload_n 0, 1) := by decide +kernel
theorem d_Parser_begin_18 : decode c_Parser_begin 18 = .ok (.getfield 46, 3) := by decide +kernel
theorem d_Parser_begin_21 : decode c_Parser_begin 21 = .ok (.getfield 68, 3) := by decide +kernel
theorem d_Parser_begin_24 : decode c_Parser_begin 24 = .ok (.ifCond .le 27, 3) := by decide +kernel
theorem d_Parser_begin_27 : decode c_Parser_begin 27 = .ok (.aload_n 0, 1) := by decide +kernel
theorem d_Parser_begin_28 : decode c_Parser_begin 28 = .ok (.getfield 46, 3) := by decide +kernel
theorem d_Parser_begin_31 : decode c_Parser_begin 31 = .ok (.iconst 0, 1) := by decide +kernel
theorem d_Parser_begin_32 : decode c_Parser_begin 32 = .ok (.invokevirtual 73, 3) := by decide +kernel
theorem d_Parser_begin_35 : decode c_Parser_begin 35 = .ok (.sipush 255, 3) := by decide +kernel
theorem d_Parser_begin_38 : decode c_Parser_begin 38 = .ok (.if_icmp .eq 13, 3) := by decide +kernel
theorem d_Parser_begin_41 : decode c_Parser_begin 41 = .ok (.aload_n 0, 1) := by decide +kernel
theorem d_Parser_begin_42 : decode c_Parser_begin 42 = .ok (.iconst 2, 1) := by decide +kernel
theorem d_Parser_begin_43 : decode c_Parser_begin 43 = .ok (.iconst 0, 1) := by decide +kernel
theorem d_Parser_begin_44 : decode c_Parser_begin 44 = .ok (.invokevirtual 77, 3) := by decide +kernel
theorem d_Parser_begin_47 : decode c_Parser_begin 47 = .ok (.pop, 1) := by decide +kernel
theorem d_Parser_begin_48 : decode c_Parser_begin 48 = .ok (.goto 51, 3) := by decide +kernel
theorem d_Parser_begin_51 : decode c_Parser_begin 51 = .ok (.aload_n 0, 1) := by decide +kernel
theorem d_Parser_begin_52 : decode c_Parser_begin 52 = .ok (.getfield 46, 3) := by decide +kernel
theorem d_Parser_begin_55 : decode c_Parser_begin 55 = .ok (.getfield 68, 3) := by decide +kernel
theorem d_Parser_begin_58 : decode c_Parser_begin 58 = .ok (.iconst 2, 1) := by decide +kernel
theorem d_Parser_begin_59 : decode c_Parser_begin 59 = .ok (.if_icmp .ge 19, 3) := by decide +kernel
theorem d_Parser_begin_62 : decode c_Parser_begin 62 = .ok (.aload_n 0, 1) := by decide +kernel
theorem d_Parser_begin_63 : decode c_Parser_begin 63 = .ok (.iconst 1, 1) := by decide +kernel
theorem d_Parser_begin_64 : decode c_Parser_begin 64 = .ok (.aload_n 0, 1) := by decide +kernel
theorem d_Parser_begin_65 : decode c_Parser_begin 65 = .ok (.getfield 46, 3) := by decide +kernel
theorem d_Parser_begin_68 : decode c_Parser_begin 68 = .ok (.getfield 68, 3) := by decide +kernel
theorem d_Parser_begin_71 : decode c_Parser_begin 71 = .ok (.invokevirtual 77, 3) := by decide +kernel
theorem d_Parser_begin_74 : decode c_Parser_begin 74 = .ok (.pop, 1) := by decide +kernel
theorem d_Parser_begin_75 : decode c_Parser_begin 75 = .ok (.goto 24, 3) := by decide +kernel
theorem d_Parser_begin_78 : decode c_Parser_begin 78 = .ok (.aload_n 0, 1) := by decide +kernel
theorem d_Parser_begin_79 : decode c_Parser_begin 79 = .ok (.getfield 46, 3) := by decide +kernel
theorem d_Parser_begin_82 : decode c_Parser_begin 82 = .ok (.iconst 1, 1) := by decide +kernel
theorem d_Parser_begin_83 : decode c_Parser_begin 83 = .ok (.invokevirtual 73, 3) := by decide +kernel
theorem d_Parser_begin_86 : decode c_Parser_begin 86 = .ok (.sipush 216, 3) := by decide +kernel
theorem d_Parser_begin_89 : decode c_Parser_begin 89 = .ok (.if_icmp .eq 10, 3) := by decide +kernel
theorem d_Parser_begin_92 : decode c_Parser_begin 92 = .ok (.aload_n 0, 1) := by decide +kernel
theorem d_Parser_begin_93 : decode c_Parser_begin 93 = .ok (.iconst 2, 1) := by decide +kernel
theorem d_Parser_begin_94 : decode c_Parser_begin 94 = .ok (.iconst 0, 1) := by decide +kernel
theorem d_Parser_begin_95 : decode c_Parser_begin 95 = .ok (.invokevirtual 77, 3) := by decide +kernel
theorem d_Parser_begin_98 : decode c_Parser_begin 98 = .ok (.pop, 1) := by decide +kernel
theorem d_Parser_begin_99 : decode c_Parser_begin 99 = .ok (.aload_n 0, 1) := by decide +kernel
theorem d_Parser_begin_100 : decode c_Parser_begin 100 = .ok (.iconst 2, 1) := by decide +kernel
theorem d_Parser_begin_101 : decode c_Parser_begin 101 = .ok (.putfield 26, 3) := by decide +kernel
theorem d_Parser_begin_104 : decode c_Parser_begin 104 = .ok (.return_, 1) := by decide +kernel
theorem d_Bytes_at_0 : decode c_Bytes_at 0 = .ok (.iload_n 1, 1) := by decide +kernel
theorem d_Bytes_at_1 : decode c_Bytes_at 1 = .ok (.ifCond .lt 24, 3) := by decide +kernel
theorem d_Bytes_at_4 : decode c_Bytes_at 4 = .ok (.iload_n 1, 1) := by decide +kernel
theorem d_Bytes_at_5 : decode c_Bytes_at 5 = .ok (.aload_n 0, 1) := by decide +kernel
theorem d_Bytes_at_6 : decode c_Bytes_at 6 = .ok (.getfield 15, 3) := by decide +kernel
theorem d_Bytes_at_9 : decode c_Bytes_at 9 = .ok (.if_icmp .ge 16, 3) := by decide +kernel
theorem d_Bytes_at_12 : decode c_Bytes_at 12 = .ok (.aload_n 0, 1) := by decide +kernel
theorem d_Bytes_at_13 : decode c_Bytes_at 13 = .ok (.getfield 9, 3) := by decide +kernel
theorem d_Bytes_at_16 : decode c_Bytes_at 16 = .ok (.iload_n 1, 1) := by decide +kernel
theorem d_Bytes_at_17 : decode c_Bytes_at 17 = .ok (.baload, 1) := by decide +kernel
theorem d_Bytes_at_18 : decode c_Bytes_at 18 = .ok (.sipush 255, 3) := by decide +kernel
theorem d_Bytes_at_21 : decode c_Bytes_at 21 = .ok (.iand, 1) := by decide +kernel
theorem d_Bytes_at_22 : decode c_Bytes_at 22 = .ok (.goto 4, 3) := by decide +kernel
theorem d_Bytes_at_25 : decode c_Bytes_at 25 = .ok (.iconst (-1), 1) := by decide +kernel
theorem d_Bytes_at_26 : decode c_Bytes_at 26 = .ok (.ireturn, 1) := by decide +kernel
theorem d_Parser_fail_0 : decode c_Parser_fail 0 = .ok (.aload_n 0, 1) := by decide +kernel
theorem d_Parser_fail_1 : decode c_Parser_fail 1 = .ok (.getfield 40, 3) := by decide +kernel
theorem d_Parser_fail_4 : decode c_Parser_fail 4 = .ok (.ifCond .ne 13, 3) := by decide +kernel
theorem d_Parser_fail_7 : decode c_Parser_fail 7 = .ok (.aload_n 0, 1) := by decide +kernel
theorem d_Parser_fail_8 : decode c_Parser_fail 8 = .ok (.iload_n 1, 1) := by decide +kernel
theorem d_Parser_fail_9 : decode c_Parser_fail 9 = .ok (.putfield 40, 3) := by decide +kernel
theorem d_Parser_fail_12 : decode c_Parser_fail 12 = .ok (.aload_n 0, 1) := by decide +kernel
theorem d_Parser_fail_13 : decode c_Parser_fail 13 = .ok (.iload_n 2, 1) := by decide +kernel
theorem d_Parser_fail_14 : decode c_Parser_fail 14 = .ok (.putfield 43, 3) := by decide +kernel
theorem d_Parser_fail_17 : decode c_Parser_fail 17 = .ok (.iconst (-1), 1) := by decide +kernel
theorem d_Parser_fail_18 : decode c_Parser_fail 18 = .ok (.ireturn, 1) := by decide +kernel
theorem d_Parser_goesOn_0 : decode c_Parser_goesOn 0 = .ok (.aload_n 0, 1) := by decide +kernel
theorem d_Parser_goesOn_1 : decode c_Parser_goesOn 1 = .ok (.getfield 40, 3) := by decide +kernel
theorem d_Parser_goesOn_4 : decode c_Parser_goesOn 4 = .ok (.ifCond .ne 18, 3) := by decide +kernel
theorem d_Parser_goesOn_7 : decode c_Parser_goesOn 7 = .ok (.aload_n 0, 1) := by decide +kernel
theorem d_Parser_goesOn_8 : decode c_Parser_goesOn 8 = .ok (.getfield 50, 3) := by decide +kernel
theorem d_Parser_goesOn_11 : decode c_Parser_goesOn 11 = .ok (.getfield 81, 3) := by decide +kernel
theorem d_Parser_goesOn_14 : decode c_Parser_goesOn 14 = .ok (.iconst (-1), 1) := by decide +kernel
theorem d_Parser_goesOn_15 : decode c_Parser_goesOn 15 = .ok (.if_icmp .ne 7, 3) := by decide +kernel
theorem d_Parser_goesOn_18 : decode c_Parser_goesOn 18 = .ok (.iconst 1, 1) := by decide +kernel
theorem d_Parser_goesOn_19 : decode c_Parser_goesOn 19 = .ok (.goto 4, 3) := by decide +kernel
theorem d_Parser_goesOn_22 : decode c_Parser_goesOn 22 = .ok (.iconst 0, 1) := by decide +kernel
theorem d_Parser_goesOn_23 : decode c_Parser_goesOn 23 = .ok (.ireturn, 1) := by decide +kernel
theorem d_Parser_readNext_0 : decode c_Parser_readNext 0 = .ok (.aload_n 0, 1) := by decide +kernel
theorem d_Parser_readNext_1 : decode c_Parser_readNext 1 = .ok (.getfield 26, 3) := by decide +kernel
theorem d_Parser_readNext_4 : decode c_Parser_readNext 4 = .ok (.istore_n 1, 1) := by decide +kernel
theorem d_Parser_readNext_5 : decode c_Parser_readNext 5 = .ok (.aload_n 0, 1) := by decide +kernel
theorem d_Parser_readNext_6 : decode c_Parser_readNext 6 = .ok (.invokevirtual 84, 3) := by decide +kernel
theorem d_Parser_readNext_9 : decode c_Parser_readNext 9 = .ok (.istore_n 2, 1) := by decide +kernel
theorem d_Parser_readNext_10 : decode c_Parser_readNext 10 = .ok (.iload_n 2, 1) := by decide +kernel
theorem d_Parser_readNext_11 : decode c_Parser_readNext 11 = .ok (.iconst (-1), 1) := by decide +kernel
theorem d_Parser_readNext_12 : decode c_Parser_readNext 12 = .ok (.if_icmp .ne 4, 3) := by decide +kernel
theorem d_Parser_readNext_15 : decode c_Parser_readNext 15 = .ok (.return_, 1) := by decide +kernel
theorem d_Parser_readNext_16 : decode c_Parser_readNext 16 = .ok (.iload_n 2, 1) := by decide +kernel
theorem d_Parser_readNext_17 : decode c_Parser_readNext 17 = .ok (.sipush 217, 3) := by decide +kernel
theorem d_Parser_readNext_20 : decode c_Parser_readNext 20 = .ok (.if_icmp .ne 15, 3) := by decide +kernel
theorem d_Parser_readNext_23 : decode c_Parser_readNext 23 = .ok (.aload_n 0, 1) := by decide +kernel
theorem d_Parser_readNext_24 : decode c_Parser_readNext 24 = .ok (.getfield 50, 3) := by decide +kernel
theorem d_Parser_readNext_27 : decode c_Parser_readNext 27 = .ok (.aload_n 0, 1) := by decide +kernel
theorem d_Parser_readNext_28 : decode c_Parser_readNext 28 = .ok (.getfield 26, 3) := by decide +kernel
theorem d_Parser_readNext_31 : decode c_Parser_readNext 31 = .ok (.putfield 81, 3) := by decide +kernel
theorem d_Parser_readNext_34 : decode c_Parser_readNext 34 = .ok (.return_, 1) := by decide +kernel
theorem d_Parser_readNext_35 : decode c_Parser_readNext 35 = .ok (.aload_n 0, 1) := by decide +kernel
theorem d_Parser_readNext_36 : decode c_Parser_readNext 36 = .ok (.invokevirtual 88, 3) := by decide +kernel
theorem d_Parser_readNext_39 : decode c_Parser_readNext 39 = .ok (.aload_n 0, 1) := by decide +kernel
theorem d_Parser_readNext_40 : decode c_Parser_readNext 40 = .ok (.getfield 50, 3) := by decide +kernel
theorem d_Parser_readNext_43 : decode c_Parser_readNext 43 = .ok (.iload_n 1, 1) := by decide +kernel
theorem d_Parser_readNext_44 : decode c_Parser_readNext 44 = .ok (.aload_n 0, 1) := by decide +kernel
theorem d_Parser_readNext_45 : decode c_Parser_readNext 45 = .ok (.getfield 26, 3) := by decide +kernel
theorem d_Parser_readNext_48 : decode c_Parser_readNext 48 = .ok (.invokevirtual 91, 3) := by decide +kernel
theorem d_Parser_readNext_51 : decode c_Parser_readNext 51 = .ok (.aload_n 0, 1) := by decide +kernel
theorem d_Parser_readNext_52 : decode c_Parser_readNext 52 = .ok (.iload_n 2, 1) := by decide +kernel
theorem d_Parser_readNext_53 : decode c_Parser_readNext 53 = .ok (.invokevirtual 95, 3) := by decide +kernel
theorem d_Parser_readNext_56 : decode c_Parser_readNext 56 = .ok (.iload_n 2, 1) := by decide +kernel
theorem d_Parser_readNext_57 : decode c_Parser_readNext 57 = .ok (.sipush 218, 3) := by decide +kernel
theorem d_Parser_readNext_60 : decode c_Parser_readNext 60 = .ok (.if_icmp .ne 7, 3) := by decide +kernel
theorem d_Parser_readNext_63 : decode c_Parser_readNext 63 = .ok (.aload_n 0, 1) := by decide +kernel
theorem d_Parser_readNext_64 : decode c_Parser_readNext 64 = .ok (.invokevirtual 99, 3) := by decide +kernel
theorem d_Parser_readNext_67 : decode c_Parser_readNext 67 = .ok (.return_, 1) := by decide +kernel
theorem d_Parser_takeMarker_0 : decode c_Parser_takeMarker 0 = .ok (.aload_n 0, 1) := by decide +kernel
theorem d_Parser_takeMarker_1 : decode c_Parser_takeMarker 1 = .ok (.getfield 46, 3) := by decide +kernel
theorem d_Parser_takeMarker_4 : decode c_Parser_takeMarker 4 = .ok (.aload_n 0, 1) := by decide +kernel
theorem d_Parser_takeMarker_5 : decode c_Parser_takeMarker 5 = .ok (.getfield 26, 3) := by decide +kernel
theorem d_Parser_takeMarker_8 : decode c_Parser_takeMarker 8 = .ok (.invokevirtual 73, 3) := by decide +kernel
theorem d_Parser_takeMarker_11 : decode c_Parser_takeMarker 11 = .ok (.istore_n 1, 1) := by decide +kernel
theorem d_Parser_takeMarker_12 : decode c_Parser_takeMarker 12 = .ok (.iload_n 1, 1) := by decide +kernel
theorem d_Parser_takeMarker_13 : decode c_Parser_takeMarker 13 = .ok (.iconst (-1), 1) := by decide +kernel
theorem d_Parser_takeMarker_14 : decode c_Parser_takeMarker 14 = .ok (.if_icmp .eq 20, 3) := by decide +kernel
theorem d_Parser_takeMarker_17 : decode c_Parser_takeMarker 17 = .ok (.iload_n 1, 1) := by decide +kernel
theorem d_Parser_takeMarker_18 : decode c_Parser_takeMarker 18 = .ok (.sipush 255, 3) := by decide +kernel
theorem d_Parser_takeMarker_21 : decode c_Parser_takeMarker 21 = .ok (.if_icmp .eq 13, 3) := by decide +kernel
theorem d_Parser_takeMarker_24 : decode c_Parser_takeMarker 24 = .ok (.aload_n 0, 1) := by decide +kernel
theorem d_Parser_takeMarker_25 : decode c_Parser_takeMarker 25 = .ok (.iconst 3, 1) := by decide +kernel
theorem d_Parser_takeMarker_26 : decode c_Parser_takeMarker 26 = .ok (.aload_n 0, 1) := by decide +kernel
theorem d_Parser_takeMarker_27 : decode c_Parser_takeMarker 27 = .ok (.getfield 26, 3) := by decide +kernel
theorem d_Parser_takeMarker_30 : decode c_Parser_takeMarker 30 = .ok (.invokevirtual 77, 3) := by decide +kernel
theorem d_Parser_takeMarker_33 : decode c_Parser_takeMarker 33 = .ok (.ireturn, 1) := by decide +kernel
theorem d_Parser_takeMarker_34 : decode c_Parser_takeMarker 34 = .ok (.aload_n 0, 1) := by decide +kernel
theorem d_Parser_takeMarker_35 : decode c_Parser_takeMarker 35 = .ok (.getfield 26, 3) := by decide +kernel
theorem d_Parser_takeMarker_38 : decode c_Parser_takeMarker 38 = .ok (.aload_n 0, 1) := by decide +kernel
theorem d_Parser_takeMarker_39 : decode c_Parser_takeMarker 39 = .ok (.getfield 46, 3) := by decide +kernel
theorem d_Parser_takeMarker_42 : decode c_Parser_takeMarker 42 = .ok (.getfield 68, 3) := by decide +kernel
theorem d_Parser_takeMarker_45 : decode c_Parser_takeMarker 45 = .ok (.if_icmp .ge 65, 3) := by decide +kernel
theorem d_Parser_takeMarker_48 : decode c_Parser_takeMarker 48 = .ok (.aload_n 0, 1) := by decide +kernel
theorem d_Parser_takeMarker_49 : decode c_Parser_takeMarker 49 = .ok (.getfield 46, 3) := by decide +kernel
theorem d_Parser_takeMarker_52 : decode c_Parser_takeMarker 52 = .ok (.aload_n 0, 1) := by decide +kernel
theorem d_Parser_takeMarker_53 : decode c_Parser_takeMarker 53 = .ok (.getfield 26, 3) := by decide +kernel
theorem d_Parser_takeMarker_56 : decode c_Parser_takeMarker 56 = .ok (.invokevirtual 73, 3) := by decide +kernel
theorem d_Parser_takeMarker_59 : decode c_Parser_takeMarker 59 = .ok (.istore_n 2, 1) := by decide +kernel
theorem d_Parser_takeMarker_60 : decode c_Parser_takeMarker 60 = .ok (.iload_n 2, 1) := by decide +kernel
theorem d_Parser_takeMarker_61 : decode c_Parser_takeMarker 61 = .ok (.sipush 255, 3) := by decide +kernel
theorem d_Parser_takeMarker_64 : decode c_Parser_takeMarker 64 = .ok (.if_icmp .eq 33, 3) := by decide +kernel
theorem d_Parser_takeMarker_67 : decode c_Parser_takeMarker 67 = .ok (.aload_n 0, 1) := by decide +kernel
theorem d_Parser_takeMarker_68 : decode c_Parser_takeMarker 68 = .ok (.iload_n 2, 1) := by decide +kernel
theorem d_Parser_takeMarker_69 : decode c_Parser_takeMarker 69 = .ok (.invokevirtual 102, 3) := by decide +kernel
theorem d_Parser_takeMarker_72 : decode c_Parser_takeMarker 72 = .ok (.ifCond .ne 13, 3) := by decide +kernel
theorem d_Parser_takeMarker_75 : decode c_Parser_takeMarker 75 = .ok (.aload_n 0, 1) := by decide +kernel
theorem d_Parser_takeMarker_76 : decode c_Parser_takeMarker 76 = .ok (.iconst 4, 1) := by decide +kernel
theorem d_Parser_takeMarker_77 : decode c_Parser_takeMarker 77 = .ok (.aload_n 0, 1) := by decide +kernel
theorem d_Parser_takeMarker_78 : decode c_Parser_takeMarker 78 = .ok (.getfield 26, 3) := by decide +kernel
theorem d_Parser_takeMarker_81 : decode c_Parser_takeMarker 81 = .ok (.invokevirtual 77, 3) := by decide +kernel
theorem d_Parser_takeMarker_84 : decode c_Parser_takeMarker 84 = .ok (.ireturn, 1) := by decide +kernel
theorem d_Parser_takeMarker_85 : decode c_Parser_takeMarker 85 = .ok (.aload_n 0, 1) := by decide +kernel
theorem d_Parser_takeMarker_86 : decode c_Parser_takeMarker 86 = .ok (.dup, 1) := by decide +kernel
theorem d_Parser_takeMarker_87 : decode c_Parser_takeMarker 87 = .ok (.getfield 26, 3) := by decide +kernel
theorem d_Parser_takeMarker_90 : decode c_Parser_takeMarker 90 = .ok (.iconst 1, 1) := by decide +kernel
theorem d_Parser_takeMarker_91 : decode c_Parser_takeMarker 91 = .ok (.iadd, 1) := by decide +kernel
theorem d_Parser_takeMarker_92 : decode c_Parser_takeMarker 92 = .ok (.putfield 26, 3) := by decide +kernel
theorem d_Parser_takeMarker_95 : decode c_Parser_takeMarker 95 = .ok (.iload_n 2, 1) := by decide +kernel
theorem d_Parser_takeMarker_96 : decode c_Parser_takeMarker 96 = .ok (.ireturn, 1) := by decide +kernel
theorem d_Parser_takeMarker_97 : decode c_Parser_takeMarker 97 = .ok (.aload_n 0, 1) := by decide +kernel
theorem d_Parser_takeMarker_98 : decode c_Parser_takeMarker 98 = .ok (.dup, 1) := by decide +kernel
theorem d_Parser_takeMarker_99 : decode c_Parser_takeMarker 99 = .ok (.getfield 26, 3) := by decide +kernel
theorem d_Parser_takeMarker_102 : decode c_Parser_takeMarker 102 = .ok (.iconst 1, 1) := by decide +kernel
theorem d_Parser_takeMarker_103 : decode c_Parser_takeMarker 103 = .ok (.iadd, 1) := by decide +kernel
theorem d_Parser_takeMarker_104 : decode c_Parser_takeMarker 104 = .ok (.putfield 26, 3) := by decide +kernel
theorem d_Parser_takeMarker_107 : decode c_Parser_takeMarker 107 = .ok (.goto (-73), 3) := by decide +kernel
theorem d_Parser_takeMarker_110 : decode c_Parser_takeMarker 110 = .ok (.aload_n 0, 1) := by decide +kernel
theorem d_Parser_takeMarker_111 : decode c_Parser_takeMarker 111 = .ok (.iconst 1, 1) := by decide +kernel
theorem d_Parser_takeMarker_112 : decode c_Parser_takeMarker 112 = .ok (.aload_n 0, 1) := by decide +kernel
theorem d_Parser_takeMarker_113 : decode c_Parser_takeMarker 113 = .ok (.getfield 46, 3) := by decide +kernel
theorem d_Parser_takeMarker_116 : decode c_Parser_takeMarker 116 = .ok (.getfield 68, 3) := by decide +kernel
theorem d_Parser_takeMarker_119 : decode c_Parser_takeMarker 119 = .ok (.invokevirtual 77, 3) := by decide +kernel
theorem d_Parser_takeMarker_122 : decode c_Parser_takeMarker 122 = .ok (.ireturn, 1) := by decide +kernel
theorem d_Parser_canStand_0 : decode c_Parser_canStand 0 = .ok (.aload_n 0, 1) := by decide +kernel
theorem d_Parser_canStand_1 : decode c_Parser_canStand 1 = .ok (.getfield 36, 3) := by decide +kernel
theorem d_Parser_canStand_4 : decode c_Parser_canStand 4 = .ok (.ifCond .ne 10, 3) := by decide +kernel
theorem d_Parser_canStand_7 : decode c_Parser_canStand 7 = .ok (.iload_n 1, 1) := by decide +kernel
theorem d_Parser_canStand_8 : decode c_Parser_canStand 8 = .ok (.sipush 220, 3) := by decide +kernel
theorem d_Parser_canStand_11 : decode c_Parser_canStand 11 = .ok (.if_icmp .ne 23, 3) := by decide +kernel
theorem d_Parser_canStand_14 : decode c_Parser_canStand 14 = .ok (.aload_n 0, 1) := by decide +kernel
theorem d_Parser_canStand_15 : decode c_Parser_canStand 15 = .ok (.getfield 36, 3) := by decide +kernel
theorem d_Parser_canStand_18 : decode c_Parser_canStand 18 = .ok (.ifCond .eq 14, 3) := by decide +kernel
theorem d_Parser_canStand_21 : decode c_Parser_canStand 21 = .ok (.iload_n 1, 1) := by decide +kernel
theorem d_Parser_canStand_22 : decode c_Parser_canStand 22 = .ok (.sipush 220, 3) := by decide +kernel
theorem d_Parser_canStand_25 : decode c_Parser_canStand 25 = .ok (.if_icmp .ne 7, 3) := by decide +kernel
theorem d_Parser_canStand_28 : decode c_Parser_canStand 28 = .ok (.iconst 1, 1) := by decide +kernel
theorem d_Parser_canStand_29 : decode c_Parser_canStand 29 = .ok (.goto 4, 3) := by decide +kernel
theorem d_Parser_canStand_32 : decode c_Parser_canStand 32 = .ok (.iconst 0, 1) := by decide +kernel
theorem d_Parser_canStand_33 : decode c_Parser_canStand 33 = .ok (.ireturn, 1) := by decide +kernel
theorem d_Parser_canStand_34 : decode c_Parser_canStand 34 = .ok (.iload_n 1, 1) := by decide +kernel
theorem d_Parser_canStand_35 : decode c_Parser_canStand 35 = .ok (.lookupswitch 125 #[(192, 67), (194, 67), (196, 65), (217, 101), (218, 84), (219, 65), (221, 65)], 65) := by decide +kernel
theorem d_Parser_canStand_100 : decode c_Parser_canStand 100 = .ok (.iconst 1, 1) := by decide +kernel
theorem d_Parser_canStand_101 : decode c_Parser_canStand 101 = .ok (.ireturn, 1) := by decide +kernel
theorem d_Parser_canStand_102 : decode c_Parser_canStand 102 = .ok (.aload_n 0, 1) := by decide +kernel
theorem d_Parser_canStand_103 : decode c_Parser_canStand 103 = .ok (.getfield 50, 3) := by decide +kernel
theorem d_Parser_canStand_106 : decode c_Parser_canStand 106 = .ok (.getfield 106, 3) := by decide +kernel
theorem d_Parser_canStand_109 : decode c_Parser_canStand 109 = .ok (.iconst (-1), 1) := by decide +kernel
theorem d_Parser_canStand_110 : decode c_Parser_canStand 110 = .ok (.if_icmp .ne 7, 3) := by decide +kernel
theorem d_Parser_canStand_113 : decode c_Parser_canStand 113 = .ok (.iconst 1, 1) := by decide +kernel
theorem d_Parser_canStand_114 : decode c_Parser_canStand 114 = .ok (.goto 4, 3) := by decide +kernel
theorem d_Parser_canStand_117 : decode c_Parser_canStand 117 = .ok (.iconst 0, 1) := by decide +kernel
theorem d_Parser_canStand_118 : decode c_Parser_canStand 118 = .ok (.ireturn, 1) := by decide +kernel
theorem d_Parser_canStand_119 : decode c_Parser_canStand 119 = .ok (.aload_n 0, 1) := by decide +kernel
theorem d_Parser_canStand_120 : decode c_Parser_canStand 120 = .ok (.getfield 50, 3) := by decide +kernel
theorem d_Parser_canStand_123 : decode c_Parser_canStand 123 = .ok (.getfield 106, 3) := by decide +kernel
theorem d_Parser_canStand_126 : decode c_Parser_canStand 126 = .ok (.iconst (-1), 1) := by decide +kernel
theorem d_Parser_canStand_127 : decode c_Parser_canStand 127 = .ok (.if_icmp .eq 7, 3) := by decide +kernel
theorem d_Parser_canStand_130 : decode c_Parser_canStand 130 = .ok (.iconst 1, 1) := by decide +kernel
theorem d_Parser_canStand_131 : decode c_Parser_canStand 131 = .ok (.goto 4, 3) := by decide +kernel
theorem d_Parser_canStand_134 : decode c_Parser_canStand 134 = .ok (.iconst 0, 1) := by decide +kernel
theorem d_Parser_canStand_135 : decode c_Parser_canStand 135 = .ok (.ireturn, 1) := by decide +kernel
theorem d_Parser_canStand_136 : decode c_Parser_canStand 136 = .ok (.aload_n 0, 1) := by decide +kernel
theorem d_Parser_canStand_137 : decode c_Parser_canStand 137 = .ok (.getfield 50, 3) := by decide +kernel
theorem d_Parser_canStand_140 : decode c_Parser_canStand 140 = .ok (.getfield 106, 3) := by decide +kernel
theorem d_Parser_canStand_143 : decode c_Parser_canStand 143 = .ok (.iconst (-1), 1) := by decide +kernel
theorem d_Parser_canStand_144 : decode c_Parser_canStand 144 = .ok (.if_icmp .eq 14, 3) := by decide +kernel
theorem d_Parser_canStand_147 : decode c_Parser_canStand 147 = .ok (.aload_n 0, 1) := by decide +kernel
theorem d_Parser_canStand_148 : decode c_Parser_canStand 148 = .ok (.invokevirtual 109, 3) := by decide +kernel
theorem d_Parser_canStand_151 : decode c_Parser_canStand 151 = .ok (.ifCond .eq 7, 3) := by decide +kernel
theorem d_Parser_canStand_154 : decode c_Parser_canStand 154 = .ok (.iconst 1, 1) := by decide +kernel
theorem d_Parser_canStand_155 : decode c_Parser_canStand 155 = .ok (.goto 4, 3) := by decide +kernel
theorem d_Parser_canStand_158 : decode c_Parser_canStand 158 = .ok (.iconst 0, 1) := by decide +kernel
theorem d_Parser_canStand_159 : decode c_Parser_canStand 159 = .ok (.ireturn, 1) := by decide +kernel
theorem d_Parser_canStand_160 : decode c_Parser_canStand 160 = .ok (.aload_n 0, 1) := by decide +kernel
theorem d_Parser_canStand_161 : decode c_Parser_canStand 161 = .ok (.iload_n 1, 1) := by decide +kernel
theorem d_Parser_canStand_162 : decode c_Parser_canStand 162 = .ok (.invokevirtual 113, 3) := by decide +kernel
theorem d_Parser_canStand_165 : decode c_Parser_canStand 165 = .ok (.ireturn, 1) := by decide +kernel
theorem d_Parser_allBegun_0 : decode c_Parser_allBegun 0 = .ok (.iconst 0, 1) := by decide +kernel
theorem d_Parser_allBegun_1 : decode c_Parser_allBegun 1 = .ok (.istore_n 1, 1) := by decide +kernel
theorem d_Parser_allBegun_2 : decode c_Parser_allBegun 2 = .ok (.iload_n 1, 1) := by decide +kernel
theorem d_Parser_allBegun_3 : decode c_Parser_allBegun 3 = .ok (.aload_n 0, 1) := by decide +kernel
theorem d_Parser_allBegun_4 : decode c_Parser_allBegun 4 = .ok (.getfield 50, 3) := by decide +kernel
theorem d_Parser_allBegun_7 : decode c_Parser_allBegun 7 = .ok (.getfield 116, 3) := by decide +kernel
theorem d_Parser_allBegun_10 : decode c_Parser_allBegun 10 = .ok (.if_icmp .ge 21, 3) := by decide +kernel
theorem d_Parser_allBegun_13 : decode c_Parser_allBegun 13 = .ok (.aload_n 0, 1) := by decide +kernel
theorem d_Parser_allBegun_14 : decode c_Parser_allBegun 14 = .ok (.iload_n 1, 1) := by decide +kernel
theorem d_Parser_allBegun_15 : decode c_Parser_allBegun 15 = .ok (.iconst 0, 1) := by decide +kernel
theorem d_Parser_allBegun_16 : decode c_Parser_allBegun 16 = .ok (.invokevirtual 119, 3) := by decide +kernel
theorem d_Parser_allBegun_19 : decode c_Parser_allBegun 19 = .ok (.iconst (-1), 1) := by decide +kernel
theorem d_Parser_allBegun_20 : decode c_Parser_allBegun 20 = .ok (.if_icmp .ne 5, 3) := by decide +kernel
theorem d_Parser_allBegun_23 : decode c_Parser_allBegun 23 = .ok (.iconst 0, 1) := by decide +kernel
theorem d_Parser_allBegun_24 : decode c_Parser_allBegun 24 = .ok (.ireturn, 1) := by decide +kernel
theorem d_Parser_allBegun_25 : decode c_Parser_allBegun 25 = .ok (.iinc 1 1, 3) := by decide +kernel
theorem d_Parser_allBegun_28 : decode c_Parser_allBegun 28 = .ok (.goto (-26), 3) := by decide +kernel
theorem d_Parser_allBegun_31 : decode c_Parser_allBegun 31 = .ok (.iconst 1, 1) := by decide +kernel
theorem d_Parser_allBegun_32 : decode c_Parser_allBegun 32 = .ok (.ireturn, 1) := by decide +kernel
theorem d_Parser_latestOf_0 : decode c_Parser_latestOf 0 = .ok (.iload_n 1, 1) := by decide +kernel
theorem d_Parser_latestOf_1 : decode c_Parser_latestOf 1 = .ok (.bipush 64, 2) := by decide +kernel
theorem d_Parser_latestOf_3 : decode c_Parser_latestOf 3 = .ok (.imul, 1) := by decide +kernel
theorem d_Parser_latestOf_4 : decode c_Parser_latestOf 4 = .ok (.iload_n 2, 1) := by decide +kernel
theorem d_Parser_latestOf_5 : decode c_Parser_latestOf 5 = .ok (.iadd, 1) := by decide +kernel
theorem d_Parser_latestOf_6 : decode c_Parser_latestOf 6 = .ok (.istore_n 3, 1) := by decide +kernel
theorem d_Parser_latestOf_7 : decode c_Parser_latestOf 7 = .ok (.iload_n 3, 1) := by decide +kernel
theorem d_Parser_latestOf_8 : decode c_Parser_latestOf 8 = .ok (.ifCond .lt 21, 3) := by decide +kernel
theorem d_Parser_latestOf_11 : decode c_Parser_latestOf 11 = .ok (.iload_n 3, 1) := by decide +kernel
theorem d_Parser_latestOf_12 : decode c_Parser_latestOf 12 = .ok (.aload_n 0, 1) := by decide +kernel
theorem d_Parser_latestOf_13 : decode c_Parser_latestOf 13 = .ok (.getfield 18, 3) := by decide +kernel
theorem d_Parser_latestOf_16 : decode c_Parser_latestOf 16 = .ok (.arraylength, 1) := by decide +kernel
theorem d_Parser_latestOf_17 : decode c_Parser_latestOf 17 = .ok (.if_icmp .ge 12, 3) := by decide +kernel
theorem d_Parser_latestOf_20 : decode c_Parser_latestOf 20 = .ok (.aload_n 0, 1) := by decide +kernel
theorem d_Parser_latestOf_21 : decode c_Parser_latestOf 21 = .ok (.getfield 18, 3) := by decide +kernel
theorem d_Parser_latestOf_24 : decode c_Parser_latestOf 24 = .ok (.iload_n 3, 1) := by decide +kernel
theorem d_Parser_latestOf_25 : decode c_Parser_latestOf 25 = .ok (.iaload, 1) := by decide +kernel
theorem d_Parser_latestOf_26 : decode c_Parser_latestOf 26 = .ok (.goto 4, 3) := by decide +kernel
theorem d_Parser_latestOf_29 : decode c_Parser_latestOf 29 = .ok (.iconst (-1), 1) := by decide +kernel
theorem d_Parser_latestOf_30 : decode c_Parser_latestOf 30 = .ok (.ireturn, 1) := by decide +kernel
theorem d_Parser_isFree_0 : decode c_Parser_isFree 0 = .ok (.iload_n 1, 1) := by decide +kernel
theorem d_Parser_isFree_1 : decode c_Parser_isFree 1 = .ok (.sipush 254, 3) := by decide +kernel
theorem d_Parser_isFree_4 : decode c_Parser_isFree 4 = .ok (.if_icmp .eq 17, 3) := by decide +kernel
theorem d_Parser_isFree_7 : decode c_Parser_isFree 7 = .ok (.iload_n 1, 1) := by decide +kernel
theorem d_Parser_isFree_8 : decode c_Parser_isFree 8 = .ok (.sipush 224, 3) := by decide +kernel
theorem d_Parser_isFree_11 : decode c_Parser_isFree 11 = .ok (.if_icmp .lt 14, 3) := by decide +kernel
theorem d_Parser_isFree_14 : decode c_Parser_isFree 14 = .ok (.iload_n 1, 1) := by decide +kernel
theorem d_Parser_isFree_15 : decode c_Parser_isFree 15 = .ok (.sipush 239, 3) := by decide +kernel
theorem d_Parser_isFree_18 : decode c_Parser_isFree 18 = .ok (.if_icmp .gt 7, 3) := by decide +kernel
theorem d_Parser_isFree_21 : decode c_Parser_isFree 21 = .ok (.iconst 1, 1) := by decide +kernel
theorem d_Parser_isFree_22 : decode c_Parser_isFree 22 = .ok (.goto 4, 3) := by decide +kernel
theorem d_Parser_isFree_25 : decode c_Parser_isFree 25 = .ok (.iconst 0, 1) := by decide +kernel
theorem d_Parser_isFree_26 : decode c_Parser_isFree 26 = .ok (.ireturn, 1) := by decide +kernel
theorem d_Parser_takeLength_0 : decode c_Parser_takeLength 0 = .ok (.aload_n 0, 1) := by decide +kernel
theorem d_Parser_takeLength_1 : decode c_Parser_takeLength 1 = .ok (.aload_n 0, 1) := by decide +kernel
theorem d_Parser_takeLength_2 : decode c_Parser_takeLength 2 = .ok (.getfield 26, 3) := by decide +kernel
theorem d_Parser_takeLength_5 : decode c_Parser_takeLength 5 = .ok (.putfield 30, 3) := by decide +kernel
theorem d_Parser_takeLength_8 : decode c_Parser_takeLength 8 = .ok (.aload_n 0, 1) := by decide +kernel
theorem d_Parser_takeLength_9 : decode c_Parser_takeLength 9 = .ok (.aload_n 0, 1) := by decide +kernel
theorem d_Parser_takeLength_10 : decode c_Parser_takeLength 10 = .ok (.getfield 26, 3) := by decide +kernel
theorem d_Parser_takeLength_13 : decode c_Parser_takeLength 13 = .ok (.iconst 2, 1) := by decide +kernel
theorem d_Parser_takeLength_14 : decode c_Parser_takeLength 14 = .ok (.iadd, 1) := by decide +kernel
theorem d_Parser_takeLength_15 : decode c_Parser_takeLength 15 = .ok (.putfield 33, 3) := by decide +kernel
theorem d_Parser_takeLength_18 : decode c_Parser_takeLength 18 = .ok (.aload_n 0, 1) := by decide +kernel
theorem d_Parser_takeLength_19 : decode c_Parser_takeLength 19 = .ok (.iconst 0, 1) := by decide +kernel
theorem d_Parser_takeLength_20 : decode c_Parser_takeLength 20 = .ok (.ldc 122, 2) := by decide +kernel
theorem d_Parser_takeLength_22 : decode c_Parser_takeLength 22 = .ok (.invokevirtual 123, 3) := by decide +kernel
theorem d_Parser_takeLength_25 : decode c_Parser_takeLength 25 = .ok (.istore_n 1, 1) := by decide +kernel
theorem d_Parser_takeLength_26 : decode c_Parser_takeLength 26 = .ok (.iload_n 1, 1) := by decide +kernel
theorem d_Parser_takeLength_27 : decode c_Parser_takeLength 27 = .ok (.iconst 2, 1) := by decide +kernel
theorem d_Parser_takeLength_28 : decode c_Parser_takeLength 28 = .ok (.if_icmp .ge 13, 3) := by decide +kernel
theorem d_Parser_takeLength_31 : decode c_Parser_takeLength 31 = .ok (.aload_n 0, 1) := by decide +kernel
theorem d_Parser_takeLength_32 : decode c_Parser_takeLength 32 = .ok (.iconst 5, 1) := by decide +kernel
theorem d_Parser_takeLength_33 : decode c_Parser_takeLength 33 = .ok (.aload_n 0, 1) := by decide +kernel
theorem d_Parser_takeLength_34 : decode c_Parser_takeLength 34 = .ok (.getfield 30, 3) := by decide +kernel
theorem d_Parser_takeLength_37 : decode c_Parser_takeLength 37 = .ok (.invokevirtual 77, 3) := by decide +kernel
theorem d_Parser_takeLength_40 : decode c_Parser_takeLength 40 = .ok (.pop, 1) := by decide +kernel
theorem d_Parser_takeLength_41 : decode c_Parser_takeLength 41 = .ok (.aload_n 0, 1) := by decide +kernel
theorem d_Parser_takeLength_42 : decode c_Parser_takeLength 42 = .ok (.aload_n 0, 1) := by decide +kernel
theorem d_Parser_takeLength_43 : decode c_Parser_takeLength 43 = .ok (.getfield 30, 3) := by decide +kernel
theorem d_Parser_takeLength_46 : decode c_Parser_takeLength 46 = .ok (.iload_n 1, 1) := by decide +kernel
theorem d_Parser_takeLength_47 : decode c_Parser_takeLength 47 = .ok (.iadd, 1) := by decide +kernel
theorem d_Parser_takeLength_48 : decode c_Parser_takeLength 48 = .ok (.putfield 33, 3) := by decide +kernel
theorem d_Parser_takeLength_51 : decode c_Parser_takeLength 51 = .ok (.return_, 1) := by decide +kernel
theorem d_Parser_takePair_0 : decode c_Parser_takePair 0 = .ok (.aload_n 0, 1) := by decide +kernel
theorem d_Parser_takePair_1 : decode c_Parser_takePair 1 = .ok (.iconst 0, 1) := by decide +kernel
theorem d_Parser_takePair_2 : decode c_Parser_takePair 2 = .ok (.sipush 255, 3) := by decide +kernel
theorem d_Parser_takePair_5 : decode c_Parser_takePair 5 = .ok (.invokevirtual 147, 3) := by decide +kernel
theorem d_Parser_takePair_8 : decode c_Parser_takePair 8 = .ok (.istore_n 3, 1) := by decide +kernel
theorem d_Parser_takePair_9 : decode c_Parser_takePair 9 = .ok (.aload_n 0, 1) := by decide +kernel
theorem d_Parser_takePair_10 : decode c_Parser_takePair 10 = .ok (.iconst 0, 1) := by decide +kernel
theorem d_Parser_takePair_11 : decode c_Parser_takePair 11 = .ok (.sipush 255, 3) := by decide +kernel
theorem d_Parser_takePair_14 : decode c_Parser_takePair 14 = .ok (.invokevirtual 147, 3) := by decide +kernel
theorem d_Parser_takePair_17 : decode c_Parser_takePair 17 = .ok (.istore 4, 2) := by decide +kernel
theorem d_Parser_takePair_19 : decode c_Parser_takePair 19 = .ok (.sipush 256, 3) := by decide +kernel
theorem d_Parser_takePair_22 : decode c_Parser_takePair 22 = .ok (.iload_n 3, 1) := by decide +kernel
theorem d_Parser_takePair_23 : decode c_Parser_takePair 23 = .ok (.imul, 1) := by decide +kernel
theorem d_Parser_takePair_24 : decode c_Parser_takePair 24 = .ok (.iload 4, 2) := by decide +kernel
theorem d_Parser_takePair_26 : decode c_Parser_takePair 26 = .ok (.iadd, 1) := by decide +kernel
theorem d_Parser_takePair_27 : decode c_Parser_takePair 27 = .ok (.istore 5, 2) := by decide +kernel
theorem d_Parser_takePair_29 : decode c_Parser_takePair 29 = .ok (.iload 5, 2) := by decide +kernel
theorem d_Parser_takePair_31 : decode c_Parser_takePair 31 = .ok (.iload_n 1, 1) := by decide +kernel
theorem d_Parser_takePair_32 : decode c_Parser_takePair 32 = .ok (.if_icmp .lt 9, 3) := by decide +kernel
theorem d_Parser_takePair_35 : decode c_Parser_takePair 35 = .ok (.iload 5, 2) := by decide +kernel
theorem d_Parser_takePair_37 : decode c_Parser_takePair 37 = .ok (.iload_n 2, 1) := by decide +kernel
theorem d_Parser_takePair_38 : decode c_Parser_takePair 38 = .ok (.if_icmp .le 7, 3) := by decide +kernel
theorem d_Parser_takePair_41 : decode c_Parser_takePair 41 = .ok (.aload_n 0, 1) := by decide +kernel
theorem d_Parser_takePair_42 : decode c_Parser_takePair 42 = .ok (.invokevirtual 150, 3) := by decide +kernel
theorem d_Parser_takePair_45 : decode c_Parser_takePair 45 = .ok (.aload_n 0, 1) := by decide +kernel
theorem d_Parser_takePair_46 : decode c_Parser_takePair 46 = .ok (.getfield 40, 3) := by decide +kernel
theorem d_Parser_takePair_49 : decode c_Parser_takePair 49 = .ok (.ifCond .ne 8, 3) := by decide +kernel
theorem d_Parser_takePair_52 : decode c_Parser_takePair 52 = .ok (.iload 5, 2) := by decide +kernel
theorem d_Parser_takePair_54 : decode c_Parser_takePair 54 = .ok (.goto 4, 3) := by decide +kernel
theorem d_Parser_takePair_57 : decode c_Parser_takePair 57 = .ok (.iconst (-1), 1) := by decide +kernel
theorem d_Parser_takePair_58 : decode c_Parser_takePair 58 = .ok (.ireturn, 1) := by decide +kernel
theorem d_Parser_take_0 : decode c_Parser_take 0 = .ok (.aload_n 0, 1) := by decide +kernel
theorem d_Parser_take_1 : decode c_Parser_take 1 = .ok (.getfield 40, 3) := by decide +kernel
theorem d_Parser_take_4 : decode c_Parser_take 4 = .ok (.ifCond .eq 5, 3) := by decide +kernel
theorem d_Parser_take_7 : decode c_Parser_take 7 = .ok (.iconst (-1), 1) := by decide +kernel
theorem d_Parser_take_8 : decode c_Parser_take 8 = .ok (.ireturn, 1) := by decide +kernel
theorem d_Parser_take_9 : decode c_Parser_take 9 = .ok (.aload_n 0, 1) := by decide +kernel
theorem d_Parser_take_10 : decode c_Parser_take 10 = .ok (.getfield 26, 3) := by decide +kernel
theorem d_Parser_take_13 : decode c_Parser_take 13 = .ok (.aload_n 0, 1) := by decide +kernel
theorem d_Parser_take_14 : decode c_Parser_take 14 = .ok (.getfield 33, 3) := by decide +kernel
theorem d_Parser_take_17 : decode c_Parser_take 17 = .ok (.if_icmp .lt 13, 3) := by decide +kernel
theorem d_Parser_take_20 : decode c_Parser_take 20 = .ok (.aload_n 0, 1) := by decide +kernel
theorem d_Parser_take_21 : decode c_Parser_take 21 = .ok (.iconst 5, 1) := by decide +kernel
theorem d_Parser_take_22 : decode c_Parser_take 22 = .ok (.aload_n 0, 1) := by decide +kernel
theorem d_Parser_take_23 : decode c_Parser_take 23 = .ok (.getfield 30, 3) := by decide +kernel
theorem d_Parser_take_26 : decode c_Parser_take 26 = .ok (.invokevirtual 77, 3) := by decide +kernel
theorem d_Parser_take_29 : decode c_Parser_take 29 = .ok (.ireturn, 1) := by decide +kernel
theorem d_Parser_take_30 : decode c_Parser_take 30 = .ok (.aload_n 0, 1) := by decide +kernel
theorem d_Parser_take_31 : decode c_Parser_take 31 = .ok (.getfield 46, 3) := by decide +kernel
theorem d_Parser_take_34 : decode c_Parser_take 34 = .ok (.aload_n 0, 1) := by decide +kernel
theorem d_Parser_take_35 : decode c_Parser_take 35 = .ok (.getfield 26, 3) := by decide +kernel
theorem d_Parser_take_38 : decode c_Parser_take 38 = .ok (.invokevirtual 73, 3) := by decide +kernel
theorem d_Parser_take_41 : decode c_Parser_take 41 = .ok (.istore_n 3, 1) := by decide +kernel
theorem d_Parser_take_42 : decode c_Parser_take 42 = .ok (.iload_n 3, 1) := by decide +kernel
theorem d_Parser_take_43 : decode c_Parser_take 43 = .ok (.iconst (-1), 1) := by decide +kernel
theorem d_Parser_take_44 : decode c_Parser_take 44 = .ok (.if_icmp .ne 16, 3) := by decide +kernel
theorem d_Parser_take_47 : decode c_Parser_take 47 = .ok (.aload_n 0, 1) := by decide +kernel
theorem d_Parser_take_48 : decode c_Parser_take 48 = .ok (.iconst 1, 1) := by decide +kernel
theorem d_Parser_take_49 : decode c_Parser_take 49 = .ok (.aload_n 0, 1) := by decide +kernel
theorem d_Parser_take_50 : decode c_Parser_take 50 = .ok (.getfield 46, 3) := by decide +kernel
theorem d_Parser_take_53 : decode c_Parser_take 53 = .ok (.getfield 68, 3) := by decide +kernel
end
section
theorem d_Parser_take_56 : decode c_Parser_take 56 = .ok (.invokevirtual 77, 3) := by decide +kernel
theorem d_Parser_take_59 : decode c_Parser_take 59 = .ok (.ireturn, 1) := by decide +kernel
theorem d_Parser_take_60 : decode c_Parser_take 60 = .ok (.iload_n 3, 1) := by decide +kernel
theorem d_Parser_take_61 : decode c_Parser_take 61 = .ok (.iload_n 1, 1) := by decide +kernel
theorem d_Parser_take_62 : decode c_Parser_take 62 = .ok (.if_icmp .lt 8, 3) := by decide +kernel
theorem d_Parser_take_65 : decode c_Parser_take 65 = .ok (.iload_n 3, 1) := by decide +kernel
theorem d_Parser_take_66 : decode c_Parser_take 66 = .ok (.iload_n 2, 1) := by decide +kernel
theorem d_Parser_take_67 : decode c_Parser_take 67 = .ok (.if_icmp .le 14, 3) := by decide +kernel
theorem d_Parser_take_70 : decode c_Parser_take 70 = .ok (.aload_n 0, 1) := by decide +kernel
theorem d_Parser_take_71 : decode c_Parser_take 71 = .ok (.bipush 6, 2) := by decide +kernel
theorem d_Parser_take_73 : decode c_Parser_take 73 = .ok (.aload_n 0, 1) := by decide +kernel
theorem d_Parser_take_74 : decode c_Parser_take 74 = .ok (.getfield 26, 3) := by decide +kernel
theorem d_Parser_take_77 : decode c_Parser_take 77 = .ok (.invokevirtual 77, 3) := by decide +kernel
theorem d_Parser_take_80 : decode c_Parser_take 80 = .ok (.ireturn, 1) := by decide +kernel
theorem d_Parser_take_81 : decode c_Parser_take 81 = .ok (.aload_n 0, 1) := by decide +kernel
theorem d_Parser_take_82 : decode c_Parser_take 82 = .ok (.dup, 1) := by decide +kernel
theorem d_Parser_take_83 : decode c_Parser_take 83 = .ok (.getfield 26, 3) := by decide +kernel
theorem d_Parser_take_86 : decode c_Parser_take 86 = .ok (.iconst 1, 1) := by decide +kernel
theorem d_Parser_take_87 : decode c_Parser_take 87 = .ok (.iadd, 1) := by decide +kernel
theorem d_Parser_take_88 : decode c_Parser_take 88 = .ok (.putfield 26, 3) := by decide +kernel
theorem d_Parser_take_91 : decode c_Parser_take 91 = .ok (.iload_n 3, 1) := by decide +kernel
theorem d_Parser_take_92 : decode c_Parser_take 92 = .ok (.ireturn, 1) := by decide +kernel
theorem d_Parser_refuseTaken_0 : decode c_Parser_refuseTaken 0 = .ok (.aload_n 0, 1) := by decide +kernel
theorem d_Parser_refuseTaken_1 : decode c_Parser_refuseTaken 1 = .ok (.bipush 6, 2) := by decide +kernel
theorem d_Parser_refuseTaken_3 : decode c_Parser_refuseTaken 3 = .ok (.aload_n 0, 1) := by decide +kernel
theorem d_Parser_refuseTaken_4 : decode c_Parser_refuseTaken 4 = .ok (.getfield 26, 3) := by decide +kernel
theorem d_Parser_refuseTaken_7 : decode c_Parser_refuseTaken 7 = .ok (.iconst 1, 1) := by decide +kernel
theorem d_Parser_refuseTaken_8 : decode c_Parser_refuseTaken 8 = .ok (.isub, 1) := by decide +kernel
theorem d_Parser_refuseTaken_9 : decode c_Parser_refuseTaken 9 = .ok (.invokevirtual 77, 3) := by decide +kernel
theorem d_Parser_refuseTaken_12 : decode c_Parser_refuseTaken 12 = .ok (.pop, 1) := by decide +kernel
theorem d_Parser_refuseTaken_13 : decode c_Parser_refuseTaken 13 = .ok (.return_, 1) := by decide +kernel
theorem d_Picture_addSegment_0 : decode c_Picture_addSegment 0 = .ok (.aload_n 0, 1) := by decide +kernel
theorem d_Picture_addSegment_1 : decode c_Picture_addSegment 1 = .ok (.getfield 12, 3) := by decide +kernel
theorem d_Picture_addSegment_4 : decode c_Picture_addSegment 4 = .ok (.iload_n 1, 1) := by decide +kernel
theorem d_Picture_addSegment_5 : decode c_Picture_addSegment 5 = .ok (.invokevirtual 66, 3) := by decide +kernel
theorem d_Picture_addSegment_8 : decode c_Picture_addSegment 8 = .ok (.aload_n 0, 1) := by decide +kernel
theorem d_Picture_addSegment_9 : decode c_Picture_addSegment 9 = .ok (.getfield 12, 3) := by decide +kernel
theorem d_Picture_addSegment_12 : decode c_Picture_addSegment 12 = .ok (.iload_n 2, 1) := by decide +kernel
theorem d_Picture_addSegment_13 : decode c_Picture_addSegment 13 = .ok (.invokevirtual 66, 3) := by decide +kernel
theorem d_Picture_addSegment_16 : decode c_Picture_addSegment 16 = .ok (.return_, 1) := by decide +kernel
theorem d_Numbers_add_0 : decode c_Numbers_add 0 = .ok (.aload_n 0, 1) := by decide +kernel
theorem d_Numbers_add_1 : decode c_Numbers_add 1 = .ok (.getfield 15, 3) := by decide +kernel
theorem d_Numbers_add_4 : decode c_Numbers_add 4 = .ok (.aload_n 0, 1) := by decide +kernel
theorem d_Numbers_add_5 : decode c_Numbers_add 5 = .ok (.getfield 9, 3) := by decide +kernel
theorem d_Numbers_add_8 : decode c_Numbers_add 8 = .ok (.arraylength, 1) := by decide +kernel
theorem d_Numbers_add_9 : decode c_Numbers_add 9 = .ok (.if_icmp .lt 20, 3) := by decide +kernel
theorem d_Numbers_add_12 : decode c_Numbers_add 12 = .ok (.aload_n 0, 1) := by decide +kernel
theorem d_Numbers_add_13 : decode c_Numbers_add 13 = .ok (.aload_n 0, 1) := by decide +kernel
theorem d_Numbers_add_14 : decode c_Numbers_add 14 = .ok (.getfield 9, 3) := by decide +kernel
theorem d_Numbers_add_17 : decode c_Numbers_add 17 = .ok (.iconst 2, 1) := by decide +kernel
theorem d_Numbers_add_18 : decode c_Numbers_add 18 = .ok (.aload_n 0, 1) := by decide +kernel
theorem d_Numbers_add_19 : decode c_Numbers_add 19 = .ok (.getfield 15, 3) := by decide +kernel
theorem d_Numbers_add_22 : decode c_Numbers_add 22 = .ok (.imul, 1) := by decide +kernel
theorem d_Numbers_add_23 : decode c_Numbers_add 23 = .ok (.invokestatic 19, 3) := by decide +kernel
theorem d_Numbers_add_26 : decode c_Numbers_add 26 = .ok (.putfield 9, 3) := by decide +kernel
theorem d_Numbers_add_29 : decode c_Numbers_add 29 = .ok (.aload_n 0, 1) := by decide +kernel
theorem d_Numbers_add_30 : decode c_Numbers_add 30 = .ok (.getfield 9, 3) := by decide +kernel
theorem d_Numbers_add_33 : decode c_Numbers_add 33 = .ok (.aload_n 0, 1) := by decide +kernel
theorem d_Numbers_add_34 : decode c_Numbers_add 34 = .ok (.getfield 15, 3) := by decide +kernel
theorem d_Numbers_add_37 : decode c_Numbers_add 37 = .ok (.iload_n 1, 1) := by decide +kernel
theorem d_Numbers_add_38 : decode c_Numbers_add 38 = .ok (.iastore, 1) := by decide +kernel
theorem d_Numbers_add_39 : decode c_Numbers_add 39 = .ok (.aload_n 0, 1) := by decide +kernel
theorem d_Numbers_add_40 : decode c_Numbers_add 40 = .ok (.dup, 1) := by decide +kernel
theorem d_Numbers_add_41 : decode c_Numbers_add 41 = .ok (.getfield 15, 3) := by decide +kernel
theorem d_Numbers_add_44 : decode c_Numbers_add 44 = .ok (.iconst 1, 1) := by decide +kernel
theorem d_Numbers_add_45 : decode c_Numbers_add 45 = .ok (.iadd, 1) := by decide +kernel
theorem d_Numbers_add_46 : decode c_Numbers_add 46 = .ok (.putfield 15, 3) := by decide +kernel
theorem d_Numbers_add_49 : decode c_Numbers_add 49 = .ok (.return_, 1) := by decide +kernel
theorem d_Arrays_copyOfI_0 : decode c_Arrays_copyOfI 0 = .ok (.iload_n 1, 1) := by decide +kernel
theorem d_Arrays_copyOfI_1 : decode c_Arrays_copyOfI 1 = .ok (.aload_n 0, 1) := by decide +kernel
theorem d_Arrays_copyOfI_2 : decode c_Arrays_copyOfI 2 = .ok (.arraylength, 1) := by decide +kernel
theorem d_Arrays_copyOfI_3 : decode c_Arrays_copyOfI 3 = .ok (.if_icmp .ne 11, 3) := by decide +kernel
theorem d_Arrays_copyOfI_6 : decode c_Arrays_copyOfI 6 = .ok (.aload_n 0, 1) := by decide +kernel
theorem d_Arrays_copyOfI_7 : decode c_Arrays_copyOfI 7 = .ok (.invokevirtual 316, 3) := by decide +kernel
theorem d_Arrays_copyOfI_10 : decode c_Arrays_copyOfI 10 = .ok (.checkcast 317, 3) := by decide +kernel
theorem d_Arrays_copyOfI_13 : decode c_Arrays_copyOfI 13 = .ok (.areturn, 1) := by decide +kernel
theorem d_Arrays_copyOfI_14 : decode c_Arrays_copyOfI 14 = .ok (.iload_n 1, 1) := by decide +kernel
theorem d_Arrays_copyOfI_15 : decode c_Arrays_copyOfI 15 = .ok (.newarray .int, 2) := by decide +kernel
theorem d_Arrays_copyOfI_17 : decode c_Arrays_copyOfI 17 = .ok (.astore_n 2, 1) := by decide +kernel
theorem d_Arrays_copyOfI_18 : decode c_Arrays_copyOfI 18 = .ok (.aload_n 0, 1) := by decide +kernel
theorem d_Arrays_copyOfI_19 : decode c_Arrays_copyOfI 19 = .ok (.iconst 0, 1) := by decide +kernel
theorem d_Arrays_copyOfI_20 : decode c_Arrays_copyOfI 20 = .ok (.aload_n 2, 1) := by decide +kernel
theorem d_Arrays_copyOfI_21 : decode c_Arrays_copyOfI 21 = .ok (.iconst 0, 1) := by decide +kernel
theorem d_Arrays_copyOfI_22 : decode c_Arrays_copyOfI 22 = .ok (.aload_n 0, 1) := by decide +kernel
theorem d_Arrays_copyOfI_23 : decode c_Arrays_copyOfI 23 = .ok (.arraylength, 1) := by decide +kernel
theorem d_Arrays_copyOfI_24 : decode c_Arrays_copyOfI 24 = .ok (.iload_n 1, 1) := by decide +kernel
theorem d_Arrays_copyOfI_25 : decode c_Arrays_copyOfI 25 = .ok (.invokestatic 304, 3) := by decide +kernel
theorem d_Arrays_copyOfI_28 : decode c_Arrays_copyOfI 28 = .ok (.invokestatic 150, 3) := by decide +kernel
theorem d_Arrays_copyOfI_31 : decode c_Arrays_copyOfI 31 = .ok (.aload_n 2, 1) := by decide +kernel
theorem d_Arrays_copyOfI_32 : decode c_Arrays_copyOfI 32 = .ok (.areturn, 1) := by decide +kernel
theorem d_Parser_readContents_0 : decode c_Parser_readContents 0 = .ok (.iload_n 1, 1) := by decide +kernel
theorem d_Parser_readContents_1 : decode c_Parser_readContents 1 = .ok (.lookupswitch 135 #[(192, 98), (194, 98), (196, 74), (218, 106), (219, 67), (220, 113), (221, 81)], 67) := by decide +kernel
theorem d_Parser_readContents_68 : decode c_Parser_readContents 68 = .ok (.aload_n 0, 1) := by decide +kernel
theorem d_Parser_readContents_69 : decode c_Parser_readContents 69 = .ok (.invokevirtual 126, 3) := by decide +kernel
theorem d_Parser_readContents_72 : decode c_Parser_readContents 72 = .ok (.goto 68, 3) := by decide +kernel
theorem d_Parser_readContents_75 : decode c_Parser_readContents 75 = .ok (.aload_n 0, 1) := by decide +kernel
theorem d_Parser_readContents_76 : decode c_Parser_readContents 76 = .ok (.invokevirtual 129, 3) := by decide +kernel
theorem d_Parser_readContents_79 : decode c_Parser_readContents 79 = .ok (.goto 61, 3) := by decide +kernel
theorem d_Parser_readContents_82 : decode c_Parser_readContents 82 = .ok (.aload_n 0, 1) := by decide +kernel
theorem d_Parser_readContents_83 : decode c_Parser_readContents 83 = .ok (.getfield 50, 3) := by decide +kernel
theorem d_Parser_readContents_86 : decode c_Parser_readContents 86 = .ok (.aload_n 0, 1) := by decide +kernel
theorem d_Parser_readContents_87 : decode c_Parser_readContents 87 = .ok (.iconst 0, 1) := by decide +kernel
theorem d_Parser_readContents_88 : decode c_Parser_readContents 88 = .ok (.ldc 122, 2) := by decide +kernel
theorem d_Parser_readContents_90 : decode c_Parser_readContents 90 = .ok (.invokevirtual 123, 3) := by decide +kernel
theorem d_Parser_readContents_93 : decode c_Parser_readContents 93 = .ok (.putfield 132, 3) := by decide +kernel
theorem d_Parser_readContents_96 : decode c_Parser_readContents 96 = .ok (.goto 44, 3) := by decide +kernel
theorem d_Parser_readContents_99 : decode c_Parser_readContents 99 = .ok (.aload_n 0, 1) := by decide +kernel
theorem d_Parser_readContents_100 : decode c_Parser_readContents 100 = .ok (.iload_n 1, 1) := by decide +kernel
theorem d_Parser_readContents_101 : decode c_Parser_readContents 101 = .ok (.invokevirtual 135, 3) := by decide +kernel
theorem d_Parser_readContents_104 : decode c_Parser_readContents 104 = .ok (.goto 36, 3) := by decide +kernel
theorem d_Parser_readContents_107 : decode c_Parser_readContents 107 = .ok (.aload_n 0, 1) := by decide +kernel
theorem d_Parser_readContents_108 : decode c_Parser_readContents 108 = .ok (.invokevirtual 138, 3) := by decide +kernel
theorem d_Parser_readContents_111 : decode c_Parser_readContents 111 = .ok (.goto 29, 3) := by decide +kernel
theorem d_Parser_readContents_114 : decode c_Parser_readContents 114 = .ok (.aload_n 0, 1) := by decide +kernel
theorem d_Parser_readContents_115 : decode c_Parser_readContents 115 = .ok (.getfield 50, 3) := by decide +kernel
theorem d_Parser_readContents_118 : decode c_Parser_readContents 118 = .ok (.aload_n 0, 1) := by decide +kernel
theorem d_Parser_readContents_119 : decode c_Parser_readContents 119 = .ok (.iconst 1, 1) := by decide +kernel
theorem d_Parser_readContents_120 : decode c_Parser_readContents 120 = .ok (.bipush 64, 2) := by decide +kernel
theorem d_Parser_readContents_122 : decode c_Parser_readContents 122 = .ok (.invokevirtual 123, 3) := by decide +kernel
theorem d_Parser_readContents_125 : decode c_Parser_readContents 125 = .ok (.putfield 141, 3) := by decide +kernel
theorem d_Parser_readContents_128 : decode c_Parser_readContents 128 = .ok (.aload_n 0, 1) := by decide +kernel
theorem d_Parser_readContents_129 : decode c_Parser_readContents 129 = .ok (.iconst 0, 1) := by decide +kernel
theorem d_Parser_readContents_130 : decode c_Parser_readContents 130 = .ok (.putfield 36, 3) := by decide +kernel
theorem d_Parser_readContents_133 : decode c_Parser_readContents 133 = .ok (.goto 7, 3) := by decide +kernel
theorem d_Parser_readContents_136 : decode c_Parser_readContents 136 = .ok (.aload_n 0, 1) := by decide +kernel
theorem d_Parser_readContents_137 : decode c_Parser_readContents 137 = .ok (.invokevirtual 144, 3) := by decide +kernel
theorem d_Parser_readContents_140 : decode c_Parser_readContents 140 = .ok (.aload_n 0, 1) := by decide +kernel
theorem d_Parser_readContents_141 : decode c_Parser_readContents 141 = .ok (.getfield 26, 3) := by decide +kernel
theorem d_Parser_readContents_144 : decode c_Parser_readContents 144 = .ok (.aload_n 0, 1) := by decide +kernel
theorem d_Parser_readContents_145 : decode c_Parser_readContents 145 = .ok (.getfield 33, 3) := by decide +kernel
theorem d_Parser_readContents_148 : decode c_Parser_readContents 148 = .ok (.if_icmp .eq 13, 3) := by decide +kernel
theorem d_Parser_readContents_151 : decode c_Parser_readContents 151 = .ok (.aload_n 0, 1) := by decide +kernel
theorem d_Parser_readContents_152 : decode c_Parser_readContents 152 = .ok (.iconst 5, 1) := by decide +kernel
theorem d_Parser_readContents_153 : decode c_Parser_readContents 153 = .ok (.aload_n 0, 1) := by decide +kernel
theorem d_Parser_readContents_154 : decode c_Parser_readContents 154 = .ok (.getfield 30, 3) := by decide +kernel
theorem d_Parser_readContents_157 : decode c_Parser_readContents 157 = .ok (.invokevirtual 77, 3) := by decide +kernel
theorem d_Parser_readContents_160 : decode c_Parser_readContents 160 = .ok (.pop, 1) := by decide +kernel
theorem d_Parser_readContents_161 : decode c_Parser_readContents 161 = .ok (.return_, 1) := by decide +kernel
theorem d_Parser_readQuantisers_0 : decode c_Parser_readQuantisers 0 = .ok (.iconst 1, 1) := by decide +kernel
theorem d_Parser_readQuantisers_1 : decode c_Parser_readQuantisers 1 = .ok (.istore_n 1, 1) := by decide +kernel
theorem d_Parser_readQuantisers_2 : decode c_Parser_readQuantisers 2 = .ok (.iconst 0, 1) := by decide +kernel
theorem d_Parser_readQuantisers_3 : decode c_Parser_readQuantisers 3 = .ok (.istore_n 2, 1) := by decide +kernel
theorem d_Parser_readQuantisers_4 : decode c_Parser_readQuantisers 4 = .ok (.iload_n 2, 1) := by decide +kernel
theorem d_Parser_readQuantisers_5 : decode c_Parser_readQuantisers 5 = .ok (.sipush 16384, 3) := by decide +kernel
theorem d_Parser_readQuantisers_8 : decode c_Parser_readQuantisers 8 = .ok (.if_icmp .ge 66, 3) := by decide +kernel
theorem d_Parser_readQuantisers_11 : decode c_Parser_readQuantisers 11 = .ok (.iload_n 1, 1) := by decide +kernel
theorem d_Parser_readQuantisers_12 : decode c_Parser_readQuantisers 12 = .ok (.ifCond .eq 62, 3) := by decide +kernel
theorem d_Parser_readQuantisers_15 : decode c_Parser_readQuantisers 15 = .ok (.aload_n 0, 1) := by decide +kernel
theorem d_Parser_readQuantisers_16 : decode c_Parser_readQuantisers 16 = .ok (.iconst 0, 1) := by decide +kernel
theorem d_Parser_readQuantisers_17 : decode c_Parser_readQuantisers 17 = .ok (.iconst 3, 1) := by decide +kernel
theorem d_Parser_readQuantisers_18 : decode c_Parser_readQuantisers 18 = .ok (.invokevirtual 147, 3) := by decide +kernel
theorem d_Parser_readQuantisers_21 : decode c_Parser_readQuantisers 21 = .ok (.istore_n 3, 1) := by decide +kernel
theorem d_Parser_readQuantisers_22 : decode c_Parser_readQuantisers 22 = .ok (.aload_n 0, 1) := by decide +kernel
theorem d_Parser_readQuantisers_23 : decode c_Parser_readQuantisers 23 = .ok (.getfield 26, 3) := by decide +kernel
theorem d_Parser_readQuantisers_26 : decode c_Parser_readQuantisers 26 = .ok (.istore 4, 2) := by decide +kernel
theorem d_Parser_readQuantisers_28 : decode c_Parser_readQuantisers 28 = .ok (.iconst 0, 1) := by decide +kernel
theorem d_Parser_readQuantisers_29 : decode c_Parser_readQuantisers 29 = .ok (.istore 5, 2) := by decide +kernel
theorem d_Parser_readQuantisers_31 : decode c_Parser_readQuantisers 31 = .ok (.iload 5, 2) := by decide +kernel
theorem d_Parser_readQuantisers_33 : decode c_Parser_readQuantisers 33 = .ok (.bipush 64, 2) := by decide +kernel
theorem d_Parser_readQuantisers_35 : decode c_Parser_readQuantisers 35 = .ok (.if_icmp .ge 18, 3) := by decide +kernel
theorem d_Parser_readQuantisers_38 : decode c_Parser_readQuantisers 38 = .ok (.aload_n 0, 1) := by decide +kernel
theorem d_Parser_readQuantisers_39 : decode c_Parser_readQuantisers 39 = .ok (.iconst 1, 1) := by decide +kernel
theorem d_Parser_readQuantisers_40 : decode c_Parser_readQuantisers 40 = .ok (.sipush 255, 3) := by decide +kernel
theorem d_Parser_readQuantisers_43 : decode c_Parser_readQuantisers 43 = .ok (.invokevirtual 147, 3) := by decide +kernel
theorem d_Parser_readQuantisers_46 : decode c_Parser_readQuantisers 46 = .ok (.pop, 1) := by decide +kernel
theorem d_Parser_readQuantisers_47 : decode c_Parser_readQuantisers 47 = .ok (.iinc 5 1, 3) := by decide +kernel
theorem d_Parser_readQuantisers_50 : decode c_Parser_readQuantisers 50 = .ok (.goto (-19), 3) := by decide +kernel
theorem d_Parser_readQuantisers_53 : decode c_Parser_readQuantisers 53 = .ok (.aload_n 0, 1) := by decide +kernel
theorem d_Parser_readQuantisers_54 : decode c_Parser_readQuantisers 54 = .ok (.getfield 50, 3) := by decide +kernel
theorem d_Parser_readQuantisers_57 : decode c_Parser_readQuantisers 57 = .ok (.iload_n 3, 1) := by decide +kernel
theorem d_Parser_readQuantisers_58 : decode c_Parser_readQuantisers 58 = .ok (.iload 4, 2) := by decide +kernel
theorem d_Parser_readQuantisers_60 : decode c_Parser_readQuantisers 60 = .ok (.invokevirtual 153, 3) := by decide +kernel
theorem d_Parser_readQuantisers_63 : decode c_Parser_readQuantisers 63 = .ok (.aload_n 0, 1) := by decide +kernel
theorem d_Parser_readQuantisers_64 : decode c_Parser_readQuantisers 64 = .ok (.invokevirtual 156, 3) := by decide +kernel
theorem d_Parser_readQuantisers_67 : decode c_Parser_readQuantisers 67 = .ok (.istore_n 1, 1) := by decide +kernel
theorem d_Parser_readQuantisers_68 : decode c_Parser_readQuantisers 68 = .ok (.iinc 2 1, 3) := by decide +kernel
theorem d_Parser_readQuantisers_71 : decode c_Parser_readQuantisers 71 = .ok (.goto (-67), 3) := by decide +kernel
theorem d_Parser_readQuantisers_74 : decode c_Parser_readQuantisers 74 = .ok (.return_, 1) := by decide +kernel
theorem d_Picture_setQuantisers_0 : decode c_Picture_setQuantisers 0 = .ok (.iload_n 1, 1) := by decide +kernel
theorem d_Picture_setQuantisers_1 : decode c_Picture_setQuantisers 1 = .ok (.ifCond .lt 19, 3) := by decide +kernel
theorem d_Picture_setQuantisers_4 : decode c_Picture_setQuantisers 4 = .ok (.iload_n 1, 1) := by decide +kernel
theorem d_Picture_setQuantisers_5 : decode c_Picture_setQuantisers 5 = .ok (.aload_n 0, 1) := by decide +kernel
theorem d_Picture_setQuantisers_6 : decode c_Picture_setQuantisers 6 = .ok (.getfield 25, 3) := by decide +kernel
theorem d_Picture_setQuantisers_9 : decode c_Picture_setQuantisers 9 = .ok (.arraylength, 1) := by decide +kernel
theorem d_Picture_setQuantisers_10 : decode c_Picture_setQuantisers 10 = .ok (.if_icmp .ge 10, 3) := by decide +kernel
theorem d_Picture_setQuantisers_13 : decode c_Picture_setQuantisers 13 = .ok (.aload_n 0, 1) := by decide +kernel
theorem d_Picture_setQuantisers_14 : decode c_Picture_setQuantisers 14 = .ok (.getfield 25, 3) := by decide +kernel
theorem d_Picture_setQuantisers_17 : decode c_Picture_setQuantisers 17 = .ok (.iload_n 1, 1) := by decide +kernel
theorem d_Picture_setQuantisers_18 : decode c_Picture_setQuantisers 18 = .ok (.iload_n 2, 1) := by decide +kernel
theorem d_Picture_setQuantisers_19 : decode c_Picture_setQuantisers 19 = .ok (.iastore, 1) := by decide +kernel
theorem d_Picture_setQuantisers_20 : decode c_Picture_setQuantisers 20 = .ok (.return_, 1) := by decide +kernel
theorem d_Parser_moreContents_0 : decode c_Parser_moreContents 0 = .ok (.aload_n 0, 1) := by decide +kernel
theorem d_Parser_moreContents_1 : decode c_Parser_moreContents 1 = .ok (.getfield 40, 3) := by decide +kernel
theorem d_Parser_moreContents_4 : decode c_Parser_moreContents 4 = .ok (.ifCond .ne 18, 3) := by decide +kernel
theorem d_Parser_moreContents_7 : decode c_Parser_moreContents 7 = .ok (.aload_n 0, 1) := by decide +kernel
theorem d_Parser_moreContents_8 : decode c_Parser_moreContents 8 = .ok (.getfield 26, 3) := by decide +kernel
theorem d_Parser_moreContents_11 : decode c_Parser_moreContents 11 = .ok (.aload_n 0, 1) := by decide +kernel
theorem d_Parser_moreContents_12 : decode c_Parser_moreContents 12 = .ok (.getfield 33, 3) := by decide +kernel
theorem d_Parser_moreContents_15 : decode c_Parser_moreContents 15 = .ok (.if_icmp .ge 7, 3) := by decide +kernel
theorem d_Parser_moreContents_18 : decode c_Parser_moreContents 18 = .ok (.iconst 1, 1) := by decide +kernel
theorem d_Parser_moreContents_19 : decode c_Parser_moreContents 19 = .ok (.goto 4, 3) := by decide +kernel
theorem d_Parser_moreContents_22 : decode c_Parser_moreContents 22 = .ok (.iconst 0, 1) := by decide +kernel
theorem d_Parser_moreContents_23 : decode c_Parser_moreContents 23 = .ok (.ireturn, 1) := by decide +kernel
theorem d_Parser_readWords_0 : decode c_Parser_readWords 0 = .ok (.iconst 1, 1) := by decide +kernel
theorem d_Parser_readWords_1 : decode c_Parser_readWords 1 = .ok (.istore_n 1, 1) := by decide +kernel
theorem d_Parser_readWords_2 : decode c_Parser_readWords 2 = .ok (.iconst 0, 1) := by decide +kernel
theorem d_Parser_readWords_3 : decode c_Parser_readWords 3 = .ok (.istore_n 2, 1) := by decide +kernel
theorem d_Parser_readWords_4 : decode c_Parser_readWords 4 = .ok (.iload_n 2, 1) := by decide +kernel
theorem d_Parser_readWords_5 : decode c_Parser_readWords 5 = .ok (.sipush 16384, 3) := by decide +kernel
theorem d_Parser_readWords_8 : decode c_Parser_readWords 8 = .ok (.if_icmp .ge 83, 3) := by decide +kernel
theorem d_Parser_readWords_11 : decode c_Parser_readWords 11 = .ok (.iload_n 1, 1) := by decide +kernel
theorem d_Parser_readWords_12 : decode c_Parser_readWords 12 = .ok (.ifCond .eq 79, 3) := by decide +kernel
theorem d_Parser_readWords_15 : decode c_Parser_readWords 15 = .ok (.aload_n 0, 1) := by decide +kernel
theorem d_Parser_readWords_16 : decode c_Parser_readWords 16 = .ok (.iconst 0, 1) := by decide +kernel
theorem d_Parser_readWords_17 : decode c_Parser_readWords 17 = .ok (.bipush 19, 2) := by decide +kernel
theorem d_Parser_readWords_19 : decode c_Parser_readWords 19 = .ok (.invokevirtual 147, 3) := by decide +kernel
theorem d_Parser_readWords_22 : decode c_Parser_readWords 22 = .ok (.istore_n 3, 1) := by decide +kernel
theorem d_Parser_readWords_23 : decode c_Parser_readWords 23 = .ok (.iload_n 3, 1) := by decide +kernel
theorem d_Parser_readWords_24 : decode c_Parser_readWords 24 = .ok (.iconst 3, 1) := by decide +kernel
theorem d_Parser_readWords_25 : decode c_Parser_readWords 25 = .ok (.if_icmp .le 13, 3) := by decide +kernel
theorem d_Parser_readWords_28 : decode c_Parser_readWords 28 = .ok (.iload_n 3, 1) := by decide +kernel
theorem d_Parser_readWords_29 : decode c_Parser_readWords 29 = .ok (.bipush 16, 2) := by decide +kernel
theorem d_Parser_readWords_31 : decode c_Parser_readWords 31 = .ok (.if_icmp .ge 7, 3) := by decide +kernel
theorem d_Parser_readWords_34 : decode c_Parser_readWords 34 = .ok (.aload_n 0, 1) := by decide +kernel
theorem d_Parser_readWords_35 : decode c_Parser_readWords 35 = .ok (.invokevirtual 150, 3) := by decide +kernel
theorem d_Parser_readWords_38 : decode c_Parser_readWords 38 = .ok (.aload_n 0, 1) := by decide +kernel
theorem d_Parser_readWords_39 : decode c_Parser_readWords 39 = .ok (.getfield 26, 3) := by decide +kernel
theorem d_Parser_readWords_42 : decode c_Parser_readWords 42 = .ok (.istore 4, 2) := by decide +kernel
theorem d_Parser_readWords_44 : decode c_Parser_readWords 44 = .ok (.aload_n 0, 1) := by decide +kernel
theorem d_Parser_readWords_45 : decode c_Parser_readWords 45 = .ok (.invokevirtual 159, 3) := by decide +kernel
theorem d_Parser_readWords_48 : decode c_Parser_readWords 48 = .ok (.istore 5, 2) := by decide +kernel
theorem d_Parser_readWords_50 : decode c_Parser_readWords 50 = .ok (.aload_n 0, 1) := by decide +kernel
theorem d_Parser_readWords_51 : decode c_Parser_readWords 51 = .ok (.iload 5, 2) := by decide +kernel
theorem d_Parser_readWords_53 : decode c_Parser_readWords 53 = .ok (.iload_n 3, 1) := by decide +kernel
theorem d_Parser_readWords_54 : decode c_Parser_readWords 54 = .ok (.bipush 16, 2) := by decide +kernel
theorem d_Parser_readWords_56 : decode c_Parser_readWords 56 = .ok (.if_icmp .ge 8, 3) := by decide +kernel
theorem d_Parser_readWords_59 : decode c_Parser_readWords 59 = .ok (.bipush 11, 2) := by decide +kernel
theorem d_Parser_readWords_61 : decode c_Parser_readWords 61 = .ok (.goto 6, 3) := by decide +kernel
theorem d_Parser_readWords_64 : decode c_Parser_readWords 64 = .ok (.sipush 255, 3) := by decide +kernel
theorem d_Parser_readWords_67 : decode c_Parser_readWords 67 = .ok (.invokevirtual 162, 3) := by decide +kernel
theorem d_Parser_readWords_70 : decode c_Parser_readWords 70 = .ok (.aload_n 0, 1) := by decide +kernel
theorem d_Parser_readWords_71 : decode c_Parser_readWords 71 = .ok (.getfield 50, 3) := by decide +kernel
theorem d_Parser_readWords_74 : decode c_Parser_readWords 74 = .ok (.iload_n 3, 1) := by decide +kernel
theorem d_Parser_readWords_75 : decode c_Parser_readWords 75 = .ok (.iload 4, 2) := by decide +kernel
theorem d_Parser_readWords_77 : decode c_Parser_readWords 77 = .ok (.invokevirtual 165, 3) := by decide +kernel
theorem d_Parser_readWords_80 : decode c_Parser_readWords 80 = .ok (.aload_n 0, 1) := by decide +kernel
theorem d_Parser_readWords_81 : decode c_Parser_readWords 81 = .ok (.invokevirtual 156, 3) := by decide +kernel
theorem d_Parser_readWords_84 : decode c_Parser_readWords 84 = .ok (.istore_n 1, 1) := by decide +kernel
theorem d_Parser_readWords_85 : decode c_Parser_readWords 85 = .ok (.iinc 2 1, 3) := by decide +kernel
theorem d_Parser_readWords_88 : decode c_Parser_readWords 88 = .ok (.goto (-84), 3) := by decide +kernel
theorem d_Parser_readWords_91 : decode c_Parser_readWords 91 = .ok (.return_, 1) := by decide +kernel
theorem d_Parser_takeCounts_0 : decode c_Parser_takeCounts 0 = .ok (.iconst 0, 1) := by decide +kernel
theorem d_Parser_takeCounts_1 : decode c_Parser_takeCounts 1 = .ok (.istore_n 1, 1) := by decide +kernel
theorem d_Parser_takeCounts_2 : decode c_Parser_takeCounts 2 = .ok (.iconst 0, 1) := by decide +kernel
theorem d_Parser_takeCounts_3 : decode c_Parser_takeCounts 3 = .ok (.istore_n 2, 1) := by decide +kernel
theorem d_Parser_takeCounts_4 : decode c_Parser_takeCounts 4 = .ok (.iconst 1, 1) := by decide +kernel
theorem d_Parser_takeCounts_5 : decode c_Parser_takeCounts 5 = .ok (.istore_n 3, 1) := by decide +kernel
theorem d_Parser_takeCounts_6 : decode c_Parser_takeCounts 6 = .ok (.iload_n 3, 1) := by decide +kernel
theorem d_Parser_takeCounts_7 : decode c_Parser_takeCounts 7 = .ok (.bipush 16, 2) := by decide +kernel
theorem d_Parser_takeCounts_9 : decode c_Parser_takeCounts 9 = .ok (.if_icmp .gt 49, 3) := by decide +kernel
theorem d_Parser_takeCounts_12 : decode c_Parser_takeCounts 12 = .ok (.aload_n 0, 1) := by decide +kernel
theorem d_Parser_takeCounts_13 : decode c_Parser_takeCounts 13 = .ok (.iconst 0, 1) := by decide +kernel
theorem d_Parser_takeCounts_14 : decode c_Parser_takeCounts 14 = .ok (.sipush 255, 3) := by decide +kernel
theorem d_Parser_takeCounts_17 : decode c_Parser_takeCounts 17 = .ok (.invokevirtual 147, 3) := by decide +kernel
theorem d_Parser_takeCounts_20 : decode c_Parser_takeCounts 20 = .ok (.istore 4, 2) := by decide +kernel
theorem d_Parser_takeCounts_22 : decode c_Parser_takeCounts 22 = .ok (.iload_n 1, 1) := by decide +kernel
theorem d_Parser_takeCounts_23 : decode c_Parser_takeCounts 23 = .ok (.iload 4, 2) := by decide +kernel
theorem d_Parser_takeCounts_25 : decode c_Parser_takeCounts 25 = .ok (.iadd, 1) := by decide +kernel
theorem d_Parser_takeCounts_26 : decode c_Parser_takeCounts 26 = .ok (.istore_n 1, 1) := by decide +kernel
theorem d_Parser_takeCounts_27 : decode c_Parser_takeCounts 27 = .ok (.iconst 2, 1) := by decide +kernel
theorem d_Parser_takeCounts_28 : decode c_Parser_takeCounts 28 = .ok (.iload_n 2, 1) := by decide +kernel
theorem d_Parser_takeCounts_29 : decode c_Parser_takeCounts 29 = .ok (.imul, 1) := by decide +kernel
theorem d_Parser_takeCounts_30 : decode c_Parser_takeCounts 30 = .ok (.iload 4, 2) := by decide +kernel
theorem d_Parser_takeCounts_32 : decode c_Parser_takeCounts 32 = .ok (.iadd, 1) := by decide +kernel
theorem d_Parser_takeCounts_33 : decode c_Parser_takeCounts 33 = .ok (.istore_n 2, 1) := by decide +kernel
theorem d_Parser_takeCounts_34 : decode c_Parser_takeCounts 34 = .ok (.iload_n 1, 1) := by decide +kernel
theorem d_Parser_takeCounts_35 : decode c_Parser_takeCounts 35 = .ok (.sipush 256, 3) := by decide +kernel
theorem d_Parser_takeCounts_38 : decode c_Parser_takeCounts 38 = .ok (.if_icmp .gt 10, 3) := by decide +kernel
theorem d_Parser_takeCounts_41 : decode c_Parser_takeCounts 41 = .ok (.iload_n 2, 1) := by decide +kernel
theorem d_Parser_takeCounts_42 : decode c_Parser_takeCounts 42 = .ok (.iconst 1, 1) := by decide +kernel
theorem d_Parser_takeCounts_43 : decode c_Parser_takeCounts 43 = .ok (.iload_n 3, 1) := by decide +kernel
theorem d_Parser_takeCounts_44 : decode c_Parser_takeCounts 44 = .ok (.ishl, 1) := by decide +kernel
theorem d_Parser_takeCounts_45 : decode c_Parser_takeCounts 45 = .ok (.if_icmp .lt 7, 3) := by decide +kernel
theorem d_Parser_takeCounts_48 : decode c_Parser_takeCounts 48 = .ok (.aload_n 0, 1) := by decide +kernel
theorem d_Parser_takeCounts_49 : decode c_Parser_takeCounts 49 = .ok (.invokevirtual 150, 3) := by decide +kernel
theorem d_Parser_takeCounts_52 : decode c_Parser_takeCounts 52 = .ok (.iinc 3 1, 3) := by decide +kernel
theorem d_Parser_takeCounts_55 : decode c_Parser_takeCounts 55 = .ok (.goto (-49), 3) := by decide +kernel
theorem d_Parser_takeCounts_58 : decode c_Parser_takeCounts 58 = .ok (.iload_n 1, 1) := by decide +kernel
theorem d_Parser_takeCounts_59 : decode c_Parser_takeCounts 59 = .ok (.ifCond .ne 7, 3) := by decide +kernel
theorem d_Parser_takeCounts_62 : decode c_Parser_takeCounts 62 = .ok (.aload_n 0, 1) := by decide +kernel
theorem d_Parser_takeCounts_63 : decode c_Parser_takeCounts 63 = .ok (.invokevirtual 150, 3) := by decide +kernel
theorem d_Parser_takeCounts_66 : decode c_Parser_takeCounts 66 = .ok (.iload_n 1, 1) := by decide +kernel
theorem d_Parser_takeCounts_67 : decode c_Parser_takeCounts 67 = .ok (.ireturn, 1) := by decide +kernel
theorem d_Parser_takeSymbols_0 : decode c_Parser_takeSymbols 0 = .ok (.aload_n 0, 1) := by decide +kernel
theorem d_Parser_takeSymbols_1 : decode c_Parser_takeSymbols 1 = .ok (.getfield 22, 3) := by decide +kernel
theorem d_Parser_takeSymbols_4 : decode c_Parser_takeSymbols 4 = .ok (.lconst 0, 1) := by decide +kernel
theorem d_Parser_takeSymbols_5 : decode c_Parser_takeSymbols 5 = .ok (.invokestatic 168, 3) := by decide +kernel
theorem d_Parser_takeSymbols_8 : decode c_Parser_takeSymbols 8 = .ok (.iconst 0, 1) := by decide +kernel
theorem d_Parser_takeSymbols_9 : decode c_Parser_takeSymbols 9 = .ok (.istore_n 3, 1) := by decide +kernel
theorem d_Parser_takeSymbols_10 : decode c_Parser_takeSymbols 10 = .ok (.iload_n 3, 1) := by decide +kernel
theorem d_Parser_takeSymbols_11 : decode c_Parser_takeSymbols 11 = .ok (.iload_n 1, 1) := by decide +kernel
theorem d_Parser_takeSymbols_12 : decode c_Parser_takeSymbols 12 = .ok (.if_icmp .ge 80, 3) := by decide +kernel
theorem d_Parser_takeSymbols_15 : decode c_Parser_takeSymbols 15 = .ok (.aload_n 0, 1) := by decide +kernel
theorem d_Parser_takeSymbols_16 : decode c_Parser_takeSymbols 16 = .ok (.getfield 40, 3) := by decide +kernel
theorem d_Parser_takeSymbols_19 : decode c_Parser_takeSymbols 19 = .ok (.ifCond .ne 73, 3) := by decide +kernel
theorem d_Parser_takeSymbols_22 : decode c_Parser_takeSymbols 22 = .ok (.aload_n 0, 1) := by decide +kernel
theorem d_Parser_takeSymbols_23 : decode c_Parser_takeSymbols 23 = .ok (.iconst 0, 1) := by decide +kernel
theorem d_Parser_takeSymbols_24 : decode c_Parser_takeSymbols 24 = .ok (.iload_n 2, 1) := by decide +kernel
theorem d_Parser_takeSymbols_25 : decode c_Parser_takeSymbols 25 = .ok (.invokevirtual 147, 3) := by decide +kernel
theorem d_Parser_takeSymbols_28 : decode c_Parser_takeSymbols 28 = .ok (.istore 4, 2) := by decide +kernel
theorem d_Parser_takeSymbols_30 : decode c_Parser_takeSymbols 30 = .ok (.iload 4, 2) := by decide +kernel
theorem d_Parser_takeSymbols_32 : decode c_Parser_takeSymbols 32 = .ok (.iconst (-1), 1) := by decide +kernel
theorem d_Parser_takeSymbols_33 : decode c_Parser_takeSymbols 33 = .ok (.if_icmp .ne 4, 3) := by decide +kernel
theorem d_Parser_takeSymbols_36 : decode c_Parser_takeSymbols 36 = .ok (.return_, 1) := by decide +kernel
theorem d_Parser_takeSymbols_37 : decode c_Parser_takeSymbols 37 = .ok (.iload 4, 2) := by decide +kernel
theorem d_Parser_takeSymbols_39 : decode c_Parser_takeSymbols 39 = .ok (.bipush 6, 2) := by decide +kernel
theorem d_Parser_takeSymbols_41 : decode c_Parser_takeSymbols 41 = .ok (.ishr, 1) := by decide +kernel
theorem d_Parser_takeSymbols_42 : decode c_Parser_takeSymbols 42 = .ok (.iconst 3, 1) := by decide +kernel
theorem d_Parser_takeSymbols_43 : decode c_Parser_takeSymbols 43 = .ok (.iand, 1) := by decide +kernel
theorem d_Parser_takeSymbols_44 : decode c_Parser_takeSymbols 44 = .ok (.istore 5, 2) := by decide +kernel
theorem d_Parser_takeSymbols_46 : decode c_Parser_takeSymbols 46 = .ok (.lconst 1, 1) := by decide +kernel
theorem d_Parser_takeSymbols_47 : decode c_Parser_takeSymbols 47 = .ok (.iload 4, 2) := by decide +kernel
theorem d_Parser_takeSymbols_49 : decode c_Parser_takeSymbols 49 = .ok (.bipush 63, 2) := by decide +kernel
theorem d_Parser_takeSymbols_51 : decode c_Parser_takeSymbols 51 = .ok (.iand, 1) := by decide +kernel
theorem d_Parser_takeSymbols_52 : decode c_Parser_takeSymbols 52 = .ok (.lshl, 1) := by decide +kernel
theorem d_Parser_takeSymbols_53 : decode c_Parser_takeSymbols 53 = .ok (.lstore 6, 2) := by decide +kernel
theorem d_Parser_takeSymbols_55 : decode c_Parser_takeSymbols 55 = .ok (.aload_n 0, 1) := by decide +kernel
theorem d_Parser_takeSymbols_56 : decode c_Parser_takeSymbols 56 = .ok (.getfield 22, 3) := by decide +kernel
theorem d_Parser_takeSymbols_59 : decode c_Parser_takeSymbols 59 = .ok (.iload 5, 2) := by decide +kernel
theorem d_Parser_takeSymbols_61 : decode c_Parser_takeSymbols 61 = .ok (.laload, 1) := by decide +kernel
theorem d_Parser_takeSymbols_62 : decode c_Parser_takeSymbols 62 = .ok (.lload 6, 2) := by decide +kernel
theorem d_Parser_takeSymbols_64 : decode c_Parser_takeSymbols 64 = .ok (.land, 1) := by decide +kernel
theorem d_Parser_takeSymbols_65 : decode c_Parser_takeSymbols 65 = .ok (.lconst 0, 1) := by decide +kernel
theorem d_Parser_takeSymbols_66 : decode c_Parser_takeSymbols 66 = .ok (.lcmp, 1) := by decide +kernel
theorem d_Parser_takeSymbols_67 : decode c_Parser_takeSymbols 67 = .ok (.ifCond .eq 7, 3) := by decide +kernel
theorem d_Parser_takeSymbols_70 : decode c_Parser_takeSymbols 70 = .ok (.aload_n 0, 1) := by decide +kernel
theorem d_Parser_takeSymbols_71 : decode c_Parser_takeSymbols 71 = .ok (.invokevirtual 150, 3) := by decide +kernel
theorem d_Parser_takeSymbols_74 : decode c_Parser_takeSymbols 74 = .ok (.aload_n 0, 1) := by decide +kernel
theorem d_Parser_takeSymbols_75 : decode c_Parser_takeSymbols 75 = .ok (.getfield 22, 3) := by decide +kernel
theorem d_Parser_takeSymbols_78 : decode c_Parser_takeSymbols 78 = .ok (.iload 5, 2) := by decide +kernel
theorem d_Parser_takeSymbols_80 : decode c_Parser_takeSymbols 80 = .ok (.dup2, 1) := by decide +kernel
theorem d_Parser_takeSymbols_81 : decode c_Parser_takeSymbols 81 = .ok (.laload, 1) := by decide +kernel
theorem d_Parser_takeSymbols_82 : decode c_Parser_takeSymbols 82 = .ok (.lload 6, 2) := by decide +kernel
theorem d_Parser_takeSymbols_84 : decode c_Parser_takeSymbols 84 = .ok (.lor, 1) := by decide +kernel
theorem d_Parser_takeSymbols_85 : decode c_Parser_takeSymbols 85 = .ok (.lastore, 1) := by decide +kernel
theorem d_Parser_takeSymbols_86 : decode c_Parser_takeSymbols 86 = .ok (.iinc 3 1, 3) := by decide +kernel
theorem d_Parser_takeSymbols_89 : decode c_Parser_takeSymbols 89 = .ok (.goto (-79), 3) := by decide +kernel
theorem d_Parser_takeSymbols_92 : decode c_Parser_takeSymbols 92 = .ok (.return_, 1) := by decide +kernel
theorem d_Arrays_fillJ_0 : decode c_Arrays_fillJ 0 = .ok (.iconst 0, 1) := by decide +kernel
theorem d_Arrays_fillJ_1 : decode c_Arrays_fillJ 1 = .ok (.istore_n 3, 1) := by decide +kernel
theorem d_Arrays_fillJ_2 : decode c_Arrays_fillJ 2 = .ok (.aload_n 0, 1) := by decide +kernel
theorem d_Arrays_fillJ_3 : decode c_Arrays_fillJ 3 = .ok (.arraylength, 1) := by decide +kernel
theorem d_Arrays_fillJ_4 : decode c_Arrays_fillJ 4 = .ok (.istore 4, 2) := by decide +kernel
theorem d_Arrays_fillJ_6 : decode c_Arrays_fillJ 6 = .ok (.iload_n 3, 1) := by decide +kernel
theorem d_Arrays_fillJ_7 : decode c_Arrays_fillJ 7 = .ok (.iload 4, 2) := by decide +kernel
theorem d_Arrays_fillJ_9 : decode c_Arrays_fillJ 9 = .ok (.if_icmp .ge 13, 3) := by decide +kernel
theorem d_Arrays_fillJ_12 : decode c_Arrays_fillJ 12 = .ok (.aload_n 0, 1) := by decide +kernel
theorem d_Arrays_fillJ_13 : decode c_Arrays_fillJ 13 = .ok (.iload_n 3, 1) := by decide +kernel
theorem d_Arrays_fillJ_14 : decode c_Arrays_fillJ 14 = .ok (.lload_n 1, 1) := by decide +kernel
theorem d_Arrays_fillJ_15 : decode c_Arrays_fillJ 15 = .ok (.lastore, 1) := by decide +kernel
theorem d_Arrays_fillJ_16 : decode c_Arrays_fillJ 16 = .ok (.iinc 3 1, 3) := by decide +kernel
theorem d_Arrays_fillJ_19 : decode c_Arrays_fillJ 19 = .ok (.goto (-13), 3) := by decide +kernel
theorem d_Arrays_fillJ_22 : decode c_Arrays_fillJ 22 = .ok (.return_, 1) := by decide +kernel
theorem d_Picture_setWords_0 : decode c_Picture_setWords 0 = .ok (.aload_n 0, 1) := by decide +kernel
theorem d_Picture_setWords_1 : decode c_Picture_setWords 1 = .ok (.iload_n 1, 1) := by decide +kernel
theorem d_Picture_setWords_2 : decode c_Picture_setWords 2 = .ok (.invokevirtual 113, 3) := by decide +kernel
theorem d_Picture_setWords_5 : decode c_Picture_setWords 5 = .ok (.istore_n 3, 1) := by decide +kernel
theorem d_Picture_setWords_6 : decode c_Picture_setWords 6 = .ok (.iload_n 3, 1) := by decide +kernel
theorem d_Picture_setWords_7 : decode c_Picture_setWords 7 = .ok (.ifCond .lt 19, 3) := by decide +kernel
theorem d_Picture_setWords_10 : decode c_Picture_setWords 10 = .ok (.iload_n 3, 1) := by decide +kernel
theorem d_Picture_setWords_11 : decode c_Picture_setWords 11 = .ok (.aload_n 0, 1) := by decide +kernel
theorem d_Picture_setWords_12 : decode c_Picture_setWords 12 = .ok (.getfield 28, 3) := by decide +kernel
theorem d_Picture_setWords_15 : decode c_Picture_setWords 15 = .ok (.arraylength, 1) := by decide +kernel
theorem d_Picture_setWords_16 : decode c_Picture_setWords 16 = .ok (.if_icmp .ge 10, 3) := by decide +kernel
theorem d_Picture_setWords_19 : decode c_Picture_setWords 19 = .ok (.aload_n 0, 1) := by decide +kernel
theorem d_Picture_setWords_20 : decode c_Picture_setWords 20 = .ok (.getfield 28, 3) := by decide +kernel
theorem d_Picture_setWords_23 : decode c_Picture_setWords 23 = .ok (.iload_n 3, 1) := by decide +kernel
theorem d_Picture_setWords_24 : decode c_Picture_setWords 24 = .ok (.iload_n 2, 1) := by decide +kernel
theorem d_Picture_setWords_25 : decode c_Picture_setWords 25 = .ok (.iastore, 1) := by decide +kernel
theorem d_Picture_setWords_26 : decode c_Picture_setWords 26 = .ok (.return_, 1) := by decide +kernel
theorem d_Picture_rowOfWords_0 : decode c_Picture_rowOfWords 0 = .ok (.iload_n 1, 1) := by decide +kernel
theorem d_Picture_rowOfWords_1 : decode c_Picture_rowOfWords 1 = .ok (.ifCond .lt 10, 3) := by decide +kernel
theorem d_Picture_rowOfWords_4 : decode c_Picture_rowOfWords 4 = .ok (.iload_n 1, 1) := by decide +kernel
theorem d_Picture_rowOfWords_5 : decode c_Picture_rowOfWords 5 = .ok (.iconst 3, 1) := by decide +kernel
theorem d_Picture_rowOfWords_6 : decode c_Picture_rowOfWords 6 = .ok (.if_icmp .gt 5, 3) := by decide +kernel
theorem d_Picture_rowOfWords_9 : decode c_Picture_rowOfWords 9 = .ok (.iload_n 1, 1) := by decide +kernel
theorem d_Picture_rowOfWords_10 : decode c_Picture_rowOfWords 10 = .ok (.ireturn, 1) := by decide +kernel
theorem d_Picture_rowOfWords_11 : decode c_Picture_rowOfWords 11 = .ok (.iload_n 1, 1) := by decide +kernel
theorem d_Picture_rowOfWords_12 : decode c_Picture_rowOfWords 12 = .ok (.bipush 16, 2) := by decide +kernel
theorem d_Picture_rowOfWords_14 : decode c_Picture_rowOfWords 14 = .ok (.if_icmp .lt 16, 3) := by decide +kernel
theorem d_Picture_rowOfWords_17 : decode c_Picture_rowOfWords 17 = .ok (.iload_n 1, 1) := by decide +kernel
theorem d_Picture_rowOfWords_18 : decode c_Picture_rowOfWords 18 = .ok (.bipush 19, 2) := by decide +kernel
theorem d_Picture_rowOfWords_20 : decode c_Picture_rowOfWords 20 = .ok (.if_icmp .gt 10, 3) := by decide +kernel
theorem d_Picture_rowOfWords_23 : decode c_Picture_rowOfWords 23 = .ok (.iload_n 1, 1) := by decide +kernel
theorem d_Picture_rowOfWords_24 : decode c_Picture_rowOfWords 24 = .ok (.bipush 12, 2) := by decide +kernel
theorem d_Picture_rowOfWords_26 : decode c_Picture_rowOfWords 26 = .ok (.isub, 1) := by decide +kernel
theorem d_Picture_rowOfWords_27 : decode c_Picture_rowOfWords 27 = .ok (.goto 4, 3) := by decide +kernel
theorem d_Picture_rowOfWords_30 : decode c_Picture_rowOfWords 30 = .ok (.iconst (-1), 1) := by decide +kernel
theorem d_Picture_rowOfWords_31 : decode c_Picture_rowOfWords 31 = .ok (.ireturn, 1) := by decide +kernel
theorem d_Parser_readFrame_0 : decode c_Parser_readFrame 0 = .ok (.aload_n 0, 1) := by decide +kernel
theorem d_Parser_readFrame_1 : decode c_Parser_readFrame 1 = .ok (.bipush 8, 2) := by decide +kernel
theorem d_Parser_readFrame_3 : decode c_Parser_readFrame 3 = .ok (.bipush 8, 2) := by decide +kernel
theorem d_Parser_readFrame_5 : decode c_Parser_readFrame 5 = .ok (.invokevirtual 147, 3) := by decide +kernel
theorem d_Parser_readFrame_8 : decode c_Parser_readFrame 8 = .ok (.pop, 1) := by decide +kernel
theorem d_Parser_readFrame_9 : decode c_Parser_readFrame 9 = .ok (.aload_n 0, 1) := by decide +kernel
theorem d_Parser_readFrame_10 : decode c_Parser_readFrame 10 = .ok (.getfield 50, 3) := by decide +kernel
theorem d_Parser_readFrame_13 : decode c_Parser_readFrame 13 = .ok (.aload_n 0, 1) := by decide +kernel
theorem d_Parser_readFrame_14 : decode c_Parser_readFrame 14 = .ok (.iconst 0, 1) := by decide +kernel
theorem d_Parser_readFrame_15 : decode c_Parser_readFrame 15 = .ok (.bipush 64, 2) := by decide +kernel
theorem d_Parser_readFrame_17 : decode c_Parser_readFrame 17 = .ok (.invokevirtual 123, 3) := by decide +kernel
theorem d_Parser_readFrame_20 : decode c_Parser_readFrame 20 = .ok (.putfield 141, 3) := by decide +kernel
theorem d_Parser_readFrame_23 : decode c_Parser_readFrame 23 = .ok (.aload_n 0, 1) := by decide +kernel
theorem d_Parser_readFrame_24 : decode c_Parser_readFrame 24 = .ok (.getfield 50, 3) := by decide +kernel
theorem d_Parser_readFrame_27 : decode c_Parser_readFrame 27 = .ok (.aload_n 0, 1) := by decide +kernel
theorem d_Parser_readFrame_28 : decode c_Parser_readFrame 28 = .ok (.iconst 1, 1) := by decide +kernel
theorem d_Parser_readFrame_29 : decode c_Parser_readFrame 29 = .ok (.bipush 64, 2) := by decide +kernel
theorem d_Parser_readFrame_31 : decode c_Parser_readFrame 31 = .ok (.invokevirtual 123, 3) := by decide +kernel
theorem d_Parser_readFrame_34 : decode c_Parser_readFrame 34 = .ok (.putfield 171, 3) := by decide +kernel
theorem d_Parser_readFrame_37 : decode c_Parser_readFrame 37 = .ok (.aload_n 0, 1) := by decide +kernel
theorem d_Parser_readFrame_38 : decode c_Parser_readFrame 38 = .ok (.iconst 1, 1) := by decide +kernel
theorem d_Parser_readFrame_39 : decode c_Parser_readFrame 39 = .ok (.iconst 4, 1) := by decide +kernel
theorem d_Parser_readFrame_40 : decode c_Parser_readFrame 40 = .ok (.invokevirtual 147, 3) := by decide +kernel
theorem d_Parser_readFrame_43 : decode c_Parser_readFrame 43 = .ok (.istore_n 2, 1) := by decide +kernel
theorem d_Parser_readFrame_44 : decode c_Parser_readFrame 44 = .ok (.iconst 0, 1) := by decide +kernel
theorem d_Parser_readFrame_45 : decode c_Parser_readFrame 45 = .ok (.istore_n 3, 1) := by decide +kernel
theorem d_Parser_readFrame_46 : decode c_Parser_readFrame 46 = .ok (.iload_n 3, 1) := by decide +kernel
theorem d_Parser_readFrame_47 : decode c_Parser_readFrame 47 = .ok (.iload_n 2, 1) := by decide +kernel
theorem d_Parser_readFrame_48 : decode c_Parser_readFrame 48 = .ok (.if_icmp .ge 13, 3) := by decide +kernel
theorem d_Parser_readFrame_51 : decode c_Parser_readFrame 51 = .ok (.aload_n 0, 1) := by decide +kernel
theorem d_Parser_readFrame_52 : decode c_Parser_readFrame 52 = .ok (.invokevirtual 174, 3) := by decide +kernel
theorem d_Parser_readFrame_55 : decode c_Parser_readFrame 55 = .ok (.iinc 3 1, 3) := by decide +kernel
theorem d_Parser_readFrame_58 : decode c_Parser_readFrame 58 = .ok (.goto (-12), 3) := by decide +kernel
theorem d_Parser_readFrame_61 : decode c_Parser_readFrame 61 = .ok (.aload_n 0, 1) := by decide +kernel
theorem d_Parser_readFrame_62 : decode c_Parser_readFrame 62 = .ok (.getfield 50, 3) := by decide +kernel
theorem d_Parser_readFrame_65 : decode c_Parser_readFrame 65 = .ok (.iload_n 1, 1) := by decide +kernel
theorem d_Parser_readFrame_66 : decode c_Parser_readFrame 66 = .ok (.putfield 106, 3) := by decide +kernel
theorem d_Parser_readFrame_69 : decode c_Parser_readFrame 69 = .ok (.return_, 1) := by decide +kernel
theorem d_Parser_readComponent_0 : decode c_Parser_readComponent 0 = .ok (.aload_n 0, 1) := by decide +kernel
theorem d_Parser_readComponent_1 : decode c_Parser_readComponent 1 = .ok (.iconst 0, 1) := by decide +kernel
theorem d_Parser_readComponent_2 : decode c_Parser_readComponent 2 = .ok (.sipush 255, 3) := by decide +kernel
theorem d_Parser_readComponent_5 : decode c_Parser_readComponent 5 = .ok (.invokevirtual 147, 3) := by decide +kernel
theorem d_Parser_readComponent_8 : decode c_Parser_readComponent 8 = .ok (.istore_n 1, 1) := by decide +kernel
theorem d_Parser_readComponent_9 : decode c_Parser_readComponent 9 = .ok (.aload_n 0, 1) := by decide +kernel
theorem d_Parser_readComponent_10 : decode c_Parser_readComponent 10 = .ok (.getfield 50, 3) := by decide +kernel
theorem d_Parser_readComponent_13 : decode c_Parser_readComponent 13 = .ok (.iload_n 1, 1) := by decide +kernel
theorem d_Parser_readComponent_14 : decode c_Parser_readComponent 14 = .ok (.invokevirtual 177, 3) := by decide +kernel
theorem d_Parser_readComponent_17 : decode c_Parser_readComponent 17 = .ok (.iconst (-1), 1) := by decide +kernel
theorem d_Parser_readComponent_18 : decode c_Parser_readComponent 18 = .ok (.if_icmp .eq 7, 3) := by decide +kernel
theorem d_Parser_readComponent_21 : decode c_Parser_readComponent 21 = .ok (.aload_n 0, 1) := by decide +kernel
theorem d_Parser_readComponent_22 : decode c_Parser_readComponent 22 = .ok (.invokevirtual 150, 3) := by decide +kernel
theorem d_Parser_readComponent_25 : decode c_Parser_readComponent 25 = .ok (.aload_n 0, 1) := by decide +kernel
theorem d_Parser_readComponent_26 : decode c_Parser_readComponent 26 = .ok (.iconst 0, 1) := by decide +kernel
theorem d_Parser_readComponent_27 : decode c_Parser_readComponent 27 = .ok (.sipush 255, 3) := by decide +kernel
theorem d_Parser_readComponent_30 : decode c_Parser_readComponent 30 = .ok (.invokevirtual 147, 3) := by decide +kernel
theorem d_Parser_readComponent_33 : decode c_Parser_readComponent 33 = .ok (.istore_n 2, 1) := by decide +kernel
theorem d_Parser_readComponent_34 : decode c_Parser_readComponent 34 = .ok (.iload_n 2, 1) := by decide +kernel
theorem d_Parser_readComponent_35 : decode c_Parser_readComponent 35 = .ok (.iconst 4, 1) := by decide +kernel
theorem d_Parser_readComponent_36 : decode c_Parser_readComponent 36 = .ok (.ishr, 1) := by decide +kernel
theorem d_Parser_readComponent_37 : decode c_Parser_readComponent 37 = .ok (.istore_n 3, 1) := by decide +kernel
theorem d_Parser_readComponent_38 : decode c_Parser_readComponent 38 = .ok (.iload_n 2, 1) := by decide +kernel
theorem d_Parser_readComponent_39 : decode c_Parser_readComponent 39 = .ok (.bipush 15, 2) := by decide +kernel
theorem d_Parser_readComponent_41 : decode c_Parser_readComponent 41 = .ok (.iand, 1) := by decide +kernel
theorem d_Parser_readComponent_42 : decode c_Parser_readComponent 42 = .ok (.istore 4, 2) := by decide +kernel
theorem d_Parser_readComponent_44 : decode c_Parser_readComponent 44 = .ok (.iload_n 3, 1) := by decide +kernel
theorem d_Parser_readComponent_45 : decode c_Parser_readComponent 45 = .ok (.iconst 1, 1) := by decide +kernel
theorem d_Parser_readComponent_46 : decode c_Parser_readComponent 46 = .ok (.if_icmp .lt 20, 3) := by decide +kernel
theorem d_Parser_readComponent_49 : decode c_Parser_readComponent 49 = .ok (.iload_n 3, 1) := by decide +kernel
theorem d_Parser_readComponent_50 : decode c_Parser_readComponent 50 = .ok (.iconst 2, 1) := by decide +kernel
theorem d_Parser_readComponent_51 : decode c_Parser_readComponent 51 = .ok (.if_icmp .gt 15, 3) := by decide +kernel
theorem d_Parser_readComponent_54 : decode c_Parser_readComponent 54 = .ok (.iload 4, 2) := by decide +kernel
theorem d_Parser_readComponent_56 : decode c_Parser_readComponent 56 = .ok (.iconst 1, 1) := by decide +kernel
theorem d_Parser_readComponent_57 : decode c_Parser_readComponent 57 = .ok (.if_icmp .lt 9, 3) := by decide +kernel
theorem d_Parser_readComponent_60 : decode c_Parser_readComponent 60 = .ok (.iload 4, 2) := by decide +kernel
theorem d_Parser_readComponent_62 : decode c_Parser_readComponent 62 = .ok (.iconst 2, 1) := by decide +kernel
theorem d_Parser_readComponent_63 : decode c_Parser_readComponent 63 = .ok (.if_icmp .le 7, 3) := by decide +kernel
theorem d_Parser_readComponent_66 : decode c_Parser_readComponent 66 = .ok (.aload_n 0, 1) := by decide +kernel
theorem d_Parser_readComponent_67 : decode c_Parser_readComponent 67 = .ok (.invokevirtual 150, 3) := by decide +kernel
theorem d_Parser_readComponent_70 : decode c_Parser_readComponent 70 = .ok (.aload_n 0, 1) := by decide +kernel
theorem d_Parser_readComponent_71 : decode c_Parser_readComponent 71 = .ok (.getfield 50, 3) := by decide +kernel
theorem d_Parser_readComponent_74 : decode c_Parser_readComponent 74 = .ok (.iload_n 1, 1) := by decide +kernel
theorem d_Parser_readComponent_75 : decode c_Parser_readComponent 75 = .ok (.iload_n 3, 1) := by decide +kernel
theorem d_Parser_readComponent_76 : decode c_Parser_readComponent 76 = .ok (.iload 4, 2) := by decide +kernel
theorem d_Parser_readComponent_78 : decode c_Parser_readComponent 78 = .ok (.aload_n 0, 1) := by decide +kernel
theorem d_Parser_readComponent_79 : decode c_Parser_readComponent 79 = .ok (.iconst 0, 1) := by decide +kernel
theorem d_Parser_readComponent_80 : decode c_Parser_readComponent 80 = .ok (.iconst 3, 1) := by decide +kernel
theorem d_Parser_readComponent_81 : decode c_Parser_readComponent 81 = .ok (.invokevirtual 147, 3) := by decide +kernel
theorem d_Parser_readComponent_84 : decode c_Parser_readComponent 84 = .ok (.invokevirtual 180, 3) := by decide +kernel
theorem d_Parser_readComponent_87 : decode c_Parser_readComponent 87 = .ok (.return_, 1) := by decide +kernel
theorem d_Picture_placeOfName_0 : decode c_Picture_placeOfName 0 = .ok (.iconst 0, 1) := by decide +kernel
theorem d_Picture_placeOfName_1 : decode c_Picture_placeOfName 1 = .ok (.istore_n 2, 1) := by decide +kernel
theorem d_Picture_placeOfName_2 : decode c_Picture_placeOfName 2 = .ok (.iload_n 2, 1) := by decide +kernel
theorem d_Picture_placeOfName_3 : decode c_Picture_placeOfName 3 = .ok (.aload_n 0, 1) := by decide +kernel
theorem d_Picture_placeOfName_4 : decode c_Picture_placeOfName 4 = .ok (.getfield 57, 3) := by decide +kernel
theorem d_Picture_placeOfName_7 : decode c_Picture_placeOfName 7 = .ok (.if_icmp .ge 21, 3) := by decide +kernel
theorem d_Picture_placeOfName_10 : decode c_Picture_placeOfName 10 = .ok (.aload_n 0, 1) := by decide +kernel
theorem d_Picture_placeOfName_11 : decode c_Picture_placeOfName 11 = .ok (.iload_n 2, 1) := by decide +kernel
theorem d_Picture_placeOfName_12 : decode c_Picture_placeOfName 12 = .ok (.iconst 0, 1) := by decide +kernel
theorem d_Picture_placeOfName_13 : decode c_Picture_placeOfName 13 = .ok (.invokevirtual 84, 3) := by decide +kernel
theorem d_Picture_placeOfName_16 : decode c_Picture_placeOfName 16 = .ok (.iload_n 1, 1) := by decide +kernel
theorem d_Picture_placeOfName_17 : decode c_Picture_placeOfName 17 = .ok (.if_icmp .ne 5, 3) := by decide +kernel
theorem d_Picture_placeOfName_20 : decode c_Picture_placeOfName 20 = .ok (.iload_n 2, 1) := by decide +kernel
theorem d_Picture_placeOfName_21 : decode c_Picture_placeOfName 21 = .ok (.ireturn, 1) := by decide +kernel
theorem d_Picture_placeOfName_22 : decode c_Picture_placeOfName 22 = .ok (.iinc 2 1, 3) := by decide +kernel
theorem d_Picture_placeOfName_25 : decode c_Picture_placeOfName 25 = .ok (.goto (-23), 3) := by decide +kernel
theorem d_Picture_placeOfName_28 : decode c_Picture_placeOfName 28 = .ok (.iconst (-1), 1) := by decide +kernel
theorem d_Picture_placeOfName_29 : decode c_Picture_placeOfName 29 = .ok (.ireturn, 1) := by decide +kernel
theorem d_Picture_ofComponent_0 : decode c_Picture_ofComponent 0 = .ok (.iload_n 1, 1) := by decide +kernel
theorem d_Picture_ofComponent_1 : decode c_Picture_ofComponent 1 = .ok (.ifCond .lt 20, 3) := by decide +kernel
theorem d_Picture_ofComponent_4 : decode c_Picture_ofComponent 4 = .ok (.iload_n 1, 1) := by decide +kernel
theorem d_Picture_ofComponent_5 : decode c_Picture_ofComponent 5 = .ok (.aload_n 0, 1) := by decide +kernel
theorem d_Picture_ofComponent_6 : decode c_Picture_ofComponent 6 = .ok (.getfield 57, 3) := by decide +kernel
theorem d_Picture_ofComponent_9 : decode c_Picture_ofComponent 9 = .ok (.if_icmp .ge 12, 3) := by decide +kernel
theorem d_Picture_ofComponent_12 : decode c_Picture_ofComponent 12 = .ok (.iload_n 2, 1) := by decide +kernel
theorem d_Picture_ofComponent_13 : decode c_Picture_ofComponent 13 = .ok (.ifCond .lt 8, 3) := by decide +kernel
theorem d_Picture_ofComponent_16 : decode c_Picture_ofComponent 16 = .ok (.iload_n 2, 1) := by decide +kernel
theorem d_Picture_ofComponent_17 : decode c_Picture_ofComponent 17 = .ok (.iconst 4, 1) := by decide +kernel
theorem d_Picture_ofComponent_18 : decode c_Picture_ofComponent 18 = .ok (.if_icmp .lt 5, 3) := by decide +kernel
theorem d_Picture_ofComponent_21 : decode c_Picture_ofComponent 21 = .ok (.iconst (-1), 1) := by decide +kernel
theorem d_Picture_ofComponent_22 : decode c_Picture_ofComponent 22 = .ok (.ireturn, 1) := by decide +kernel
theorem d_Picture_ofComponent_23 : decode c_Picture_ofComponent 23 = .ok (.aload_n 0, 1) := by decide +kernel
theorem d_Picture_ofComponent_24 : decode c_Picture_ofComponent 24 = .ok (.getfield 21, 3) := by decide +kernel
theorem d_Picture_ofComponent_27 : decode c_Picture_ofComponent 27 = .ok (.iload_n 1, 1) := by decide +kernel
theorem d_Picture_ofComponent_28 : decode c_Picture_ofComponent 28 = .ok (.iconst 4, 1) := by decide +kernel
theorem d_Picture_ofComponent_29 : decode c_Picture_ofComponent 29 = .ok (.imul, 1) := by decide +kernel
theorem d_Picture_ofComponent_30 : decode c_Picture_ofComponent 30 = .ok (.iload_n 2, 1) := by decide +kernel
theorem d_Picture_ofComponent_31 : decode c_Picture_ofComponent 31 = .ok (.iadd, 1) := by decide +kernel
theorem d_Picture_ofComponent_32 : decode c_Picture_ofComponent 32 = .ok (.iaload, 1) := by decide +kernel
theorem d_Picture_ofComponent_33 : decode c_Picture_ofComponent 33 = .ok (.ireturn, 1) := by decide +kernel
theorem d_Picture_addComponent_0 : decode c_Picture_addComponent 0 = .ok (.aload_n 0, 1) := by decide +kernel
theorem d_Picture_addComponent_1 : decode c_Picture_addComponent 1 = .ok (.getfield 57, 3) := by decide +kernel
theorem d_Picture_addComponent_4 : decode c_Picture_addComponent 4 = .ok (.iconst 4, 1) := by decide +kernel
theorem d_Picture_addComponent_5 : decode c_Picture_addComponent 5 = .ok (.if_icmp .lt 4, 3) := by decide +kernel
theorem d_Picture_addComponent_8 : decode c_Picture_addComponent 8 = .ok (.return_, 1) := by decide +kernel
theorem d_Picture_addComponent_9 : decode c_Picture_addComponent 9 = .ok (.aload_n 0, 1) := by decide +kernel
theorem d_Picture_addComponent_10 : decode c_Picture_addComponent 10 = .ok (.getfield 57, 3) := by decide +kernel
theorem d_Picture_addComponent_13 : decode c_Picture_addComponent 13 = .ok (.iconst 4, 1) := by decide +kernel
theorem d_Picture_addComponent_14 : decode c_Picture_addComponent 14 = .ok (.imul, 1) := by decide +kernel
theorem d_Picture_addComponent_15 : decode c_Picture_addComponent 15 = .ok (.istore 5, 2) := by decide +kernel
theorem d_Picture_addComponent_17 : decode c_Picture_addComponent 17 = .ok (.aload_n 0, 1) := by decide +kernel
theorem d_Picture_addComponent_18 : decode c_Picture_addComponent 18 = .ok (.getfield 21, 3) := by decide +kernel
theorem d_Picture_addComponent_21 : decode c_Picture_addComponent 21 = .ok (.iload 5, 2) := by decide +kernel
theorem d_Picture_addComponent_23 : decode c_Picture_addComponent 23 = .ok (.iload_n 1, 1) := by decide +kernel
theorem d_Picture_addComponent_24 : decode c_Picture_addComponent 24 = .ok (.iastore, 1) := by decide +kernel
theorem d_Picture_addComponent_25 : decode c_Picture_addComponent 25 = .ok (.aload_n 0, 1) := by decide +kernel
theorem d_Picture_addComponent_26 : decode c_Picture_addComponent 26 = .ok (.getfield 21, 3) := by decide +kernel
theorem d_Picture_addComponent_29 : decode c_Picture_addComponent 29 = .ok (.iload 5, 2) := by decide +kernel
theorem d_Picture_addComponent_31 : decode c_Picture_addComponent 31 = .ok (.iconst 1, 1) := by decide +kernel
theorem d_Picture_addComponent_32 : decode c_Picture_addComponent 32 = .ok (.iadd, 1) := by decide +kernel
theorem d_Picture_addComponent_33 : decode c_Picture_addComponent 33 = .ok (.iload_n 2, 1) := by decide +kernel
theorem d_Picture_addComponent_34 : decode c_Picture_addComponent 34 = .ok (.iastore, 1) := by decide +kernel
theorem d_Picture_addComponent_35 : decode c_Picture_addComponent 35 = .ok (.aload_n 0, 1) := by decide +kernel
theorem d_Picture_addComponent_36 : decode c_Picture_addComponent 36 = .ok (.getfield 21, 3) := by decide +kernel
theorem d_Picture_addComponent_39 : decode c_Picture_addComponent 39 = .ok (.iload 5, 2) := by decide +kernel
theorem d_Picture_addComponent_41 : decode c_Picture_addComponent 41 = .ok (.iconst 2, 1) := by decide +kernel
theorem d_Picture_addComponent_42 : decode c_Picture_addComponent 42 = .ok (.iadd, 1) := by decide +kernel
theorem d_Picture_addComponent_43 : decode c_Picture_addComponent 43 = .ok (.iload_n 3, 1) := by decide +kernel
theorem d_Picture_addComponent_44 : decode c_Picture_addComponent 44 = .ok (.iastore, 1) := by decide +kernel
theorem d_Picture_addComponent_45 : decode c_Picture_addComponent 45 = .ok (.aload_n 0, 1) := by decide +kernel
theorem d_Picture_addComponent_46 : decode c_Picture_addComponent 46 = .ok (.getfield 21, 3) := by decide +kernel
theorem d_Picture_addComponent_49 : decode c_Picture_addComponent 49 = .ok (.iload 5, 2) := by decide +kernel
theorem d_Picture_addComponent_51 : decode c_Picture_addComponent 51 = .ok (.iconst 3, 1) := by decide +kernel
theorem d_Picture_addComponent_52 : decode c_Picture_addComponent 52 = .ok (.iadd, 1) := by decide +kernel
theorem d_Picture_addComponent_53 : decode c_Picture_addComponent 53 = .ok (.iload 4, 2) := by decide +kernel
theorem d_Picture_addComponent_55 : decode c_Picture_addComponent 55 = .ok (.iastore, 1) := by decide +kernel
theorem d_Picture_addComponent_56 : decode c_Picture_addComponent 56 = .ok (.aload_n 0, 1) := by decide +kernel
theorem d_Picture_addComponent_57 : decode c_Picture_addComponent 57 = .ok (.dup, 1) := by decide +kernel
theorem d_Picture_addComponent_58 : decode c_Picture_addComponent 58 = .ok (.getfield 57, 3) := by decide +kernel
theorem d_Picture_addComponent_61 : decode c_Picture_addComponent 61 = .ok (.iconst 1, 1) := by decide +kernel
theorem d_Picture_addComponent_62 : decode c_Picture_addComponent 62 = .ok (.iadd, 1) := by decide +kernel
theorem d_Picture_addComponent_63 : decode c_Picture_addComponent 63 = .ok (.putfield 57, 3) := by decide +kernel
theorem d_Picture_addComponent_66 : decode c_Picture_addComponent 66 = .ok (.return_, 1) := by decide +kernel
theorem d_Parser_readScan_0 : decode c_Parser_readScan 0 = .ok (.aload_n 0, 1) := by decide +kernel
theorem d_Parser_readScan_1 : decode c_Parser_readScan 1 = .ok (.getfield 12, 3) := by decide +kernel
theorem d_Parser_readScan_4 : decode c_Parser_readScan 4 = .ok (.aload_n 0, 1) := by decide +kernel
theorem d_Parser_readScan_5 : decode c_Parser_readScan 5 = .ok (.getfield 26, 3) := by decide +kernel
theorem d_Parser_readScan_8 : decode c_Parser_readScan 8 = .ok (.putfield 184, 3) := by decide +kernel
theorem d_Parser_readScan_11 : decode c_Parser_readScan 11 = .ok (.aload_n 0, 1) := by decide +kernel
theorem d_Parser_readScan_12 : decode c_Parser_readScan 12 = .ok (.getfield 12, 3) := by decide +kernel
theorem d_Parser_readScan_15 : decode c_Parser_readScan 15 = .ok (.aload_n 0, 1) := by decide +kernel
theorem d_Parser_readScan_16 : decode c_Parser_readScan 16 = .ok (.iconst 1, 1) := by decide +kernel
theorem d_Parser_readScan_17 : decode c_Parser_readScan 17 = .ok (.iconst 4, 1) := by decide +kernel
theorem d_Parser_readScan_18 : decode c_Parser_readScan 18 = .ok (.invokevirtual 147, 3) := by decide +kernel
theorem d_Parser_readScan_21 : decode c_Parser_readScan 21 = .ok (.putfield 187, 3) := by decide +kernel
theorem d_Parser_readScan_24 : decode c_Parser_readScan 24 = .ok (.aload_n 0, 1) := by decide +kernel
theorem d_Parser_readScan_25 : decode c_Parser_readScan 25 = .ok (.invokevirtual 190, 3) := by decide +kernel
theorem d_Parser_readScan_28 : decode c_Parser_readScan 28 = .ok (.aload_n 0, 1) := by decide +kernel
theorem d_Parser_readScan_29 : decode c_Parser_readScan 29 = .ok (.getfield 50, 3) := by decide +kernel
theorem d_Parser_readScan_32 : decode c_Parser_readScan 32 = .ok (.getfield 106, 3) := by decide +kernel
theorem d_Parser_readScan_35 : decode c_Parser_readScan 35 = .ok (.sipush 192, 3) := by decide +kernel
theorem d_Parser_readScan_38 : decode c_Parser_readScan 38 = .ok (.if_icmp .ne 39, 3) := by decide +kernel
theorem d_Parser_readScan_41 : decode c_Parser_readScan 41 = .ok (.aload_n 0, 1) := by decide +kernel
theorem d_Parser_readScan_42 : decode c_Parser_readScan 42 = .ok (.getfield 12, 3) := by decide +kernel
theorem d_Parser_readScan_45 : decode c_Parser_readScan 45 = .ok (.aload_n 0, 1) := by decide +kernel
theorem d_Parser_readScan_46 : decode c_Parser_readScan 46 = .ok (.iconst 0, 1) := by decide +kernel
theorem d_Parser_readScan_47 : decode c_Parser_readScan 47 = .ok (.iconst 0, 1) := by decide +kernel
theorem d_Parser_readScan_48 : decode c_Parser_readScan 48 = .ok (.invokevirtual 147, 3) := by decide +kernel
theorem d_Parser_readScan_51 : decode c_Parser_readScan 51 = .ok (.putfield 193, 3) := by decide +kernel
theorem d_Parser_readScan_54 : decode c_Parser_readScan 54 = .ok (.aload_n 0, 1) := by decide +kernel
theorem d_Parser_readScan_55 : decode c_Parser_readScan 55 = .ok (.getfield 12, 3) := by decide +kernel
theorem d_Parser_readScan_58 : decode c_Parser_readScan 58 = .ok (.aload_n 0, 1) := by decide +kernel
theorem d_Parser_readScan_59 : decode c_Parser_readScan 59 = .ok (.bipush 63, 2) := by decide +kernel
theorem d_Parser_readScan_61 : decode c_Parser_readScan 61 = .ok (.bipush 63, 2) := by decide +kernel
theorem d_Parser_readScan_63 : decode c_Parser_readScan 63 = .ok (.invokevirtual 147, 3) := by decide +kernel
theorem d_Parser_readScan_66 : decode c_Parser_readScan 66 = .ok (.putfield 196, 3) := by decide +kernel
theorem d_Parser_readScan_69 : decode c_Parser_readScan 69 = .ok (.aload_n 0, 1) := by decide +kernel
theorem d_Parser_readScan_70 : decode c_Parser_readScan 70 = .ok (.iconst 0, 1) := by decide +kernel
theorem d_Parser_readScan_71 : decode c_Parser_readScan 71 = .ok (.invokevirtual 199, 3) := by decide +kernel
theorem d_Parser_readScan_74 : decode c_Parser_readScan 74 = .ok (.goto 73, 3) := by decide +kernel
theorem d_Parser_readScan_77 : decode c_Parser_readScan 77 = .ok (.aload_n 0, 1) := by decide +kernel
theorem d_Parser_readScan_78 : decode c_Parser_readScan 78 = .ok (.getfield 12, 3) := by decide +kernel
theorem d_Parser_readScan_81 : decode c_Parser_readScan 81 = .ok (.aload_n 0, 1) := by decide +kernel
theorem d_Parser_readScan_82 : decode c_Parser_readScan 82 = .ok (.iconst 0, 1) := by decide +kernel
theorem d_Parser_readScan_83 : decode c_Parser_readScan 83 = .ok (.aload_n 0, 1) := by decide +kernel
theorem d_Parser_readScan_84 : decode c_Parser_readScan 84 = .ok (.getfield 12, 3) := by decide +kernel
theorem d_Parser_readScan_87 : decode c_Parser_readScan 87 = .ok (.getfield 187, 3) := by decide +kernel
theorem d_Parser_readScan_90 : decode c_Parser_readScan 90 = .ok (.iconst 1, 1) := by decide +kernel
theorem d_Parser_readScan_91 : decode c_Parser_readScan 91 = .ok (.if_icmp .ne 8, 3) := by decide +kernel
theorem d_Parser_readScan_94 : decode c_Parser_readScan 94 = .ok (.bipush 63, 2) := by decide +kernel
theorem d_Parser_readScan_96 : decode c_Parser_readScan 96 = .ok (.goto 4, 3) := by decide +kernel
theorem d_Parser_readScan_99 : decode c_Parser_readScan 99 = .ok (.iconst 0, 1) := by decide +kernel
theorem d_Parser_readScan_100 : decode c_Parser_readScan 100 = .ok (.invokevirtual 147, 3) := by decide +kernel
theorem d_Parser_readScan_103 : decode c_Parser_readScan 103 = .ok (.putfield 193, 3) := by decide +kernel
theorem d_Parser_readScan_106 : decode c_Parser_readScan 106 = .ok (.aload_n 0, 1) := by decide +kernel
theorem d_Parser_readScan_107 : decode c_Parser_readScan 107 = .ok (.getfield 12, 3) := by decide +kernel
theorem d_Parser_readScan_110 : decode c_Parser_readScan 110 = .ok (.aload_n 0, 1) := by decide +kernel
theorem d_Parser_readScan_111 : decode c_Parser_readScan 111 = .ok (.aload_n 0, 1) := by decide +kernel
theorem d_Parser_readScan_112 : decode c_Parser_readScan 112 = .ok (.getfield 12, 3) := by decide +kernel
theorem d_Parser_readScan_115 : decode c_Parser_readScan 115 = .ok (.getfield 193, 3) := by decide +kernel
theorem d_Parser_readScan_118 : decode c_Parser_readScan 118 = .ok (.aload_n 0, 1) := by decide +kernel
theorem d_Parser_readScan_119 : decode c_Parser_readScan 119 = .ok (.getfield 12, 3) := by decide +kernel
theorem d_Parser_readScan_122 : decode c_Parser_readScan 122 = .ok (.getfield 193, 3) := by decide +kernel
theorem d_Parser_readScan_125 : decode c_Parser_readScan 125 = .ok (.ifCond .ne 7, 3) := by decide +kernel
theorem d_Parser_readScan_128 : decode c_Parser_readScan 128 = .ok (.iconst 0, 1) := by decide +kernel
theorem d_Parser_readScan_129 : decode c_Parser_readScan 129 = .ok (.goto 5, 3) := by decide +kernel
theorem d_Parser_readScan_132 : decode c_Parser_readScan 132 = .ok (.bipush 63, 2) := by decide +kernel
theorem d_Parser_readScan_134 : decode c_Parser_readScan 134 = .ok (.invokevirtual 147, 3) := by decide +kernel
theorem d_Parser_readScan_137 : decode c_Parser_readScan 137 = .ok (.putfield 196, 3) := by decide +kernel
theorem d_Parser_readScan_140 : decode c_Parser_readScan 140 = .ok (.aload_n 0, 1) := by decide +kernel
theorem d_Parser_readScan_141 : decode c_Parser_readScan 141 = .ok (.sipush 255, 3) := by decide +kernel
theorem d_Parser_readScan_144 : decode c_Parser_readScan 144 = .ok (.invokevirtual 199, 3) := by decide +kernel
theorem d_Parser_readScan_147 : decode c_Parser_readScan 147 = .ok (.aload_n 0, 1) := by decide +kernel
theorem d_Parser_readScan_148 : decode c_Parser_readScan 148 = .ok (.invokevirtual 202, 3) := by decide +kernel
theorem d_Parser_readScan_151 : decode c_Parser_readScan 151 = .ok (.aload_n 0, 1) := by decide +kernel
theorem d_Parser_readScan_152 : decode c_Parser_readScan 152 = .ok (.invokevirtual 205, 3) := by decide +kernel
theorem d_Parser_readScan_155 : decode c_Parser_readScan 155 = .ok (.aload_n 0, 1) := by decide +kernel
theorem d_Parser_readScan_156 : decode c_Parser_readScan 156 = .ok (.invokevirtual 208, 3) := by decide +kernel
theorem d_Parser_readScan_159 : decode c_Parser_readScan 159 = .ok (.return_, 1) := by decide +kernel
theorem d_Parser_takeScanComponents_0 : decode c_Parser_takeScanComponents 0 = .ok (.iconst (-1), 1) := by decide +kernel
theorem d_Parser_takeScanComponents_1 : decode c_Parser_takeScanComponents 1 = .ok (.istore_n 1, 1) := by decide +kernel
theorem d_Parser_takeScanComponents_2 : decode c_Parser_takeScanComponents 2 = .ok (.iconst 0, 1) := by decide +kernel
theorem d_Parser_takeScanComponents_3 : decode c_Parser_takeScanComponents 3 = .ok (.istore_n 2, 1) := by decide +kernel
theorem d_Parser_takeScanComponents_4 : decode c_Parser_takeScanComponents 4 = .ok (.iconst 0, 1) := by decide +kernel
theorem d_Parser_takeScanComponents_5 : decode c_Parser_takeScanComponents 5 = .ok (.istore_n 3, 1) := by decide +kernel
theorem d_Parser_takeScanComponents_6 : decode c_Parser_takeScanComponents 6 = .ok (.iload_n 3, 1) := by decide +kernel
theorem d_Parser_takeScanComponents_7 : decode c_Parser_takeScanComponents 7 = .ok (.aload_n 0, 1) := by decide +kernel
theorem d_Parser_takeScanComponents_8 : decode c_Parser_takeScanComponents 8 = .ok (.getfield 12, 3) := by decide +kernel
theorem d_Parser_takeScanComponents_11 : decode c_Parser_takeScanComponents 11 = .ok (.getfield 187, 3) := by decide +kernel
theorem d_Parser_takeScanComponents_14 : decode c_Parser_takeScanComponents 14 = .ok (.if_icmp .ge 120, 3) := by decide +kernel
theorem d_Parser_takeScanComponents_17 : decode c_Parser_takeScanComponents 17 = .ok (.iload_n 3, 1) := by decide +kernel
theorem d_Parser_takeScanComponents_18 : decode c_Parser_takeScanComponents 18 = .ok (.iconst 4, 1) := by decide +kernel
theorem d_Parser_takeScanComponents_19 : decode c_Parser_takeScanComponents 19 = .ok (.if_icmp .ge 115, 3) := by decide +kernel
theorem d_Parser_takeScanComponents_22 : decode c_Parser_takeScanComponents 22 = .ok (.aload_n 0, 1) := by decide +kernel
theorem d_Parser_takeScanComponents_23 : decode c_Parser_takeScanComponents 23 = .ok (.getfield 50, 3) := by decide +kernel
theorem d_Parser_takeScanComponents_26 : decode c_Parser_takeScanComponents 26 = .ok (.aload_n 0, 1) := by decide +kernel
theorem d_Parser_takeScanComponents_27 : decode c_Parser_takeScanComponents 27 = .ok (.iconst 0, 1) := by decide +kernel
theorem d_Parser_takeScanComponents_28 : decode c_Parser_takeScanComponents 28 = .ok (.sipush 255, 3) := by decide +kernel
theorem d_Parser_takeScanComponents_31 : decode c_Parser_takeScanComponents 31 = .ok (.invokevirtual 147, 3) := by decide +kernel
theorem d_Parser_takeScanComponents_34 : decode c_Parser_takeScanComponents 34 = .ok (.invokevirtual 177, 3) := by decide +kernel
theorem d_Parser_takeScanComponents_37 : decode c_Parser_takeScanComponents 37 = .ok (.istore 4, 2) := by decide +kernel
theorem d_Parser_takeScanComponents_39 : decode c_Parser_takeScanComponents 39 = .ok (.iload 4, 2) := by decide +kernel
theorem d_Parser_takeScanComponents_41 : decode c_Parser_takeScanComponents 41 = .ok (.iload_n 1, 1) := by decide +kernel
theorem d_Parser_takeScanComponents_42 : decode c_Parser_takeScanComponents 42 = .ok (.if_icmp .gt 16, 3) := by decide +kernel
theorem d_Parser_takeScanComponents_45 : decode c_Parser_takeScanComponents 45 = .ok (.aload_n 0, 1) := by decide +kernel
theorem d_Parser_takeScanComponents_46 : decode c_Parser_takeScanComponents 46 = .ok (.bipush 7, 2) := by decide +kernel
theorem d_Parser_takeScanComponents_48 : decode c_Parser_takeScanComponents 48 = .ok (.aload_n 0, 1) := by decide +kernel
theorem d_Parser_takeScanComponents_49 : decode c_Parser_takeScanComponents 49 = .ok (.getfield 26, 3) := by decide +kernel
theorem d_Parser_takeScanComponents_52 : decode c_Parser_takeScanComponents 52 = .ok (.iconst 1, 1) := by decide +kernel
theorem d_Parser_takeScanComponents_53 : decode c_Parser_takeScanComponents 53 = .ok (.isub, 1) := by decide +kernel
theorem d_Parser_takeScanComponents_54 : decode c_Parser_takeScanComponents 54 = .ok (.invokevirtual 77, 3) := by decide +kernel
theorem d_Parser_takeScanComponents_57 : decode c_Parser_takeScanComponents 57 = .ok (.pop, 1) := by decide +kernel
theorem d_Parser_takeScanComponents_58 : decode c_Parser_takeScanComponents 58 = .ok (.iload_n 2, 1) := by decide +kernel
theorem d_Parser_takeScanComponents_59 : decode c_Parser_takeScanComponents 59 = .ok (.aload_n 0, 1) := by decide +kernel
theorem d_Parser_takeScanComponents_60 : decode c_Parser_takeScanComponents 60 = .ok (.getfield 50, 3) := by decide +kernel
theorem d_Parser_takeScanComponents_63 : decode c_Parser_takeScanComponents 63 = .ok (.iload 4, 2) := by decide +kernel
theorem d_Parser_takeScanComponents_65 : decode c_Parser_takeScanComponents 65 = .ok (.iconst 1, 1) := by decide +kernel
theorem d_Parser_takeScanComponents_66 : decode c_Parser_takeScanComponents 66 = .ok (.invokevirtual 211, 3) := by decide +kernel
theorem d_Parser_takeScanComponents_69 : decode c_Parser_takeScanComponents 69 = .ok (.aload_n 0, 1) := by decide +kernel
theorem d_Parser_takeScanComponents_70 : decode c_Parser_takeScanComponents 70 = .ok (.getfield 50, 3) := by decide +kernel
theorem d_Parser_takeScanComponents_73 : decode c_Parser_takeScanComponents 73 = .ok (.iload 4, 2) := by decide +kernel
theorem d_Parser_takeScanComponents_75 : decode c_Parser_takeScanComponents 75 = .ok (.iconst 2, 1) := by decide +kernel
theorem d_Parser_takeScanComponents_76 : decode c_Parser_takeScanComponents 76 = .ok (.invokevirtual 211, 3) := by decide +kernel
theorem d_Parser_takeScanComponents_79 : decode c_Parser_takeScanComponents 79 = .ok (.imul, 1) := by decide +kernel
theorem d_Parser_takeScanComponents_80 : decode c_Parser_takeScanComponents 80 = .ok (.iadd, 1) := by decide +kernel
theorem d_Parser_takeScanComponents_81 : decode c_Parser_takeScanComponents 81 = .ok (.istore_n 2, 1) := by decide +kernel
theorem d_Parser_takeScanComponents_82 : decode c_Parser_takeScanComponents 82 = .ok (.iload_n 2, 1) := by decide +kernel
theorem d_Parser_takeScanComponents_83 : decode c_Parser_takeScanComponents 83 = .ok (.bipush 10, 2) := by decide +kernel
theorem d_Parser_takeScanComponents_85 : decode c_Parser_takeScanComponents 85 = .ok (.if_icmp .le 7, 3) := by decide +kernel
theorem d_Parser_takeScanComponents_88 : decode c_Parser_takeScanComponents 88 = .ok (.aload_n 0, 1) := by decide +kernel
theorem d_Parser_takeScanComponents_89 : decode c_Parser_takeScanComponents 89 = .ok (.invokevirtual 150, 3) := by decide +kernel
theorem d_Parser_takeScanComponents_92 : decode c_Parser_takeScanComponents 92 = .ok (.aload_n 0, 1) := by decide +kernel
end
section
theorem d_Parser_takeScanComponents_93 : decode c_Parser_takeScanComponents 93 = .ok (.getfield 12, 3) := by decide +kernel
theorem d_Parser_takeScanComponents_96 : decode c_Parser_takeScanComponents 96 = .ok (.getfield 214, 3) := by decide +kernel
theorem d_Parser_takeScanComponents_99 : decode c_Parser_takeScanComponents 99 = .ok (.iload_n 3, 1) := by decide +kernel
theorem d_Parser_takeScanComponents_100 : decode c_Parser_takeScanComponents 100 = .ok (.iload 4, 2) := by decide +kernel
theorem d_Parser_takeScanComponents_102 : decode c_Parser_takeScanComponents 102 = .ok (.iastore, 1) := by decide +kernel
theorem d_Parser_takeScanComponents_103 : decode c_Parser_takeScanComponents 103 = .ok (.iload 4, 2) := by decide +kernel
theorem d_Parser_takeScanComponents_105 : decode c_Parser_takeScanComponents 105 = .ok (.istore_n 1, 1) := by decide +kernel
theorem d_Parser_takeScanComponents_106 : decode c_Parser_takeScanComponents 106 = .ok (.aload_n 0, 1) := by decide +kernel
theorem d_Parser_takeScanComponents_107 : decode c_Parser_takeScanComponents 107 = .ok (.iconst 0, 1) := by decide +kernel
theorem d_Parser_takeScanComponents_108 : decode c_Parser_takeScanComponents 108 = .ok (.bipush 51, 2) := by decide +kernel
theorem d_Parser_takeScanComponents_110 : decode c_Parser_takeScanComponents 110 = .ok (.invokevirtual 147, 3) := by decide +kernel
theorem d_Parser_takeScanComponents_113 : decode c_Parser_takeScanComponents 113 = .ok (.istore 5, 2) := by decide +kernel
theorem d_Parser_takeScanComponents_115 : decode c_Parser_takeScanComponents 115 = .ok (.iload 5, 2) := by decide +kernel
theorem d_Parser_takeScanComponents_117 : decode c_Parser_takeScanComponents 117 = .ok (.bipush 15, 2) := by decide +kernel
theorem d_Parser_takeScanComponents_119 : decode c_Parser_takeScanComponents 119 = .ok (.iand, 1) := by decide +kernel
theorem d_Parser_takeScanComponents_120 : decode c_Parser_takeScanComponents 120 = .ok (.iconst 3, 1) := by decide +kernel
theorem d_Parser_takeScanComponents_121 : decode c_Parser_takeScanComponents 121 = .ok (.if_icmp .le 7, 3) := by decide +kernel
theorem d_Parser_takeScanComponents_124 : decode c_Parser_takeScanComponents 124 = .ok (.aload_n 0, 1) := by decide +kernel
theorem d_Parser_takeScanComponents_125 : decode c_Parser_takeScanComponents 125 = .ok (.invokevirtual 150, 3) := by decide +kernel
theorem d_Parser_takeScanComponents_128 : decode c_Parser_takeScanComponents 128 = .ok (.iinc 3 1, 3) := by decide +kernel
theorem d_Parser_takeScanComponents_131 : decode c_Parser_takeScanComponents 131 = .ok (.goto (-125), 3) := by decide +kernel
theorem d_Parser_takeScanComponents_134 : decode c_Parser_takeScanComponents 134 = .ok (.return_, 1) := by decide +kernel
theorem d_Parser_takeBits_0 : decode c_Parser_takeBits 0 = .ok (.aload_n 0, 1) := by decide +kernel
theorem d_Parser_takeBits_1 : decode c_Parser_takeBits 1 = .ok (.iconst 0, 1) := by decide +kernel
theorem d_Parser_takeBits_2 : decode c_Parser_takeBits 2 = .ok (.iload_n 1, 1) := by decide +kernel
theorem d_Parser_takeBits_3 : decode c_Parser_takeBits 3 = .ok (.invokevirtual 147, 3) := by decide +kernel
theorem d_Parser_takeBits_6 : decode c_Parser_takeBits 6 = .ok (.istore_n 2, 1) := by decide +kernel
theorem d_Parser_takeBits_7 : decode c_Parser_takeBits 7 = .ok (.aload_n 0, 1) := by decide +kernel
theorem d_Parser_takeBits_8 : decode c_Parser_takeBits 8 = .ok (.getfield 12, 3) := by decide +kernel
theorem d_Parser_takeBits_11 : decode c_Parser_takeBits 11 = .ok (.iload_n 2, 1) := by decide +kernel
theorem d_Parser_takeBits_12 : decode c_Parser_takeBits 12 = .ok (.iconst 4, 1) := by decide +kernel
theorem d_Parser_takeBits_13 : decode c_Parser_takeBits 13 = .ok (.ishr, 1) := by decide +kernel
theorem d_Parser_takeBits_14 : decode c_Parser_takeBits 14 = .ok (.putfield 217, 3) := by decide +kernel
theorem d_Parser_takeBits_17 : decode c_Parser_takeBits 17 = .ok (.aload_n 0, 1) := by decide +kernel
theorem d_Parser_takeBits_18 : decode c_Parser_takeBits 18 = .ok (.getfield 12, 3) := by decide +kernel
theorem d_Parser_takeBits_21 : decode c_Parser_takeBits 21 = .ok (.iload_n 2, 1) := by decide +kernel
theorem d_Parser_takeBits_22 : decode c_Parser_takeBits 22 = .ok (.bipush 15, 2) := by decide +kernel
theorem d_Parser_takeBits_24 : decode c_Parser_takeBits 24 = .ok (.iand, 1) := by decide +kernel
theorem d_Parser_takeBits_25 : decode c_Parser_takeBits 25 = .ok (.putfield 220, 3) := by decide +kernel
theorem d_Parser_takeBits_28 : decode c_Parser_takeBits 28 = .ok (.aload_n 0, 1) := by decide +kernel
theorem d_Parser_takeBits_29 : decode c_Parser_takeBits 29 = .ok (.getfield 12, 3) := by decide +kernel
theorem d_Parser_takeBits_32 : decode c_Parser_takeBits 32 = .ok (.getfield 220, 3) := by decide +kernel
theorem d_Parser_takeBits_35 : decode c_Parser_takeBits 35 = .ok (.bipush 13, 2) := by decide +kernel
theorem d_Parser_takeBits_37 : decode c_Parser_takeBits 37 = .ok (.if_icmp .gt 32, 3) := by decide +kernel
theorem d_Parser_takeBits_40 : decode c_Parser_takeBits 40 = .ok (.aload_n 0, 1) := by decide +kernel
theorem d_Parser_takeBits_41 : decode c_Parser_takeBits 41 = .ok (.getfield 12, 3) := by decide +kernel
theorem d_Parser_takeBits_44 : decode c_Parser_takeBits 44 = .ok (.getfield 217, 3) := by decide +kernel
theorem d_Parser_takeBits_47 : decode c_Parser_takeBits 47 = .ok (.ifCond .eq 26, 3) := by decide +kernel
theorem d_Parser_takeBits_50 : decode c_Parser_takeBits 50 = .ok (.aload_n 0, 1) := by decide +kernel
theorem d_Parser_takeBits_51 : decode c_Parser_takeBits 51 = .ok (.getfield 12, 3) := by decide +kernel
theorem d_Parser_takeBits_54 : decode c_Parser_takeBits 54 = .ok (.getfield 217, 3) := by decide +kernel
theorem d_Parser_takeBits_57 : decode c_Parser_takeBits 57 = .ok (.aload_n 0, 1) := by decide +kernel
theorem d_Parser_takeBits_58 : decode c_Parser_takeBits 58 = .ok (.getfield 12, 3) := by decide +kernel
theorem d_Parser_takeBits_61 : decode c_Parser_takeBits 61 = .ok (.getfield 220, 3) := by decide +kernel
theorem d_Parser_takeBits_64 : decode c_Parser_takeBits 64 = .ok (.iconst 1, 1) := by decide +kernel
theorem d_Parser_takeBits_65 : decode c_Parser_takeBits 65 = .ok (.iadd, 1) := by decide +kernel
theorem d_Parser_takeBits_66 : decode c_Parser_takeBits 66 = .ok (.if_icmp .eq 7, 3) := by decide +kernel
theorem d_Parser_takeBits_69 : decode c_Parser_takeBits 69 = .ok (.aload_n 0, 1) := by decide +kernel
theorem d_Parser_takeBits_70 : decode c_Parser_takeBits 70 = .ok (.invokevirtual 150, 3) := by decide +kernel
theorem d_Parser_takeBits_73 : decode c_Parser_takeBits 73 = .ok (.return_, 1) := by decide +kernel
theorem d_Parser_checkSent_0 : decode c_Parser_checkSent 0 = .ok (.iconst 0, 1) := by decide +kernel
theorem d_Parser_checkSent_1 : decode c_Parser_checkSent 1 = .ok (.istore_n 1, 1) := by decide +kernel
theorem d_Parser_checkSent_2 : decode c_Parser_checkSent 2 = .ok (.iload_n 1, 1) := by decide +kernel
theorem d_Parser_checkSent_3 : decode c_Parser_checkSent 3 = .ok (.aload_n 0, 1) := by decide +kernel
theorem d_Parser_checkSent_4 : decode c_Parser_checkSent 4 = .ok (.getfield 12, 3) := by decide +kernel
theorem d_Parser_checkSent_7 : decode c_Parser_checkSent 7 = .ok (.getfield 187, 3) := by decide +kernel
theorem d_Parser_checkSent_10 : decode c_Parser_checkSent 10 = .ok (.if_icmp .ge 165, 3) := by decide +kernel
theorem d_Parser_checkSent_13 : decode c_Parser_checkSent 13 = .ok (.aload_n 0, 1) := by decide +kernel
theorem d_Parser_checkSent_14 : decode c_Parser_checkSent 14 = .ok (.getfield 40, 3) := by decide +kernel
theorem d_Parser_checkSent_17 : decode c_Parser_checkSent 17 = .ok (.ifCond .ne 158, 3) := by decide +kernel
theorem d_Parser_checkSent_20 : decode c_Parser_checkSent 20 = .ok (.aload_n 0, 1) := by decide +kernel
theorem d_Parser_checkSent_21 : decode c_Parser_checkSent 21 = .ok (.getfield 12, 3) := by decide +kernel
theorem d_Parser_checkSent_24 : decode c_Parser_checkSent 24 = .ok (.iload_n 1, 1) := by decide +kernel
theorem d_Parser_checkSent_25 : decode c_Parser_checkSent 25 = .ok (.invokevirtual 223, 3) := by decide +kernel
theorem d_Parser_checkSent_28 : decode c_Parser_checkSent 28 = .ok (.istore_n 2, 1) := by decide +kernel
theorem d_Parser_checkSent_29 : decode c_Parser_checkSent 29 = .ok (.aload_n 0, 1) := by decide +kernel
theorem d_Parser_checkSent_30 : decode c_Parser_checkSent 30 = .ok (.iload_n 2, 1) := by decide +kernel
theorem d_Parser_checkSent_31 : decode c_Parser_checkSent 31 = .ok (.iconst 0, 1) := by decide +kernel
theorem d_Parser_checkSent_32 : decode c_Parser_checkSent 32 = .ok (.invokevirtual 119, 3) := by decide +kernel
theorem d_Parser_checkSent_35 : decode c_Parser_checkSent 35 = .ok (.iconst (-1), 1) := by decide +kernel
theorem d_Parser_checkSent_36 : decode c_Parser_checkSent 36 = .ok (.if_icmp .eq 7, 3) := by decide +kernel
theorem d_Parser_checkSent_39 : decode c_Parser_checkSent 39 = .ok (.iconst 1, 1) := by decide +kernel
theorem d_Parser_checkSent_40 : decode c_Parser_checkSent 40 = .ok (.goto 4, 3) := by decide +kernel
theorem d_Parser_checkSent_43 : decode c_Parser_checkSent 43 = .ok (.iconst 0, 1) := by decide +kernel
theorem d_Parser_checkSent_44 : decode c_Parser_checkSent 44 = .ok (.istore_n 3, 1) := by decide +kernel
theorem d_Parser_checkSent_45 : decode c_Parser_checkSent 45 = .ok (.iload_n 3, 1) := by decide +kernel
theorem d_Parser_checkSent_46 : decode c_Parser_checkSent 46 = .ok (.ifCond .eq 20, 3) := by decide +kernel
theorem d_Parser_checkSent_49 : decode c_Parser_checkSent 49 = .ok (.aload_n 0, 1) := by decide +kernel
theorem d_Parser_checkSent_50 : decode c_Parser_checkSent 50 = .ok (.getfield 50, 3) := by decide +kernel
theorem d_Parser_checkSent_53 : decode c_Parser_checkSent 53 = .ok (.getfield 106, 3) := by decide +kernel
theorem d_Parser_checkSent_56 : decode c_Parser_checkSent 56 = .ok (.sipush 192, 3) := by decide +kernel
theorem d_Parser_checkSent_59 : decode c_Parser_checkSent 59 = .ok (.if_icmp .ne 7, 3) := by decide +kernel
theorem d_Parser_checkSent_62 : decode c_Parser_checkSent 62 = .ok (.iconst 1, 1) := by decide +kernel
theorem d_Parser_checkSent_63 : decode c_Parser_checkSent 63 = .ok (.goto 4, 3) := by decide +kernel
theorem d_Parser_checkSent_66 : decode c_Parser_checkSent 66 = .ok (.iconst 0, 1) := by decide +kernel
theorem d_Parser_checkSent_67 : decode c_Parser_checkSent 67 = .ok (.istore 4, 2) := by decide +kernel
theorem d_Parser_checkSent_69 : decode c_Parser_checkSent 69 = .ok (.iload 4, 2) := by decide +kernel
theorem d_Parser_checkSent_71 : decode c_Parser_checkSent 71 = .ok (.ifCond .ne 17, 3) := by decide +kernel
theorem d_Parser_checkSent_74 : decode c_Parser_checkSent 74 = .ok (.aload_n 0, 1) := by decide +kernel
theorem d_Parser_checkSent_75 : decode c_Parser_checkSent 75 = .ok (.getfield 12, 3) := by decide +kernel
theorem d_Parser_checkSent_78 : decode c_Parser_checkSent 78 = .ok (.getfield 193, 3) := by decide +kernel
theorem d_Parser_checkSent_81 : decode c_Parser_checkSent 81 = .ok (.ifCond .le 22, 3) := by decide +kernel
theorem d_Parser_checkSent_84 : decode c_Parser_checkSent 84 = .ok (.iload_n 3, 1) := by decide +kernel
theorem d_Parser_checkSent_85 : decode c_Parser_checkSent 85 = .ok (.ifCond .ne 18, 3) := by decide +kernel
theorem d_Parser_checkSent_88 : decode c_Parser_checkSent 88 = .ok (.aload_n 0, 1) := by decide +kernel
theorem d_Parser_checkSent_89 : decode c_Parser_checkSent 89 = .ok (.bipush 7, 2) := by decide +kernel
theorem d_Parser_checkSent_91 : decode c_Parser_checkSent 91 = .ok (.aload_n 0, 1) := by decide +kernel
theorem d_Parser_checkSent_92 : decode c_Parser_checkSent 92 = .ok (.getfield 12, 3) := by decide +kernel
theorem d_Parser_checkSent_95 : decode c_Parser_checkSent 95 = .ok (.iload_n 1, 1) := by decide +kernel
theorem d_Parser_checkSent_96 : decode c_Parser_checkSent 96 = .ok (.invokevirtual 226, 3) := by decide +kernel
theorem d_Parser_checkSent_99 : decode c_Parser_checkSent 99 = .ok (.invokevirtual 77, 3) := by decide +kernel
theorem d_Parser_checkSent_102 : decode c_Parser_checkSent 102 = .ok (.pop, 1) := by decide +kernel
theorem d_Parser_checkSent_103 : decode c_Parser_checkSent 103 = .ok (.aload_n 0, 1) := by decide +kernel
theorem d_Parser_checkSent_104 : decode c_Parser_checkSent 104 = .ok (.getfield 12, 3) := by decide +kernel
theorem d_Parser_checkSent_107 : decode c_Parser_checkSent 107 = .ok (.getfield 217, 3) := by decide +kernel
theorem d_Parser_checkSent_110 : decode c_Parser_checkSent 110 = .ok (.ifCond .ne 7, 3) := by decide +kernel
theorem d_Parser_checkSent_113 : decode c_Parser_checkSent 113 = .ok (.iconst (-1), 1) := by decide +kernel
theorem d_Parser_checkSent_114 : decode c_Parser_checkSent 114 = .ok (.goto 10, 3) := by decide +kernel
theorem d_Parser_checkSent_117 : decode c_Parser_checkSent 117 = .ok (.aload_n 0, 1) := by decide +kernel
theorem d_Parser_checkSent_118 : decode c_Parser_checkSent 118 = .ok (.getfield 12, 3) := by decide +kernel
theorem d_Parser_checkSent_121 : decode c_Parser_checkSent 121 = .ok (.getfield 217, 3) := by decide +kernel
theorem d_Parser_checkSent_124 : decode c_Parser_checkSent 124 = .ok (.istore 5, 2) := by decide +kernel
theorem d_Parser_checkSent_126 : decode c_Parser_checkSent 126 = .ok (.aload_n 0, 1) := by decide +kernel
theorem d_Parser_checkSent_127 : decode c_Parser_checkSent 127 = .ok (.getfield 12, 3) := by decide +kernel
theorem d_Parser_checkSent_130 : decode c_Parser_checkSent 130 = .ok (.getfield 193, 3) := by decide +kernel
theorem d_Parser_checkSent_133 : decode c_Parser_checkSent 133 = .ok (.istore 6, 2) := by decide +kernel
theorem d_Parser_checkSent_135 : decode c_Parser_checkSent 135 = .ok (.iload 6, 2) := by decide +kernel
theorem d_Parser_checkSent_137 : decode c_Parser_checkSent 137 = .ok (.aload_n 0, 1) := by decide +kernel
theorem d_Parser_checkSent_138 : decode c_Parser_checkSent 138 = .ok (.getfield 12, 3) := by decide +kernel
theorem d_Parser_checkSent_141 : decode c_Parser_checkSent 141 = .ok (.getfield 196, 3) := by decide +kernel
theorem d_Parser_checkSent_144 : decode c_Parser_checkSent 144 = .ok (.if_icmp .gt 25, 3) := by decide +kernel
theorem d_Parser_checkSent_147 : decode c_Parser_checkSent 147 = .ok (.aload_n 0, 1) := by decide +kernel
theorem d_Parser_checkSent_148 : decode c_Parser_checkSent 148 = .ok (.iload_n 2, 1) := by decide +kernel
theorem d_Parser_checkSent_149 : decode c_Parser_checkSent 149 = .ok (.iload 6, 2) := by decide +kernel
theorem d_Parser_checkSent_151 : decode c_Parser_checkSent 151 = .ok (.invokevirtual 119, 3) := by decide +kernel
theorem d_Parser_checkSent_154 : decode c_Parser_checkSent 154 = .ok (.iload 5, 2) := by decide +kernel
theorem d_Parser_checkSent_156 : decode c_Parser_checkSent 156 = .ok (.if_icmp .eq 7, 3) := by decide +kernel
theorem d_Parser_checkSent_159 : decode c_Parser_checkSent 159 = .ok (.aload_n 0, 1) := by decide +kernel
theorem d_Parser_checkSent_160 : decode c_Parser_checkSent 160 = .ok (.invokevirtual 150, 3) := by decide +kernel
theorem d_Parser_checkSent_163 : decode c_Parser_checkSent 163 = .ok (.iinc 6 1, 3) := by decide +kernel
theorem d_Parser_checkSent_166 : decode c_Parser_checkSent 166 = .ok (.goto (-31), 3) := by decide +kernel
theorem d_Parser_checkSent_169 : decode c_Parser_checkSent 169 = .ok (.iinc 1 1, 3) := by decide +kernel
theorem d_Parser_checkSent_172 : decode c_Parser_checkSent 172 = .ok (.goto (-170), 3) := by decide +kernel
theorem d_Parser_checkSent_175 : decode c_Parser_checkSent 175 = .ok (.return_, 1) := by decide +kernel
theorem d_Scan_placeAt_0 : decode c_Scan_placeAt 0 = .ok (.iload_n 1, 1) := by decide +kernel
theorem d_Scan_placeAt_1 : decode c_Scan_placeAt 1 = .ok (.ifCond .lt 21, 3) := by decide +kernel
theorem d_Scan_placeAt_4 : decode c_Scan_placeAt 4 = .ok (.iload_n 1, 1) := by decide +kernel
theorem d_Scan_placeAt_5 : decode c_Scan_placeAt 5 = .ok (.aload_n 0, 1) := by decide +kernel
theorem d_Scan_placeAt_6 : decode c_Scan_placeAt 6 = .ok (.getfield 9, 3) := by decide +kernel
theorem d_Scan_placeAt_9 : decode c_Scan_placeAt 9 = .ok (.arraylength, 1) := by decide +kernel
theorem d_Scan_placeAt_10 : decode c_Scan_placeAt 10 = .ok (.if_icmp .ge 12, 3) := by decide +kernel
theorem d_Scan_placeAt_13 : decode c_Scan_placeAt 13 = .ok (.aload_n 0, 1) := by decide +kernel
theorem d_Scan_placeAt_14 : decode c_Scan_placeAt 14 = .ok (.getfield 9, 3) := by decide +kernel
theorem d_Scan_placeAt_17 : decode c_Scan_placeAt 17 = .ok (.iload_n 1, 1) := by decide +kernel
theorem d_Scan_placeAt_18 : decode c_Scan_placeAt 18 = .ok (.iaload, 1) := by decide +kernel
theorem d_Scan_placeAt_19 : decode c_Scan_placeAt 19 = .ok (.goto 4, 3) := by decide +kernel
theorem d_Scan_placeAt_22 : decode c_Scan_placeAt 22 = .ok (.iconst (-1), 1) := by decide +kernel
theorem d_Scan_placeAt_23 : decode c_Scan_placeAt 23 = .ok (.ireturn, 1) := by decide +kernel
theorem d_Scan_nameAt_0 : decode c_Scan_nameAt 0 = .ok (.aload_n 0, 1) := by decide +kernel
theorem d_Scan_nameAt_1 : decode c_Scan_nameAt 1 = .ok (.getfield 15, 3) := by decide +kernel
theorem d_Scan_nameAt_4 : decode c_Scan_nameAt 4 = .ok (.iconst 1, 1) := by decide +kernel
theorem d_Scan_nameAt_5 : decode c_Scan_nameAt 5 = .ok (.iadd, 1) := by decide +kernel
theorem d_Scan_nameAt_6 : decode c_Scan_nameAt 6 = .ok (.iconst 2, 1) := by decide +kernel
theorem d_Scan_nameAt_7 : decode c_Scan_nameAt 7 = .ok (.iload_n 1, 1) := by decide +kernel
theorem d_Scan_nameAt_8 : decode c_Scan_nameAt 8 = .ok (.imul, 1) := by decide +kernel
theorem d_Scan_nameAt_9 : decode c_Scan_nameAt 9 = .ok (.iadd, 1) := by decide +kernel
theorem d_Scan_nameAt_10 : decode c_Scan_nameAt 10 = .ok (.ireturn, 1) := by decide +kernel
theorem d_Parser_checkTables_0 : decode c_Parser_checkTables 0 = .ok (.iconst 0, 1) := by decide +kernel
theorem d_Parser_checkTables_1 : decode c_Parser_checkTables 1 = .ok (.istore_n 1, 1) := by decide +kernel
theorem d_Parser_checkTables_2 : decode c_Parser_checkTables 2 = .ok (.iload_n 1, 1) := by decide +kernel
theorem d_Parser_checkTables_3 : decode c_Parser_checkTables 3 = .ok (.aload_n 0, 1) := by decide +kernel
theorem d_Parser_checkTables_4 : decode c_Parser_checkTables 4 = .ok (.getfield 12, 3) := by decide +kernel
theorem d_Parser_checkTables_7 : decode c_Parser_checkTables 7 = .ok (.getfield 187, 3) := by decide +kernel
theorem d_Parser_checkTables_10 : decode c_Parser_checkTables 10 = .ok (.if_icmp .ge 164, 3) := by decide +kernel
theorem d_Parser_checkTables_13 : decode c_Parser_checkTables 13 = .ok (.aload_n 0, 1) := by decide +kernel
theorem d_Parser_checkTables_14 : decode c_Parser_checkTables 14 = .ok (.getfield 40, 3) := by decide +kernel
theorem d_Parser_checkTables_17 : decode c_Parser_checkTables 17 = .ok (.ifCond .ne 157, 3) := by decide +kernel
theorem d_Parser_checkTables_20 : decode c_Parser_checkTables 20 = .ok (.aload_n 0, 1) := by decide +kernel
theorem d_Parser_checkTables_21 : decode c_Parser_checkTables 21 = .ok (.getfield 12, 3) := by decide +kernel
theorem d_Parser_checkTables_24 : decode c_Parser_checkTables 24 = .ok (.iload_n 1, 1) := by decide +kernel
theorem d_Parser_checkTables_25 : decode c_Parser_checkTables 25 = .ok (.invokevirtual 226, 3) := by decide +kernel
theorem d_Parser_checkTables_28 : decode c_Parser_checkTables 28 = .ok (.istore_n 2, 1) := by decide +kernel
theorem d_Parser_checkTables_29 : decode c_Parser_checkTables 29 = .ok (.aload_n 0, 1) := by decide +kernel
theorem d_Parser_checkTables_30 : decode c_Parser_checkTables 30 = .ok (.getfield 46, 3) := by decide +kernel
theorem d_Parser_checkTables_33 : decode c_Parser_checkTables 33 = .ok (.iload_n 2, 1) := by decide +kernel
theorem d_Parser_checkTables_34 : decode c_Parser_checkTables 34 = .ok (.iconst 1, 1) := by decide +kernel
theorem d_Parser_checkTables_35 : decode c_Parser_checkTables 35 = .ok (.iadd, 1) := by decide +kernel
theorem d_Parser_checkTables_36 : decode c_Parser_checkTables 36 = .ok (.invokevirtual 73, 3) := by decide +kernel
theorem d_Parser_checkTables_39 : decode c_Parser_checkTables 39 = .ok (.istore_n 3, 1) := by decide +kernel
theorem d_Parser_checkTables_40 : decode c_Parser_checkTables 40 = .ok (.aload_n 0, 1) := by decide +kernel
theorem d_Parser_checkTables_41 : decode c_Parser_checkTables 41 = .ok (.getfield 50, 3) := by decide +kernel
theorem d_Parser_checkTables_44 : decode c_Parser_checkTables 44 = .ok (.aload_n 0, 1) := by decide +kernel
theorem d_Parser_checkTables_45 : decode c_Parser_checkTables 45 = .ok (.getfield 50, 3) := by decide +kernel
theorem d_Parser_checkTables_48 : decode c_Parser_checkTables 48 = .ok (.aload_n 0, 1) := by decide +kernel
theorem d_Parser_checkTables_49 : decode c_Parser_checkTables 49 = .ok (.getfield 12, 3) := by decide +kernel
theorem d_Parser_checkTables_52 : decode c_Parser_checkTables 52 = .ok (.iload_n 1, 1) := by decide +kernel
theorem d_Parser_checkTables_53 : decode c_Parser_checkTables 53 = .ok (.invokevirtual 223, 3) := by decide +kernel
theorem d_Parser_checkTables_56 : decode c_Parser_checkTables 56 = .ok (.iconst 3, 1) := by decide +kernel
theorem d_Parser_checkTables_57 : decode c_Parser_checkTables 57 = .ok (.invokevirtual 211, 3) := by decide +kernel
theorem d_Parser_checkTables_60 : decode c_Parser_checkTables 60 = .ok (.invokevirtual 229, 3) := by decide +kernel
theorem d_Parser_checkTables_63 : decode c_Parser_checkTables 63 = .ok (.ifCond .ne 11, 3) := by decide +kernel
theorem d_Parser_checkTables_66 : decode c_Parser_checkTables 66 = .ok (.aload_n 0, 1) := by decide +kernel
theorem d_Parser_checkTables_67 : decode c_Parser_checkTables 67 = .ok (.bipush 8, 2) := by decide +kernel
theorem d_Parser_checkTables_69 : decode c_Parser_checkTables 69 = .ok (.iload_n 2, 1) := by decide +kernel
theorem d_Parser_checkTables_70 : decode c_Parser_checkTables 70 = .ok (.invokevirtual 77, 3) := by decide +kernel
theorem d_Parser_checkTables_73 : decode c_Parser_checkTables 73 = .ok (.pop, 1) := by decide +kernel
theorem d_Parser_checkTables_74 : decode c_Parser_checkTables 74 = .ok (.aload_n 0, 1) := by decide +kernel
theorem d_Parser_checkTables_75 : decode c_Parser_checkTables 75 = .ok (.getfield 12, 3) := by decide +kernel
theorem d_Parser_checkTables_78 : decode c_Parser_checkTables 78 = .ok (.getfield 193, 3) := by decide +kernel
theorem d_Parser_checkTables_81 : decode c_Parser_checkTables 81 = .ok (.ifCond .ne 17, 3) := by decide +kernel
theorem d_Parser_checkTables_84 : decode c_Parser_checkTables 84 = .ok (.aload_n 0, 1) := by decide +kernel
theorem d_Parser_checkTables_85 : decode c_Parser_checkTables 85 = .ok (.getfield 12, 3) := by decide +kernel
theorem d_Parser_checkTables_88 : decode c_Parser_checkTables 88 = .ok (.getfield 217, 3) := by decide +kernel
theorem d_Parser_checkTables_91 : decode c_Parser_checkTables 91 = .ok (.ifCond .ne 7, 3) := by decide +kernel
theorem d_Parser_checkTables_94 : decode c_Parser_checkTables 94 = .ok (.iconst 1, 1) := by decide +kernel
theorem d_Parser_checkTables_95 : decode c_Parser_checkTables 95 = .ok (.goto 4, 3) := by decide +kernel
theorem d_Parser_checkTables_98 : decode c_Parser_checkTables 98 = .ok (.iconst 0, 1) := by decide +kernel
theorem d_Parser_checkTables_99 : decode c_Parser_checkTables 99 = .ok (.istore 4, 2) := by decide +kernel
theorem d_Parser_checkTables_101 : decode c_Parser_checkTables 101 = .ok (.iload 4, 2) := by decide +kernel
theorem d_Parser_checkTables_103 : decode c_Parser_checkTables 103 = .ok (.ifCond .eq 27, 3) := by decide +kernel
theorem d_Parser_checkTables_106 : decode c_Parser_checkTables 106 = .ok (.aload_n 0, 1) := by decide +kernel
theorem d_Parser_checkTables_107 : decode c_Parser_checkTables 107 = .ok (.getfield 50, 3) := by decide +kernel
theorem d_Parser_checkTables_110 : decode c_Parser_checkTables 110 = .ok (.iload_n 3, 1) := by decide +kernel
theorem d_Parser_checkTables_111 : decode c_Parser_checkTables 111 = .ok (.iconst 4, 1) := by decide +kernel
theorem d_Parser_checkTables_112 : decode c_Parser_checkTables 112 = .ok (.ishr, 1) := by decide +kernel
theorem d_Parser_checkTables_113 : decode c_Parser_checkTables 113 = .ok (.invokevirtual 232, 3) := by decide +kernel
theorem d_Parser_checkTables_116 : decode c_Parser_checkTables 116 = .ok (.iconst (-1), 1) := by decide +kernel
theorem d_Parser_checkTables_117 : decode c_Parser_checkTables 117 = .ok (.if_icmp .ne 13, 3) := by decide +kernel
theorem d_Parser_checkTables_120 : decode c_Parser_checkTables 120 = .ok (.aload_n 0, 1) := by decide +kernel
theorem d_Parser_checkTables_121 : decode c_Parser_checkTables 121 = .ok (.bipush 8, 2) := by decide +kernel
theorem d_Parser_checkTables_123 : decode c_Parser_checkTables 123 = .ok (.iload_n 2, 1) := by decide +kernel
theorem d_Parser_checkTables_124 : decode c_Parser_checkTables 124 = .ok (.iconst 1, 1) := by decide +kernel
theorem d_Parser_checkTables_125 : decode c_Parser_checkTables 125 = .ok (.iadd, 1) := by decide +kernel
theorem d_Parser_checkTables_126 : decode c_Parser_checkTables 126 = .ok (.invokevirtual 77, 3) := by decide +kernel
theorem d_Parser_checkTables_129 : decode c_Parser_checkTables 129 = .ok (.pop, 1) := by decide +kernel
theorem d_Parser_checkTables_130 : decode c_Parser_checkTables 130 = .ok (.aload_n 0, 1) := by decide +kernel
theorem d_Parser_checkTables_131 : decode c_Parser_checkTables 131 = .ok (.getfield 12, 3) := by decide +kernel
theorem d_Parser_checkTables_134 : decode c_Parser_checkTables 134 = .ok (.getfield 196, 3) := by decide +kernel
theorem d_Parser_checkTables_137 : decode c_Parser_checkTables 137 = .ok (.ifCond .le 31, 3) := by decide +kernel
theorem d_Parser_checkTables_140 : decode c_Parser_checkTables 140 = .ok (.aload_n 0, 1) := by decide +kernel
theorem d_Parser_checkTables_141 : decode c_Parser_checkTables 141 = .ok (.getfield 50, 3) := by decide +kernel
theorem d_Parser_checkTables_144 : decode c_Parser_checkTables 144 = .ok (.bipush 16, 2) := by decide +kernel
theorem d_Parser_checkTables_146 : decode c_Parser_checkTables 146 = .ok (.iload_n 3, 1) := by decide +kernel
theorem d_Parser_checkTables_147 : decode c_Parser_checkTables 147 = .ok (.bipush 15, 2) := by decide +kernel
theorem d_Parser_checkTables_149 : decode c_Parser_checkTables 149 = .ok (.iand, 1) := by decide +kernel
theorem d_Parser_checkTables_150 : decode c_Parser_checkTables 150 = .ok (.iadd, 1) := by decide +kernel
theorem d_Parser_checkTables_151 : decode c_Parser_checkTables 151 = .ok (.invokevirtual 232, 3) := by decide +kernel
theorem d_Parser_checkTables_154 : decode c_Parser_checkTables 154 = .ok (.iconst (-1), 1) := by decide +kernel
theorem d_Parser_checkTables_155 : decode c_Parser_checkTables 155 = .ok (.if_icmp .ne 13, 3) := by decide +kernel
theorem d_Parser_checkTables_158 : decode c_Parser_checkTables 158 = .ok (.aload_n 0, 1) := by decide +kernel
theorem d_Parser_checkTables_159 : decode c_Parser_checkTables 159 = .ok (.bipush 8, 2) := by decide +kernel
theorem d_Parser_checkTables_161 : decode c_Parser_checkTables 161 = .ok (.iload_n 2, 1) := by decide +kernel
theorem d_Parser_checkTables_162 : decode c_Parser_checkTables 162 = .ok (.iconst 1, 1) := by decide +kernel
theorem d_Parser_checkTables_163 : decode c_Parser_checkTables 163 = .ok (.iadd, 1) := by decide +kernel
theorem d_Parser_checkTables_164 : decode c_Parser_checkTables 164 = .ok (.invokevirtual 77, 3) := by decide +kernel
theorem d_Parser_checkTables_167 : decode c_Parser_checkTables 167 = .ok (.pop, 1) := by decide +kernel
theorem d_Parser_checkTables_168 : decode c_Parser_checkTables 168 = .ok (.iinc 1 1, 3) := by decide +kernel
theorem d_Parser_checkTables_171 : decode c_Parser_checkTables 171 = .ok (.goto (-169), 3) := by decide +kernel
theorem d_Parser_checkTables_174 : decode c_Parser_checkTables 174 = .ok (.return_, 1) := by decide +kernel
theorem d_Picture_hasQuantisers_0 : decode c_Picture_hasQuantisers 0 = .ok (.iload_n 1, 1) := by decide +kernel
theorem d_Picture_hasQuantisers_1 : decode c_Picture_hasQuantisers 1 = .ok (.ifCond .lt 26, 3) := by decide +kernel
theorem d_Picture_hasQuantisers_4 : decode c_Picture_hasQuantisers 4 = .ok (.iload_n 1, 1) := by decide +kernel
theorem d_Picture_hasQuantisers_5 : decode c_Picture_hasQuantisers 5 = .ok (.aload_n 0, 1) := by decide +kernel
theorem d_Picture_hasQuantisers_6 : decode c_Picture_hasQuantisers 6 = .ok (.getfield 25, 3) := by decide +kernel
theorem d_Picture_hasQuantisers_9 : decode c_Picture_hasQuantisers 9 = .ok (.arraylength, 1) := by decide +kernel
theorem d_Picture_hasQuantisers_10 : decode c_Picture_hasQuantisers 10 = .ok (.if_icmp .ge 17, 3) := by decide +kernel
theorem d_Picture_hasQuantisers_13 : decode c_Picture_hasQuantisers 13 = .ok (.aload_n 0, 1) := by decide +kernel
theorem d_Picture_hasQuantisers_14 : decode c_Picture_hasQuantisers 14 = .ok (.getfield 25, 3) := by decide +kernel
theorem d_Picture_hasQuantisers_17 : decode c_Picture_hasQuantisers 17 = .ok (.iload_n 1, 1) := by decide +kernel
theorem d_Picture_hasQuantisers_18 : decode c_Picture_hasQuantisers 18 = .ok (.iaload, 1) := by decide +kernel
theorem d_Picture_hasQuantisers_19 : decode c_Picture_hasQuantisers 19 = .ok (.iconst (-1), 1) := by decide +kernel
theorem d_Picture_hasQuantisers_20 : decode c_Picture_hasQuantisers 20 = .ok (.if_icmp .eq 7, 3) := by decide +kernel
theorem d_Picture_hasQuantisers_23 : decode c_Picture_hasQuantisers 23 = .ok (.iconst 1, 1) := by decide +kernel
theorem d_Picture_hasQuantisers_24 : decode c_Picture_hasQuantisers 24 = .ok (.goto 4, 3) := by decide +kernel
theorem d_Picture_hasQuantisers_27 : decode c_Picture_hasQuantisers 27 = .ok (.iconst 0, 1) := by decide +kernel
theorem d_Picture_hasQuantisers_28 : decode c_Picture_hasQuantisers 28 = .ok (.ireturn, 1) := by decide +kernel
theorem d_Picture_placeOfWords_0 : decode c_Picture_placeOfWords 0 = .ok (.aload_n 0, 1) := by decide +kernel
theorem d_Picture_placeOfWords_1 : decode c_Picture_placeOfWords 1 = .ok (.iload_n 1, 1) := by decide +kernel
theorem d_Picture_placeOfWords_2 : decode c_Picture_placeOfWords 2 = .ok (.invokevirtual 113, 3) := by decide +kernel
theorem d_Picture_placeOfWords_5 : decode c_Picture_placeOfWords 5 = .ok (.istore_n 2, 1) := by decide +kernel
theorem d_Picture_placeOfWords_6 : decode c_Picture_placeOfWords 6 = .ok (.iload_n 2, 1) := by decide +kernel
theorem d_Picture_placeOfWords_7 : decode c_Picture_placeOfWords 7 = .ok (.ifCond .lt 21, 3) := by decide +kernel
theorem d_Picture_placeOfWords_10 : decode c_Picture_placeOfWords 10 = .ok (.iload_n 2, 1) := by decide +kernel
theorem d_Picture_placeOfWords_11 : decode c_Picture_placeOfWords 11 = .ok (.aload_n 0, 1) := by decide +kernel
theorem d_Picture_placeOfWords_12 : decode c_Picture_placeOfWords 12 = .ok (.getfield 28, 3) := by decide +kernel
theorem d_Picture_placeOfWords_15 : decode c_Picture_placeOfWords 15 = .ok (.arraylength, 1) := by decide +kernel
theorem d_Picture_placeOfWords_16 : decode c_Picture_placeOfWords 16 = .ok (.if_icmp .ge 12, 3) := by decide +kernel
theorem d_Picture_placeOfWords_19 : decode c_Picture_placeOfWords 19 = .ok (.aload_n 0, 1) := by decide +kernel
theorem d_Picture_placeOfWords_20 : decode c_Picture_placeOfWords 20 = .ok (.getfield 28, 3) := by decide +kernel
theorem d_Picture_placeOfWords_23 : decode c_Picture_placeOfWords 23 = .ok (.iload_n 2, 1) := by decide +kernel
theorem d_Picture_placeOfWords_24 : decode c_Picture_placeOfWords 24 = .ok (.iaload, 1) := by decide +kernel
theorem d_Picture_placeOfWords_25 : decode c_Picture_placeOfWords 25 = .ok (.goto 4, 3) := by decide +kernel
theorem d_Picture_placeOfWords_28 : decode c_Picture_placeOfWords 28 = .ok (.iconst (-1), 1) := by decide +kernel
theorem d_Picture_placeOfWords_29 : decode c_Picture_placeOfWords 29 = .ok (.ireturn, 1) := by decide +kernel
theorem d_Parser_noteSent_0 : decode c_Parser_noteSent 0 = .ok (.iconst 0, 1) := by decide +kernel
theorem d_Parser_noteSent_1 : decode c_Parser_noteSent 1 = .ok (.istore_n 1, 1) := by decide +kernel
theorem d_Parser_noteSent_2 : decode c_Parser_noteSent 2 = .ok (.iload_n 1, 1) := by decide +kernel
theorem d_Parser_noteSent_3 : decode c_Parser_noteSent 3 = .ok (.aload_n 0, 1) := by decide +kernel
theorem d_Parser_noteSent_4 : decode c_Parser_noteSent 4 = .ok (.getfield 12, 3) := by decide +kernel
theorem d_Parser_noteSent_7 : decode c_Parser_noteSent 7 = .ok (.getfield 187, 3) := by decide +kernel
theorem d_Parser_noteSent_10 : decode c_Parser_noteSent 10 = .ok (.if_icmp .ge 87, 3) := by decide +kernel
theorem d_Parser_noteSent_13 : decode c_Parser_noteSent 13 = .ok (.aload_n 0, 1) := by decide +kernel
theorem d_Parser_noteSent_14 : decode c_Parser_noteSent 14 = .ok (.getfield 40, 3) := by decide +kernel
theorem d_Parser_noteSent_17 : decode c_Parser_noteSent 17 = .ok (.ifCond .ne 80, 3) := by decide +kernel
theorem d_Parser_noteSent_20 : decode c_Parser_noteSent 20 = .ok (.aload_n 0, 1) := by decide +kernel
theorem d_Parser_noteSent_21 : decode c_Parser_noteSent 21 = .ok (.getfield 12, 3) := by decide +kernel
theorem d_Parser_noteSent_24 : decode c_Parser_noteSent 24 = .ok (.iload_n 1, 1) := by decide +kernel
theorem d_Parser_noteSent_25 : decode c_Parser_noteSent 25 = .ok (.invokevirtual 223, 3) := by decide +kernel
theorem d_Parser_noteSent_28 : decode c_Parser_noteSent 28 = .ok (.bipush 64, 2) := by decide +kernel
theorem d_Parser_noteSent_30 : decode c_Parser_noteSent 30 = .ok (.imul, 1) := by decide +kernel
theorem d_Parser_noteSent_31 : decode c_Parser_noteSent 31 = .ok (.istore_n 2, 1) := by decide +kernel
theorem d_Parser_noteSent_32 : decode c_Parser_noteSent 32 = .ok (.aload_n 0, 1) := by decide +kernel
theorem d_Parser_noteSent_33 : decode c_Parser_noteSent 33 = .ok (.getfield 12, 3) := by decide +kernel
theorem d_Parser_noteSent_36 : decode c_Parser_noteSent 36 = .ok (.getfield 193, 3) := by decide +kernel
theorem d_Parser_noteSent_39 : decode c_Parser_noteSent 39 = .ok (.istore_n 3, 1) := by decide +kernel
theorem d_Parser_noteSent_40 : decode c_Parser_noteSent 40 = .ok (.iload_n 3, 1) := by decide +kernel
theorem d_Parser_noteSent_41 : decode c_Parser_noteSent 41 = .ok (.aload_n 0, 1) := by decide +kernel
theorem d_Parser_noteSent_42 : decode c_Parser_noteSent 42 = .ok (.getfield 12, 3) := by decide +kernel
theorem d_Parser_noteSent_45 : decode c_Parser_noteSent 45 = .ok (.getfield 196, 3) := by decide +kernel
theorem d_Parser_noteSent_48 : decode c_Parser_noteSent 48 = .ok (.if_icmp .gt 43, 3) := by decide +kernel
theorem d_Parser_noteSent_51 : decode c_Parser_noteSent 51 = .ok (.iload_n 2, 1) := by decide +kernel
theorem d_Parser_noteSent_52 : decode c_Parser_noteSent 52 = .ok (.iload_n 3, 1) := by decide +kernel
theorem d_Parser_noteSent_53 : decode c_Parser_noteSent 53 = .ok (.iadd, 1) := by decide +kernel
theorem d_Parser_noteSent_54 : decode c_Parser_noteSent 54 = .ok (.istore 4, 2) := by decide +kernel
theorem d_Parser_noteSent_56 : decode c_Parser_noteSent 56 = .ok (.iload 4, 2) := by decide +kernel
theorem d_Parser_noteSent_58 : decode c_Parser_noteSent 58 = .ok (.ifCond .lt 27, 3) := by decide +kernel
theorem d_Parser_noteSent_61 : decode c_Parser_noteSent 61 = .ok (.iload 4, 2) := by decide +kernel
theorem d_Parser_noteSent_63 : decode c_Parser_noteSent 63 = .ok (.aload_n 0, 1) := by decide +kernel
theorem d_Parser_noteSent_64 : decode c_Parser_noteSent 64 = .ok (.getfield 18, 3) := by decide +kernel
theorem d_Parser_noteSent_67 : decode c_Parser_noteSent 67 = .ok (.arraylength, 1) := by decide +kernel
theorem d_Parser_noteSent_68 : decode c_Parser_noteSent 68 = .ok (.if_icmp .ge 17, 3) := by decide +kernel
theorem d_Parser_noteSent_71 : decode c_Parser_noteSent 71 = .ok (.aload_n 0, 1) := by decide +kernel
theorem d_Parser_noteSent_72 : decode c_Parser_noteSent 72 = .ok (.getfield 18, 3) := by decide +kernel
theorem d_Parser_noteSent_75 : decode c_Parser_noteSent 75 = .ok (.iload 4, 2) := by decide +kernel
theorem d_Parser_noteSent_77 : decode c_Parser_noteSent 77 = .ok (.aload_n 0, 1) := by decide +kernel
theorem d_Parser_noteSent_78 : decode c_Parser_noteSent 78 = .ok (.getfield 12, 3) := by decide +kernel
theorem d_Parser_noteSent_81 : decode c_Parser_noteSent 81 = .ok (.getfield 220, 3) := by decide +kernel
theorem d_Parser_noteSent_84 : decode c_Parser_noteSent 84 = .ok (.iastore, 1) := by decide +kernel
theorem d_Parser_noteSent_85 : decode c_Parser_noteSent 85 = .ok (.iinc 3 1, 3) := by decide +kernel
theorem d_Parser_noteSent_88 : decode c_Parser_noteSent 88 = .ok (.goto (-48), 3) := by decide +kernel
theorem d_Parser_noteSent_91 : decode c_Parser_noteSent 91 = .ok (.iinc 1 1, 3) := by decide +kernel
theorem d_Parser_noteSent_94 : decode c_Parser_noteSent 94 = .ok (.goto (-92), 3) := by decide +kernel
theorem d_Parser_noteSent_97 : decode c_Parser_noteSent 97 = .ok (.return_, 1) := by decide +kernel
theorem d_Parser_skipContents_0 : decode c_Parser_skipContents 0 = .ok (.aload_n 0, 1) := by decide +kernel
theorem d_Parser_skipContents_1 : decode c_Parser_skipContents 1 = .ok (.getfield 33, 3) := by decide +kernel
theorem d_Parser_skipContents_4 : decode c_Parser_skipContents 4 = .ok (.aload_n 0, 1) := by decide +kernel
theorem d_Parser_skipContents_5 : decode c_Parser_skipContents 5 = .ok (.getfield 46, 3) := by decide +kernel
theorem d_Parser_skipContents_8 : decode c_Parser_skipContents 8 = .ok (.getfield 68, 3) := by decide +kernel
theorem d_Parser_skipContents_11 : decode c_Parser_skipContents 11 = .ok (.if_icmp .le 16, 3) := by decide +kernel
theorem d_Parser_skipContents_14 : decode c_Parser_skipContents 14 = .ok (.aload_n 0, 1) := by decide +kernel
theorem d_Parser_skipContents_15 : decode c_Parser_skipContents 15 = .ok (.iconst 1, 1) := by decide +kernel
theorem d_Parser_skipContents_16 : decode c_Parser_skipContents 16 = .ok (.aload_n 0, 1) := by decide +kernel
theorem d_Parser_skipContents_17 : decode c_Parser_skipContents 17 = .ok (.getfield 46, 3) := by decide +kernel
theorem d_Parser_skipContents_20 : decode c_Parser_skipContents 20 = .ok (.getfield 68, 3) := by decide +kernel
theorem d_Parser_skipContents_23 : decode c_Parser_skipContents 23 = .ok (.invokevirtual 77, 3) := by decide +kernel
theorem d_Parser_skipContents_26 : decode c_Parser_skipContents 26 = .ok (.pop, 1) := by decide +kernel
theorem d_Parser_skipContents_27 : decode c_Parser_skipContents 27 = .ok (.aload_n 0, 1) := by decide +kernel
theorem d_Parser_skipContents_28 : decode c_Parser_skipContents 28 = .ok (.aload_n 0, 1) := by decide +kernel
theorem d_Parser_skipContents_29 : decode c_Parser_skipContents 29 = .ok (.getfield 33, 3) := by decide +kernel
theorem d_Parser_skipContents_32 : decode c_Parser_skipContents 32 = .ok (.putfield 26, 3) := by decide +kernel
theorem d_Parser_skipContents_35 : decode c_Parser_skipContents 35 = .ok (.return_, 1) := by decide +kernel
theorem d_Parser_readData_0 : decode c_Parser_readData 0 = .ok (.aload_n 0, 1) := by decide +kernel
theorem d_Parser_readData_1 : decode c_Parser_readData 1 = .ok (.getfield 26, 3) := by decide +kernel
theorem d_Parser_readData_4 : decode c_Parser_readData 4 = .ok (.istore_n 1, 1) := by decide +kernel
theorem d_Parser_readData_5 : decode c_Parser_readData 5 = .ok (.iconst 0, 1) := by decide +kernel
theorem d_Parser_readData_6 : decode c_Parser_readData 6 = .ok (.istore_n 2, 1) := by decide +kernel
theorem d_Parser_readData_7 : decode c_Parser_readData 7 = .ok (.aload_n 0, 1) := by decide +kernel
theorem d_Parser_readData_8 : decode c_Parser_readData 8 = .ok (.getfield 40, 3) := by decide +kernel
theorem d_Parser_readData_11 : decode c_Parser_readData 11 = .ok (.ifCond .ne 128, 3) := by decide +kernel
theorem d_Parser_readData_14 : decode c_Parser_readData 14 = .ok (.aload_n 0, 1) := by decide +kernel
theorem d_Parser_readData_15 : decode c_Parser_readData 15 = .ok (.getfield 26, 3) := by decide +kernel
theorem d_Parser_readData_18 : decode c_Parser_readData 18 = .ok (.aload_n 0, 1) := by decide +kernel
theorem d_Parser_readData_19 : decode c_Parser_readData 19 = .ok (.getfield 46, 3) := by decide +kernel
theorem d_Parser_readData_22 : decode c_Parser_readData 22 = .ok (.getfield 68, 3) := by decide +kernel
theorem d_Parser_readData_25 : decode c_Parser_readData 25 = .ok (.if_icmp .ge 114, 3) := by decide +kernel
theorem d_Parser_readData_28 : decode c_Parser_readData 28 = .ok (.aload_n 0, 1) := by decide +kernel
theorem d_Parser_readData_29 : decode c_Parser_readData 29 = .ok (.getfield 46, 3) := by decide +kernel
theorem d_Parser_readData_32 : decode c_Parser_readData 32 = .ok (.aload_n 0, 1) := by decide +kernel
theorem d_Parser_readData_33 : decode c_Parser_readData 33 = .ok (.getfield 26, 3) := by decide +kernel
theorem d_Parser_readData_36 : decode c_Parser_readData 36 = .ok (.invokevirtual 73, 3) := by decide +kernel
theorem d_Parser_readData_39 : decode c_Parser_readData 39 = .ok (.sipush 255, 3) := by decide +kernel
theorem d_Parser_readData_42 : decode c_Parser_readData 42 = .ok (.if_icmp .eq 16, 3) := by decide +kernel
theorem d_Parser_readData_45 : decode c_Parser_readData 45 = .ok (.aload_n 0, 1) := by decide +kernel
theorem d_Parser_readData_46 : decode c_Parser_readData 46 = .ok (.dup, 1) := by decide +kernel
theorem d_Parser_readData_47 : decode c_Parser_readData 47 = .ok (.getfield 26, 3) := by decide +kernel
theorem d_Parser_readData_50 : decode c_Parser_readData 50 = .ok (.iconst 1, 1) := by decide +kernel
theorem d_Parser_readData_51 : decode c_Parser_readData 51 = .ok (.iadd, 1) := by decide +kernel
theorem d_Parser_readData_52 : decode c_Parser_readData 52 = .ok (.putfield 26, 3) := by decide +kernel
theorem d_Parser_readData_55 : decode c_Parser_readData 55 = .ok (.goto (-48), 3) := by decide +kernel
theorem d_Parser_readData_58 : decode c_Parser_readData 58 = .ok (.aload_n 0, 1) := by decide +kernel
theorem d_Parser_readData_59 : decode c_Parser_readData 59 = .ok (.getfield 46, 3) := by decide +kernel
theorem d_Parser_readData_62 : decode c_Parser_readData 62 = .ok (.aload_n 0, 1) := by decide +kernel
theorem d_Parser_readData_63 : decode c_Parser_readData 63 = .ok (.getfield 26, 3) := by decide +kernel
theorem d_Parser_readData_66 : decode c_Parser_readData 66 = .ok (.iconst 1, 1) := by decide +kernel
theorem d_Parser_readData_67 : decode c_Parser_readData 67 = .ok (.iadd, 1) := by decide +kernel
theorem d_Parser_readData_68 : decode c_Parser_readData 68 = .ok (.invokevirtual 73, 3) := by decide +kernel
theorem d_Parser_readData_71 : decode c_Parser_readData 71 = .ok (.istore_n 3, 1) := by decide +kernel
theorem d_Parser_readData_72 : decode c_Parser_readData 72 = .ok (.aload_n 0, 1) := by decide +kernel
theorem d_Parser_readData_73 : decode c_Parser_readData 73 = .ok (.getfield 50, 3) := by decide +kernel
theorem d_Parser_readData_76 : decode c_Parser_readData 76 = .ok (.getfield 132, 3) := by decide +kernel
theorem d_Parser_readData_79 : decode c_Parser_readData 79 = .ok (.ifCond .le 19, 3) := by decide +kernel
theorem d_Parser_readData_82 : decode c_Parser_readData 82 = .ok (.iload_n 3, 1) := by decide +kernel
theorem d_Parser_readData_83 : decode c_Parser_readData 83 = .ok (.sipush 208, 3) := by decide +kernel
theorem d_Parser_readData_86 : decode c_Parser_readData 86 = .ok (.iload_n 2, 1) := by decide +kernel
theorem d_Parser_readData_87 : decode c_Parser_readData 87 = .ok (.bipush 8, 2) := by decide +kernel
theorem d_Parser_readData_89 : decode c_Parser_readData 89 = .ok (.irem, 1) := by decide +kernel
theorem d_Parser_readData_90 : decode c_Parser_readData 90 = .ok (.iadd, 1) := by decide +kernel
theorem d_Parser_readData_91 : decode c_Parser_readData 91 = .ok (.if_icmp .ne 7, 3) := by decide +kernel
theorem d_Parser_readData_94 : decode c_Parser_readData 94 = .ok (.iconst 1, 1) := by decide +kernel
theorem d_Parser_readData_95 : decode c_Parser_readData 95 = .ok (.goto 4, 3) := by decide +kernel
theorem d_Parser_readData_98 : decode c_Parser_readData 98 = .ok (.iconst 0, 1) := by decide +kernel
theorem d_Parser_readData_99 : decode c_Parser_readData 99 = .ok (.istore 4, 2) := by decide +kernel
theorem d_Parser_readData_101 : decode c_Parser_readData 101 = .ok (.iload 4, 2) := by decide +kernel
theorem d_Parser_readData_103 : decode c_Parser_readData 103 = .ok (.ifCond .eq 6, 3) := by decide +kernel
theorem d_Parser_readData_106 : decode c_Parser_readData 106 = .ok (.iinc 2 1, 3) := by decide +kernel
theorem d_Parser_readData_109 : decode c_Parser_readData 109 = .ok (.iload_n 3, 1) := by decide +kernel
theorem d_Parser_readData_110 : decode c_Parser_readData 110 = .ok (.ifCond .eq 16, 3) := by decide +kernel
theorem d_Parser_readData_113 : decode c_Parser_readData 113 = .ok (.iload 4, 2) := by decide +kernel
theorem d_Parser_readData_115 : decode c_Parser_readData 115 = .ok (.ifCond .ne 11, 3) := by decide +kernel
theorem d_Parser_readData_118 : decode c_Parser_readData 118 = .ok (.aload_n 0, 1) := by decide +kernel
theorem d_Parser_readData_119 : decode c_Parser_readData 119 = .ok (.iload_n 1, 1) := by decide +kernel
theorem d_Parser_readData_120 : decode c_Parser_readData 120 = .ok (.iload_n 2, 1) := by decide +kernel
theorem d_Parser_readData_121 : decode c_Parser_readData 121 = .ok (.iload_n 3, 1) := by decide +kernel
theorem d_Parser_readData_122 : decode c_Parser_readData 122 = .ok (.invokevirtual 235, 3) := by decide +kernel
theorem d_Parser_readData_125 : decode c_Parser_readData 125 = .ok (.return_, 1) := by decide +kernel
theorem d_Parser_readData_126 : decode c_Parser_readData 126 = .ok (.aload_n 0, 1) := by decide +kernel
theorem d_Parser_readData_127 : decode c_Parser_readData 127 = .ok (.dup, 1) := by decide +kernel
theorem d_Parser_readData_128 : decode c_Parser_readData 128 = .ok (.getfield 26, 3) := by decide +kernel
theorem d_Parser_readData_131 : decode c_Parser_readData 131 = .ok (.iconst 2, 1) := by decide +kernel
theorem d_Parser_readData_132 : decode c_Parser_readData 132 = .ok (.iadd, 1) := by decide +kernel
theorem d_Parser_readData_133 : decode c_Parser_readData 133 = .ok (.putfield 26, 3) := by decide +kernel
theorem d_Parser_readData_136 : decode c_Parser_readData 136 = .ok (.goto (-129), 3) := by decide +kernel
theorem d_Parser_readData_139 : decode c_Parser_readData 139 = .ok (.aload_n 0, 1) := by decide +kernel
theorem d_Parser_readData_140 : decode c_Parser_readData 140 = .ok (.iconst 1, 1) := by decide +kernel
theorem d_Parser_readData_141 : decode c_Parser_readData 141 = .ok (.aload_n 0, 1) := by decide +kernel
theorem d_Parser_readData_142 : decode c_Parser_readData 142 = .ok (.getfield 46, 3) := by decide +kernel
theorem d_Parser_readData_145 : decode c_Parser_readData 145 = .ok (.getfield 68, 3) := by decide +kernel
theorem d_Parser_readData_148 : decode c_Parser_readData 148 = .ok (.invokevirtual 77, 3) := by decide +kernel
theorem d_Parser_readData_151 : decode c_Parser_readData 151 = .ok (.pop, 1) := by decide +kernel
theorem d_Parser_readData_152 : decode c_Parser_readData 152 = .ok (.return_, 1) := by decide +kernel
theorem d_Parser_endData_0 : decode c_Parser_endData 0 = .ok (.iload_n 3, 1) := by decide +kernel
theorem d_Parser_endData_1 : decode c_Parser_endData 1 = .ok (.iconst (-1), 1) := by decide +kernel
theorem d_Parser_endData_2 : decode c_Parser_endData 2 = .ok (.if_icmp .ne 16, 3) := by decide +kernel
theorem d_Parser_endData_5 : decode c_Parser_endData 5 = .ok (.aload_n 0, 1) := by decide +kernel
theorem d_Parser_endData_6 : decode c_Parser_endData 6 = .ok (.iconst 1, 1) := by decide +kernel
theorem d_Parser_endData_7 : decode c_Parser_endData 7 = .ok (.aload_n 0, 1) := by decide +kernel
theorem d_Parser_endData_8 : decode c_Parser_endData 8 = .ok (.getfield 46, 3) := by decide +kernel
theorem d_Parser_endData_11 : decode c_Parser_endData 11 = .ok (.getfield 68, 3) := by decide +kernel
theorem d_Parser_endData_14 : decode c_Parser_endData 14 = .ok (.invokevirtual 77, 3) := by decide +kernel
theorem d_Parser_endData_17 : decode c_Parser_endData 17 = .ok (.pop, 1) := by decide +kernel
theorem d_Parser_endData_18 : decode c_Parser_endData 18 = .ok (.aload_n 0, 1) := by decide +kernel
theorem d_Parser_endData_19 : decode c_Parser_endData 19 = .ok (.aload_n 0, 1) := by decide +kernel
theorem d_Parser_endData_20 : decode c_Parser_endData 20 = .ok (.getfield 50, 3) := by decide +kernel
theorem d_Parser_endData_23 : decode c_Parser_endData 23 = .ok (.invokevirtual 239, 3) := by decide +kernel
theorem d_Parser_endData_26 : decode c_Parser_endData 26 = .ok (.ifCond .ne 17, 3) := by decide +kernel
theorem d_Parser_endData_29 : decode c_Parser_endData 29 = .ok (.aload_n 0, 1) := by decide +kernel
theorem d_Parser_endData_30 : decode c_Parser_endData 30 = .ok (.getfield 50, 3) := by decide +kernel
theorem d_Parser_endData_33 : decode c_Parser_endData 33 = .ok (.getfield 141, 3) := by decide +kernel
theorem d_Parser_endData_36 : decode c_Parser_endData 36 = .ok (.ifCond .ne 7, 3) := by decide +kernel
theorem d_Parser_endData_39 : decode c_Parser_endData 39 = .ok (.iconst 1, 1) := by decide +kernel
theorem d_Parser_endData_40 : decode c_Parser_endData 40 = .ok (.goto 4, 3) := by decide +kernel
theorem d_Parser_endData_43 : decode c_Parser_endData 43 = .ok (.iconst 0, 1) := by decide +kernel
theorem d_Parser_endData_44 : decode c_Parser_endData 44 = .ok (.putfield 36, 3) := by decide +kernel
theorem d_Parser_endData_47 : decode c_Parser_endData 47 = .ok (.aload_n 0, 1) := by decide +kernel
theorem d_Parser_endData_48 : decode c_Parser_endData 48 = .ok (.getfield 50, 3) := by decide +kernel
theorem d_Parser_endData_51 : decode c_Parser_endData 51 = .ok (.aload_n 0, 1) := by decide +kernel
theorem d_Parser_endData_52 : decode c_Parser_endData 52 = .ok (.getfield 12, 3) := by decide +kernel
theorem d_Parser_endData_55 : decode c_Parser_endData 55 = .ok (.getfield 184, 3) := by decide +kernel
theorem d_Parser_endData_58 : decode c_Parser_endData 58 = .ok (.iload_n 1, 1) := by decide +kernel
theorem d_Parser_endData_59 : decode c_Parser_endData 59 = .ok (.aload_n 0, 1) := by decide +kernel
theorem d_Parser_endData_60 : decode c_Parser_endData 60 = .ok (.getfield 26, 3) := by decide +kernel
theorem d_Parser_endData_63 : decode c_Parser_endData 63 = .ok (.iload_n 1, 1) := by decide +kernel
theorem d_Parser_endData_64 : decode c_Parser_endData 64 = .ok (.isub, 1) := by decide +kernel
theorem d_Parser_endData_65 : decode c_Parser_endData 65 = .ok (.iload_n 2, 1) := by decide +kernel
theorem d_Parser_endData_66 : decode c_Parser_endData 66 = .ok (.invokevirtual 242, 3) := by decide +kernel
theorem d_Parser_endData_69 : decode c_Parser_endData 69 = .ok (.return_, 1) := by decide +kernel
theorem d_Picture_scanCount_0 : decode c_Picture_scanCount 0 = .ok (.aload_n 0, 1) := by decide +kernel
theorem d_Picture_scanCount_1 : decode c_Picture_scanCount 1 = .ok (.getfield 18, 3) := by decide +kernel
theorem d_Picture_scanCount_4 : decode c_Picture_scanCount 4 = .ok (.getfield 38, 3) := by decide +kernel
theorem d_Picture_scanCount_7 : decode c_Picture_scanCount 7 = .ok (.iconst 5, 1) := by decide +kernel
theorem d_Picture_scanCount_8 : decode c_Picture_scanCount 8 = .ok (.idiv, 1) := by decide +kernel
theorem d_Picture_scanCount_9 : decode c_Picture_scanCount 9 = .ok (.ireturn, 1) := by decide +kernel
theorem d_Picture_addScan_0 : decode c_Picture_addScan 0 = .ok (.aload_n 0, 1) := by decide +kernel
theorem d_Picture_addScan_1 : decode c_Picture_addScan 1 = .ok (.getfield 18, 3) := by decide +kernel
theorem d_Picture_addScan_4 : decode c_Picture_addScan 4 = .ok (.iload_n 1, 1) := by decide +kernel
theorem d_Picture_addScan_5 : decode c_Picture_addScan 5 = .ok (.invokevirtual 66, 3) := by decide +kernel
theorem d_Picture_addScan_8 : decode c_Picture_addScan 8 = .ok (.aload_n 0, 1) := by decide +kernel
theorem d_Picture_addScan_9 : decode c_Picture_addScan 9 = .ok (.getfield 18, 3) := by decide +kernel
theorem d_Picture_addScan_12 : decode c_Picture_addScan 12 = .ok (.iload_n 2, 1) := by decide +kernel
theorem d_Picture_addScan_13 : decode c_Picture_addScan 13 = .ok (.invokevirtual 66, 3) := by decide +kernel
theorem d_Picture_addScan_16 : decode c_Picture_addScan 16 = .ok (.aload_n 0, 1) := by decide +kernel
theorem d_Picture_addScan_17 : decode c_Picture_addScan 17 = .ok (.getfield 18, 3) := by decide +kernel
theorem d_Picture_addScan_20 : decode c_Picture_addScan 20 = .ok (.iload_n 3, 1) := by decide +kernel
theorem d_Picture_addScan_21 : decode c_Picture_addScan 21 = .ok (.invokevirtual 66, 3) := by decide +kernel
theorem d_Picture_addScan_24 : decode c_Picture_addScan 24 = .ok (.aload_n 0, 1) := by decide +kernel
theorem d_Picture_addScan_25 : decode c_Picture_addScan 25 = .ok (.getfield 18, 3) := by decide +kernel
theorem d_Picture_addScan_28 : decode c_Picture_addScan 28 = .ok (.iload 4, 2) := by decide +kernel
theorem d_Picture_addScan_30 : decode c_Picture_addScan 30 = .ok (.invokevirtual 66, 3) := by decide +kernel
theorem d_Picture_addScan_33 : decode c_Picture_addScan 33 = .ok (.aload_n 0, 1) := by decide +kernel
theorem d_Picture_addScan_34 : decode c_Picture_addScan 34 = .ok (.getfield 18, 3) := by decide +kernel
theorem d_Picture_addScan_37 : decode c_Picture_addScan 37 = .ok (.aload_n 0, 1) := by decide +kernel
theorem d_Picture_addScan_38 : decode c_Picture_addScan 38 = .ok (.getfield 60, 3) := by decide +kernel
theorem d_Picture_addScan_41 : decode c_Picture_addScan 41 = .ok (.invokevirtual 66, 3) := by decide +kernel
theorem d_Picture_addScan_44 : decode c_Picture_addScan 44 = .ok (.return_, 1) := by decide +kernel
theorem d_Parser_finish_0 : decode c_Parser_finish 0 = .ok (.aload_n 0, 1) := by decide +kernel
theorem d_Parser_finish_1 : decode c_Parser_finish 1 = .ok (.getfield 40, 3) := by decide +kernel
theorem d_Parser_finish_4 : decode c_Parser_finish 4 = .ok (.ifCond .eq 10, 3) := by decide +kernel
theorem d_Parser_finish_7 : decode c_Parser_finish 7 = .ok (.aload_n 0, 1) := by decide +kernel
theorem d_Parser_finish_8 : decode c_Parser_finish 8 = .ok (.getfield 50, 3) := by decide +kernel
theorem d_Parser_finish_11 : decode c_Parser_finish 11 = .ok (.invokevirtual 54, 3) := by decide +kernel
theorem d_Parser_finish_14 : decode c_Parser_finish 14 = .ok (.aload_n 0, 1) := by decide +kernel
theorem d_Parser_finish_15 : decode c_Parser_finish 15 = .ok (.getfield 40, 3) := by decide +kernel
theorem d_Parser_finish_18 : decode c_Parser_finish 18 = .ok (.ireturn, 1) := by decide +kernel
theorem d_Reader_segment_0 : decode c_Reader_segment 0 = .ok (.aload_n 0, 1) := by decide +kernel
theorem d_Reader_segment_1 : decode c_Reader_segment 1 = .ok (.getfield 21, 3) := by decide +kernel
theorem d_Reader_segment_4 : decode c_Reader_segment 4 = .ok (.iload_n 1, 1) := by decide +kernel
theorem d_Reader_segment_5 : decode c_Reader_segment 5 = .ok (.iload_n 2, 1) := by decide +kernel
theorem d_Reader_segment_6 : decode c_Reader_segment 6 = .ok (.invokevirtual 59, 3) := by decide +kernel
theorem d_Reader_segment_9 : decode c_Reader_segment 9 = .ok (.ireturn, 1) := by decide +kernel
theorem d_Picture_ofSegment_0 : decode c_Picture_ofSegment 0 = .ok (.iload_n 1, 1) := by decide +kernel
theorem d_Picture_ofSegment_1 : decode c_Picture_ofSegment 1 = .ok (.ifCond .lt 11, 3) := by decide +kernel
theorem d_Picture_ofSegment_4 : decode c_Picture_ofSegment 4 = .ok (.iload_n 1, 1) := by decide +kernel
theorem d_Picture_ofSegment_5 : decode c_Picture_ofSegment 5 = .ok (.aload_n 0, 1) := by decide +kernel
theorem d_Picture_ofSegment_6 : decode c_Picture_ofSegment 6 = .ok (.invokevirtual 70, 3) := by decide +kernel
theorem d_Picture_ofSegment_9 : decode c_Picture_ofSegment 9 = .ok (.if_icmp .lt 5, 3) := by decide +kernel
theorem d_Picture_ofSegment_12 : decode c_Picture_ofSegment 12 = .ok (.iconst (-1), 1) := by decide +kernel
theorem d_Picture_ofSegment_13 : decode c_Picture_ofSegment 13 = .ok (.ireturn, 1) := by decide +kernel
theorem d_Picture_ofSegment_14 : decode c_Picture_ofSegment 14 = .ok (.aload_n 0, 1) := by decide +kernel
theorem d_Picture_ofSegment_15 : decode c_Picture_ofSegment 15 = .ok (.getfield 12, 3) := by decide +kernel
theorem d_Picture_ofSegment_18 : decode c_Picture_ofSegment 18 = .ok (.iload_n 1, 1) := by decide +kernel
theorem d_Picture_ofSegment_19 : decode c_Picture_ofSegment 19 = .ok (.iconst 2, 1) := by decide +kernel
theorem d_Picture_ofSegment_20 : decode c_Picture_ofSegment 20 = .ok (.imul, 1) := by decide +kernel
theorem d_Picture_ofSegment_21 : decode c_Picture_ofSegment 21 = .ok (.iconst 1, 1) := by decide +kernel
theorem d_Picture_ofSegment_22 : decode c_Picture_ofSegment 22 = .ok (.iadd, 1) := by decide +kernel
theorem d_Picture_ofSegment_23 : decode c_Picture_ofSegment 23 = .ok (.invokevirtual 74, 3) := by decide +kernel
theorem d_Picture_ofSegment_26 : decode c_Picture_ofSegment 26 = .ok (.istore_n 3, 1) := by decide +kernel
theorem d_Picture_ofSegment_27 : decode c_Picture_ofSegment 27 = .ok (.iload_n 2, 1) := by decide +kernel
theorem d_Picture_ofSegment_28 : decode c_Picture_ofSegment 28 = .ok (.tableswitch 84 0 3 #[32, 43, 54, 56], 32) := by decide +kernel
theorem d_Picture_ofSegment_60 : decode c_Picture_ofSegment 60 = .ok (.aload_n 0, 1) := by decide +kernel
theorem d_Picture_ofSegment_61 : decode c_Picture_ofSegment 61 = .ok (.getfield 31, 3) := by decide +kernel
theorem d_Picture_ofSegment_64 : decode c_Picture_ofSegment 64 = .ok (.iload_n 3, 1) := by decide +kernel
theorem d_Picture_ofSegment_65 : decode c_Picture_ofSegment 65 = .ok (.iconst 3, 1) := by decide +kernel
theorem d_Picture_ofSegment_66 : decode c_Picture_ofSegment 66 = .ok (.isub, 1) := by decide +kernel
theorem d_Picture_ofSegment_67 : decode c_Picture_ofSegment 67 = .ok (.invokevirtual 78, 3) := by decide +kernel
theorem d_Picture_ofSegment_70 : decode c_Picture_ofSegment 70 = .ok (.ireturn, 1) := by decide +kernel
theorem d_Picture_ofSegment_71 : decode c_Picture_ofSegment 71 = .ok (.aload_n 0, 1) := by decide +kernel
theorem d_Picture_ofSegment_72 : decode c_Picture_ofSegment 72 = .ok (.getfield 12, 3) := by decide +kernel
theorem d_Picture_ofSegment_75 : decode c_Picture_ofSegment 75 = .ok (.iload_n 1, 1) := by decide +kernel
theorem d_Picture_ofSegment_76 : decode c_Picture_ofSegment 76 = .ok (.iconst 2, 1) := by decide +kernel
theorem d_Picture_ofSegment_77 : decode c_Picture_ofSegment 77 = .ok (.imul, 1) := by decide +kernel
theorem d_Picture_ofSegment_78 : decode c_Picture_ofSegment 78 = .ok (.invokevirtual 74, 3) := by decide +kernel
theorem d_Picture_ofSegment_81 : decode c_Picture_ofSegment 81 = .ok (.ireturn, 1) := by decide +kernel
theorem d_Picture_ofSegment_82 : decode c_Picture_ofSegment 82 = .ok (.iload_n 3, 1) := by decide +kernel
theorem d_Picture_ofSegment_83 : decode c_Picture_ofSegment 83 = .ok (.ireturn, 1) := by decide +kernel
theorem d_Picture_ofSegment_84 : decode c_Picture_ofSegment 84 = .ok (.sipush 256, 3) := by decide +kernel
theorem d_Picture_ofSegment_87 : decode c_Picture_ofSegment 87 = .ok (.aload_n 0, 1) := by decide +kernel
theorem d_Picture_ofSegment_88 : decode c_Picture_ofSegment 88 = .ok (.getfield 31, 3) := by decide +kernel
theorem d_Picture_ofSegment_91 : decode c_Picture_ofSegment 91 = .ok (.iload_n 3, 1) := by decide +kernel
theorem d_Picture_ofSegment_92 : decode c_Picture_ofSegment 92 = .ok (.iconst 2, 1) := by decide +kernel
theorem d_Picture_ofSegment_93 : decode c_Picture_ofSegment 93 = .ok (.isub, 1) := by decide +kernel
theorem d_Picture_ofSegment_94 : decode c_Picture_ofSegment 94 = .ok (.invokevirtual 78, 3) := by decide +kernel
theorem d_Picture_ofSegment_97 : decode c_Picture_ofSegment 97 = .ok (.imul, 1) := by decide +kernel
theorem d_Picture_ofSegment_98 : decode c_Picture_ofSegment 98 = .ok (.aload_n 0, 1) := by decide +kernel
theorem d_Picture_ofSegment_99 : decode c_Picture_ofSegment 99 = .ok (.getfield 31, 3) := by decide +kernel
theorem d_Picture_ofSegment_102 : decode c_Picture_ofSegment 102 = .ok (.iload_n 3, 1) := by decide +kernel
theorem d_Picture_ofSegment_103 : decode c_Picture_ofSegment 103 = .ok (.iconst 1, 1) := by decide +kernel
theorem d_Picture_ofSegment_104 : decode c_Picture_ofSegment 104 = .ok (.isub, 1) := by decide +kernel
theorem d_Picture_ofSegment_105 : decode c_Picture_ofSegment 105 = .ok (.invokevirtual 78, 3) := by decide +kernel
theorem d_Picture_ofSegment_108 : decode c_Picture_ofSegment 108 = .ok (.iadd, 1) := by decide +kernel
theorem d_Picture_ofSegment_109 : decode c_Picture_ofSegment 109 = .ok (.iconst 2, 1) := by decide +kernel
theorem d_Picture_ofSegment_110 : decode c_Picture_ofSegment 110 = .ok (.isub, 1) := by decide +kernel
theorem d_Picture_ofSegment_111 : decode c_Picture_ofSegment 111 = .ok (.ireturn, 1) := by decide +kernel
theorem d_Picture_ofSegment_112 : decode c_Picture_ofSegment 112 = .ok (.iconst (-1), 1) := by decide +kernel
theorem d_Picture_ofSegment_113 : decode c_Picture_ofSegment 113 = .ok (.ireturn, 1) := by decide +kernel
theorem d_Picture_segmentCount_0 : decode c_Picture_segmentCount 0 = .ok (.aload_n 0, 1) := by decide +kernel
theorem d_Picture_segmentCount_1 : decode c_Picture_segmentCount 1 = .ok (.getfield 12, 3) := by decide +kernel
theorem d_Picture_segmentCount_4 : decode c_Picture_segmentCount 4 = .ok (.getfield 38, 3) := by decide +kernel
theorem d_Picture_segmentCount_7 : decode c_Picture_segmentCount 7 = .ok (.iconst 2, 1) := by decide +kernel
theorem d_Picture_segmentCount_8 : decode c_Picture_segmentCount 8 = .ok (.idiv, 1) := by decide +kernel
theorem d_Picture_segmentCount_9 : decode c_Picture_segmentCount 9 = .ok (.ireturn, 1) := by decide +kernel
theorem d_Numbers_at_0 : decode c_Numbers_at 0 = .ok (.iload_n 1, 1) := by decide +kernel
theorem d_Numbers_at_1 : decode c_Numbers_at 1 = .ok (.ifCond .lt 20, 3) := by decide +kernel
theorem d_Numbers_at_4 : decode c_Numbers_at 4 = .ok (.iload_n 1, 1) := by decide +kernel
theorem d_Numbers_at_5 : decode c_Numbers_at 5 = .ok (.aload_n 0, 1) := by decide +kernel
theorem d_Numbers_at_6 : decode c_Numbers_at 6 = .ok (.getfield 15, 3) := by decide +kernel
theorem d_Numbers_at_9 : decode c_Numbers_at 9 = .ok (.if_icmp .ge 12, 3) := by decide +kernel
theorem d_Numbers_at_12 : decode c_Numbers_at 12 = .ok (.aload_n 0, 1) := by decide +kernel
theorem d_Numbers_at_13 : decode c_Numbers_at 13 = .ok (.getfield 9, 3) := by decide +kernel
theorem d_Numbers_at_16 : decode c_Numbers_at 16 = .ok (.iload_n 1, 1) := by decide +kernel
theorem d_Numbers_at_17 : decode c_Numbers_at 17 = .ok (.iaload, 1) := by decide +kernel
theorem d_Numbers_at_18 : decode c_Numbers_at 18 = .ok (.goto 4, 3) := by decide +kernel
theorem d_Numbers_at_21 : decode c_Numbers_at 21 = .ok (.iconst (-1), 1) := by decide +kernel
theorem d_Numbers_at_22 : decode c_Numbers_at 22 = .ok (.ireturn, 1) := by decide +kernel
theorem d_Reader_frame_0 : decode c_Reader_frame 0 = .ok (.aload_n 0, 1) := by decide +kernel
theorem d_Reader_frame_1 : decode c_Reader_frame 1 = .ok (.getfield 21, 3) := by decide +kernel
theorem d_Reader_frame_4 : decode c_Reader_frame 4 = .ok (.iload_n 1, 1) := by decide +kernel
theorem d_Reader_frame_5 : decode c_Reader_frame 5 = .ok (.invokevirtual 63, 3) := by decide +kernel
theorem d_Reader_frame_8 : decode c_Reader_frame 8 = .ok (.ireturn, 1) := by decide +kernel
theorem d_Picture_ofFrame_0 : decode c_Picture_ofFrame 0 = .ok (.aload_n 0, 1) := by decide +kernel
theorem d_Picture_ofFrame_1 : decode c_Picture_ofFrame 1 = .ok (.getfield 48, 3) := by decide +kernel
theorem d_Picture_ofFrame_4 : decode c_Picture_ofFrame 4 = .ok (.iconst (-1), 1) := by decide +kernel
theorem d_Picture_ofFrame_5 : decode c_Picture_ofFrame 5 = .ok (.if_icmp .ne 5, 3) := by decide +kernel
theorem d_Picture_ofFrame_8 : decode c_Picture_ofFrame 8 = .ok (.iconst (-1), 1) := by decide +kernel
theorem d_Picture_ofFrame_9 : decode c_Picture_ofFrame 9 = .ok (.ireturn, 1) := by decide +kernel
theorem d_Picture_ofFrame_10 : decode c_Picture_ofFrame 10 = .ok (.iload_n 1, 1) := by decide +kernel
theorem d_Picture_ofFrame_11 : decode c_Picture_ofFrame 11 = .ok (.tableswitch 69 0 5 #[37, 42, 47, 52, 57, 63], 37) := by decide +kernel
theorem d_Picture_ofFrame_48 : decode c_Picture_ofFrame 48 = .ok (.aload_n 0, 1) := by decide +kernel
theorem d_Picture_ofFrame_49 : decode c_Picture_ofFrame 49 = .ok (.getfield 48, 3) := by decide +kernel
theorem d_Picture_ofFrame_52 : decode c_Picture_ofFrame 52 = .ok (.ireturn, 1) := by decide +kernel
theorem d_Picture_ofFrame_53 : decode c_Picture_ofFrame 53 = .ok (.aload_n 0, 1) := by decide +kernel
theorem d_Picture_ofFrame_54 : decode c_Picture_ofFrame 54 = .ok (.getfield 51, 3) := by decide +kernel
theorem d_Picture_ofFrame_57 : decode c_Picture_ofFrame 57 = .ok (.ireturn, 1) := by decide +kernel
theorem d_Picture_ofFrame_58 : decode c_Picture_ofFrame 58 = .ok (.aload_n 0, 1) := by decide +kernel
theorem d_Picture_ofFrame_59 : decode c_Picture_ofFrame 59 = .ok (.getfield 54, 3) := by decide +kernel
theorem d_Picture_ofFrame_62 : decode c_Picture_ofFrame 62 = .ok (.ireturn, 1) := by decide +kernel
theorem d_Picture_ofFrame_63 : decode c_Picture_ofFrame 63 = .ok (.aload_n 0, 1) := by decide +kernel
theorem d_Picture_ofFrame_64 : decode c_Picture_ofFrame 64 = .ok (.getfield 57, 3) := by decide +kernel
theorem d_Picture_ofFrame_67 : decode c_Picture_ofFrame 67 = .ok (.ireturn, 1) := by decide +kernel
theorem d_Picture_ofFrame_68 : decode c_Picture_ofFrame 68 = .ok (.aload_n 0, 1) := by decide +kernel
theorem d_Picture_ofFrame_69 : decode c_Picture_ofFrame 69 = .ok (.iconst 1, 1) := by decide +kernel
theorem d_Picture_ofFrame_70 : decode c_Picture_ofFrame 70 = .ok (.invokevirtual 81, 3) := by decide +kernel
theorem d_Picture_ofFrame_73 : decode c_Picture_ofFrame 73 = .ok (.ireturn, 1) := by decide +kernel
theorem d_Picture_ofFrame_74 : decode c_Picture_ofFrame 74 = .ok (.aload_n 0, 1) := by decide +kernel
theorem d_Picture_ofFrame_75 : decode c_Picture_ofFrame 75 = .ok (.iconst 2, 1) := by decide +kernel
theorem d_Picture_ofFrame_76 : decode c_Picture_ofFrame 76 = .ok (.invokevirtual 81, 3) := by decide +kernel
theorem d_Picture_ofFrame_79 : decode c_Picture_ofFrame 79 = .ok (.ireturn, 1) := by decide +kernel
theorem d_Picture_ofFrame_80 : decode c_Picture_ofFrame 80 = .ok (.iconst (-1), 1) := by decide +kernel
theorem d_Picture_ofFrame_81 : decode c_Picture_ofFrame 81 = .ok (.ireturn, 1) := by decide +kernel
theorem d_Picture_greatest_0 : decode c_Picture_greatest 0 = .ok (.iconst 0, 1) := by decide +kernel
theorem d_Picture_greatest_1 : decode c_Picture_greatest 1 = .ok (.istore_n 2, 1) := by decide +kernel
theorem d_Picture_greatest_2 : decode c_Picture_greatest 2 = .ok (.iconst 0, 1) := by decide +kernel
theorem d_Picture_greatest_3 : decode c_Picture_greatest 3 = .ok (.istore_n 3, 1) := by decide +kernel
theorem d_Picture_greatest_4 : decode c_Picture_greatest 4 = .ok (.iload_n 3, 1) := by decide +kernel
theorem d_Picture_greatest_5 : decode c_Picture_greatest 5 = .ok (.aload_n 0, 1) := by decide +kernel
theorem d_Picture_greatest_6 : decode c_Picture_greatest 6 = .ok (.getfield 57, 3) := by decide +kernel
theorem d_Picture_greatest_9 : decode c_Picture_greatest 9 = .ok (.if_icmp .ge 20, 3) := by decide +kernel
theorem d_Picture_greatest_12 : decode c_Picture_greatest 12 = .ok (.iload_n 2, 1) := by decide +kernel
theorem d_Picture_greatest_13 : decode c_Picture_greatest 13 = .ok (.aload_n 0, 1) := by decide +kernel
theorem d_Picture_greatest_14 : decode c_Picture_greatest 14 = .ok (.iload_n 3, 1) := by decide +kernel
theorem d_Picture_greatest_15 : decode c_Picture_greatest 15 = .ok (.iload_n 1, 1) := by decide +kernel
theorem d_Picture_greatest_16 : decode c_Picture_greatest 16 = .ok (.invokevirtual 84, 3) := by decide +kernel
theorem d_Picture_greatest_19 : decode c_Picture_greatest 19 = .ok (.invokestatic 88, 3) := by decide +kernel
theorem d_Picture_greatest_22 : decode c_Picture_greatest 22 = .ok (.istore_n 2, 1) := by decide +kernel
theorem d_Picture_greatest_23 : decode c_Picture_greatest 23 = .ok (.iinc 3 1, 3) := by decide +kernel
theorem d_Picture_greatest_26 : decode c_Picture_greatest 26 = .ok (.goto (-22), 3) := by decide +kernel
theorem d_Picture_greatest_29 : decode c_Picture_greatest 29 = .ok (.iload_n 2, 1) := by decide +kernel
theorem d_Picture_greatest_30 : decode c_Picture_greatest 30 = .ok (.ireturn, 1) := by decide +kernel
theorem d_Math_max_0 : decode c_Math_max 0 = .ok (.iload_n 0, 1) := by decide +kernel
theorem d_Math_max_1 : decode c_Math_max 1 = .ok (.iload_n 1, 1) := by decide +kernel
theorem d_Math_max_2 : decode c_Math_max 2 = .ok (.if_icmp .lt 7, 3) := by decide +kernel
theorem d_Math_max_5 : decode c_Math_max 5 = .ok (.iload_n 0, 1) := by decide +kernel
theorem d_Math_max_6 : decode c_Math_max 6 = .ok (.goto 4, 3) := by decide +kernel
theorem d_Math_max_9 : decode c_Math_max 9 = .ok (.iload_n 1, 1) := by decide +kernel
theorem d_Math_max_10 : decode c_Math_max 10 = .ok (.ireturn, 1) := by decide +kernel
theorem d_Reader_component_0 : decode c_Reader_component 0 = .ok (.aload_n 0, 1) := by decide +kernel
theorem d_Reader_component_1 : decode c_Reader_component 1 = .ok (.getfield 21, 3) := by decide +kernel
theorem d_Reader_component_4 : decode c_Reader_component 4 = .ok (.iload_n 1, 1) := by decide +kernel
theorem d_Reader_component_5 : decode c_Reader_component 5 = .ok (.iload_n 2, 1) := by decide +kernel
theorem d_Reader_component_6 : decode c_Reader_component 6 = .ok (.invokevirtual 67, 3) := by decide +kernel
theorem d_Reader_component_9 : decode c_Reader_component 9 = .ok (.ireturn, 1) := by decide +kernel
theorem d_Reader_scan_0 : decode c_Reader_scan 0 = .ok (.aload_n 0, 1) := by decide +kernel
theorem d_Reader_scan_1 : decode c_Reader_scan 1 = .ok (.getfield 21, 3) := by decide +kernel
theorem d_Reader_scan_4 : decode c_Reader_scan 4 = .ok (.iload_n 1, 1) := by decide +kernel
theorem d_Reader_scan_5 : decode c_Reader_scan 5 = .ok (.iload_n 2, 1) := by decide +kernel
theorem d_Reader_scan_6 : decode c_Reader_scan 6 = .ok (.invokevirtual 70, 3) := by decide +kernel
theorem d_Reader_scan_9 : decode c_Reader_scan 9 = .ok (.ireturn, 1) := by decide +kernel
theorem d_Picture_ofScan_0 : decode c_Picture_ofScan 0 = .ok (.iload_n 1, 1) := by decide +kernel
theorem d_Picture_ofScan_1 : decode c_Picture_ofScan 1 = .ok (.ifCond .lt 11, 3) := by decide +kernel
theorem d_Picture_ofScan_4 : decode c_Picture_ofScan 4 = .ok (.iload_n 1, 1) := by decide +kernel
theorem d_Picture_ofScan_5 : decode c_Picture_ofScan 5 = .ok (.aload_n 0, 1) := by decide +kernel
theorem d_Picture_ofScan_6 : decode c_Picture_ofScan 6 = .ok (.invokevirtual 93, 3) := by decide +kernel
theorem d_Picture_ofScan_9 : decode c_Picture_ofScan 9 = .ok (.if_icmp .lt 5, 3) := by decide +kernel
theorem d_Picture_ofScan_12 : decode c_Picture_ofScan 12 = .ok (.iconst (-1), 1) := by decide +kernel
theorem d_Picture_ofScan_13 : decode c_Picture_ofScan 13 = .ok (.ireturn, 1) := by decide +kernel
theorem d_Picture_ofScan_14 : decode c_Picture_ofScan 14 = .ok (.iload_n 1, 1) := by decide +kernel
theorem d_Picture_ofScan_15 : decode c_Picture_ofScan 15 = .ok (.iconst 5, 1) := by decide +kernel
theorem d_Picture_ofScan_16 : decode c_Picture_ofScan 16 = .ok (.imul, 1) := by decide +kernel
theorem d_Picture_ofScan_17 : decode c_Picture_ofScan 17 = .ok (.istore_n 3, 1) := by decide +kernel
theorem d_Picture_ofScan_18 : decode c_Picture_ofScan 18 = .ok (.aload_n 0, 1) := by decide +kernel
theorem d_Picture_ofScan_19 : decode c_Picture_ofScan 19 = .ok (.getfield 18, 3) := by decide +kernel
theorem d_Picture_ofScan_22 : decode c_Picture_ofScan 22 = .ok (.iload_n 3, 1) := by decide +kernel
theorem d_Picture_ofScan_23 : decode c_Picture_ofScan 23 = .ok (.invokevirtual 74, 3) := by decide +kernel
theorem d_Picture_ofScan_26 : decode c_Picture_ofScan 26 = .ok (.istore 4, 2) := by decide +kernel
theorem d_Picture_ofScan_28 : decode c_Picture_ofScan 28 = .ok (.aload_n 0, 1) := by decide +kernel
theorem d_Picture_ofScan_29 : decode c_Picture_ofScan 29 = .ok (.getfield 31, 3) := by decide +kernel
theorem d_Picture_ofScan_32 : decode c_Picture_ofScan 32 = .ok (.iload 4, 2) := by decide +kernel
theorem d_Picture_ofScan_34 : decode c_Picture_ofScan 34 = .ok (.invokevirtual 78, 3) := by decide +kernel
theorem d_Picture_ofScan_37 : decode c_Picture_ofScan 37 = .ok (.istore 5, 2) := by decide +kernel
theorem d_Picture_ofScan_39 : decode c_Picture_ofScan 39 = .ok (.iload 4, 2) := by decide +kernel
theorem d_Picture_ofScan_41 : decode c_Picture_ofScan 41 = .ok (.iconst 1, 1) := by decide +kernel
theorem d_Picture_ofScan_42 : decode c_Picture_ofScan 42 = .ok (.iadd, 1) := by decide +kernel
theorem d_Picture_ofScan_43 : decode c_Picture_ofScan 43 = .ok (.iconst 2, 1) := by decide +kernel
theorem d_Picture_ofScan_44 : decode c_Picture_ofScan 44 = .ok (.iload 5, 2) := by decide +kernel
theorem d_Picture_ofScan_46 : decode c_Picture_ofScan 46 = .ok (.imul, 1) := by decide +kernel
theorem d_Picture_ofScan_47 : decode c_Picture_ofScan 47 = .ok (.iadd, 1) := by decide +kernel
theorem d_Picture_ofScan_48 : decode c_Picture_ofScan 48 = .ok (.istore 6, 2) := by decide +kernel
theorem d_Picture_ofScan_50 : decode c_Picture_ofScan 50 = .ok (.iload_n 2, 1) := by decide +kernel
theorem d_Picture_ofScan_51 : decode c_Picture_ofScan 51 = .ok (.tableswitch 147 0 8 #[49, 52, 62, 74, 88, 103, 114, 125, 136], 49) := by decide +kernel
theorem d_Picture_ofScan_100 : decode c_Picture_ofScan 100 = .ok (.iload 5, 2) := by decide +kernel
theorem d_Picture_ofScan_102 : decode c_Picture_ofScan 102 = .ok (.ireturn, 1) := by decide +kernel
end
section
theorem d_Picture_ofScan_103 : decode c_Picture_ofScan 103 = .ok (.aload_n 0, 1) := by decide +kernel
theorem d_Picture_ofScan_104 : decode c_Picture_ofScan 104 = .ok (.getfield 31, 3) := by decide +kernel
theorem d_Picture_ofScan_107 : decode c_Picture_ofScan 107 = .ok (.iload 6, 2) := by decide +kernel
theorem d_Picture_ofScan_109 : decode c_Picture_ofScan 109 = .ok (.invokevirtual 78, 3) := by decide +kernel
theorem d_Picture_ofScan_112 : decode c_Picture_ofScan 112 = .ok (.ireturn, 1) := by decide +kernel
theorem d_Picture_ofScan_113 : decode c_Picture_ofScan 113 = .ok (.aload_n 0, 1) := by decide +kernel
theorem d_Picture_ofScan_114 : decode c_Picture_ofScan 114 = .ok (.getfield 31, 3) := by decide +kernel
theorem d_Picture_ofScan_117 : decode c_Picture_ofScan 117 = .ok (.iload 6, 2) := by decide +kernel
theorem d_Picture_ofScan_119 : decode c_Picture_ofScan 119 = .ok (.iconst 1, 1) := by decide +kernel
theorem d_Picture_ofScan_120 : decode c_Picture_ofScan 120 = .ok (.iadd, 1) := by decide +kernel
theorem d_Picture_ofScan_121 : decode c_Picture_ofScan 121 = .ok (.invokevirtual 78, 3) := by decide +kernel
theorem d_Picture_ofScan_124 : decode c_Picture_ofScan 124 = .ok (.ireturn, 1) := by decide +kernel
theorem d_Picture_ofScan_125 : decode c_Picture_ofScan 125 = .ok (.aload_n 0, 1) := by decide +kernel
theorem d_Picture_ofScan_126 : decode c_Picture_ofScan 126 = .ok (.getfield 31, 3) := by decide +kernel
theorem d_Picture_ofScan_129 : decode c_Picture_ofScan 129 = .ok (.iload 6, 2) := by decide +kernel
theorem d_Picture_ofScan_131 : decode c_Picture_ofScan 131 = .ok (.iconst 2, 1) := by decide +kernel
theorem d_Picture_ofScan_132 : decode c_Picture_ofScan 132 = .ok (.iadd, 1) := by decide +kernel
theorem d_Picture_ofScan_133 : decode c_Picture_ofScan 133 = .ok (.invokevirtual 78, 3) := by decide +kernel
theorem d_Picture_ofScan_136 : decode c_Picture_ofScan 136 = .ok (.iconst 4, 1) := by decide +kernel
theorem d_Picture_ofScan_137 : decode c_Picture_ofScan 137 = .ok (.ishr, 1) := by decide +kernel
theorem d_Picture_ofScan_138 : decode c_Picture_ofScan 138 = .ok (.ireturn, 1) := by decide +kernel
theorem d_Picture_ofScan_139 : decode c_Picture_ofScan 139 = .ok (.aload_n 0, 1) := by decide +kernel
theorem d_Picture_ofScan_140 : decode c_Picture_ofScan 140 = .ok (.getfield 31, 3) := by decide +kernel
theorem d_Picture_ofScan_143 : decode c_Picture_ofScan 143 = .ok (.iload 6, 2) := by decide +kernel
theorem d_Picture_ofScan_145 : decode c_Picture_ofScan 145 = .ok (.iconst 2, 1) := by decide +kernel
theorem d_Picture_ofScan_146 : decode c_Picture_ofScan 146 = .ok (.iadd, 1) := by decide +kernel
theorem d_Picture_ofScan_147 : decode c_Picture_ofScan 147 = .ok (.invokevirtual 78, 3) := by decide +kernel
theorem d_Picture_ofScan_150 : decode c_Picture_ofScan 150 = .ok (.bipush 15, 2) := by decide +kernel
theorem d_Picture_ofScan_152 : decode c_Picture_ofScan 152 = .ok (.iand, 1) := by decide +kernel
theorem d_Picture_ofScan_153 : decode c_Picture_ofScan 153 = .ok (.ireturn, 1) := by decide +kernel
theorem d_Picture_ofScan_154 : decode c_Picture_ofScan 154 = .ok (.aload_n 0, 1) := by decide +kernel
theorem d_Picture_ofScan_155 : decode c_Picture_ofScan 155 = .ok (.getfield 18, 3) := by decide +kernel
theorem d_Picture_ofScan_158 : decode c_Picture_ofScan 158 = .ok (.iload_n 3, 1) := by decide +kernel
theorem d_Picture_ofScan_159 : decode c_Picture_ofScan 159 = .ok (.iconst 1, 1) := by decide +kernel
theorem d_Picture_ofScan_160 : decode c_Picture_ofScan 160 = .ok (.iadd, 1) := by decide +kernel
theorem d_Picture_ofScan_161 : decode c_Picture_ofScan 161 = .ok (.invokevirtual 74, 3) := by decide +kernel
theorem d_Picture_ofScan_164 : decode c_Picture_ofScan 164 = .ok (.ireturn, 1) := by decide +kernel
theorem d_Picture_ofScan_165 : decode c_Picture_ofScan 165 = .ok (.aload_n 0, 1) := by decide +kernel
theorem d_Picture_ofScan_166 : decode c_Picture_ofScan 166 = .ok (.getfield 18, 3) := by decide +kernel
theorem d_Picture_ofScan_169 : decode c_Picture_ofScan 169 = .ok (.iload_n 3, 1) := by decide +kernel
theorem d_Picture_ofScan_170 : decode c_Picture_ofScan 170 = .ok (.iconst 2, 1) := by decide +kernel
theorem d_Picture_ofScan_171 : decode c_Picture_ofScan 171 = .ok (.iadd, 1) := by decide +kernel
theorem d_Picture_ofScan_172 : decode c_Picture_ofScan 172 = .ok (.invokevirtual 74, 3) := by decide +kernel
theorem d_Picture_ofScan_175 : decode c_Picture_ofScan 175 = .ok (.ireturn, 1) := by decide +kernel
theorem d_Picture_ofScan_176 : decode c_Picture_ofScan 176 = .ok (.aload_n 0, 1) := by decide +kernel
theorem d_Picture_ofScan_177 : decode c_Picture_ofScan 177 = .ok (.getfield 18, 3) := by decide +kernel
theorem d_Picture_ofScan_180 : decode c_Picture_ofScan 180 = .ok (.iload_n 3, 1) := by decide +kernel
theorem d_Picture_ofScan_181 : decode c_Picture_ofScan 181 = .ok (.iconst 3, 1) := by decide +kernel
theorem d_Picture_ofScan_182 : decode c_Picture_ofScan 182 = .ok (.iadd, 1) := by decide +kernel
theorem d_Picture_ofScan_183 : decode c_Picture_ofScan 183 = .ok (.invokevirtual 74, 3) := by decide +kernel
theorem d_Picture_ofScan_186 : decode c_Picture_ofScan 186 = .ok (.ireturn, 1) := by decide +kernel
theorem d_Picture_ofScan_187 : decode c_Picture_ofScan 187 = .ok (.aload_n 0, 1) := by decide +kernel
theorem d_Picture_ofScan_188 : decode c_Picture_ofScan 188 = .ok (.getfield 18, 3) := by decide +kernel
theorem d_Picture_ofScan_191 : decode c_Picture_ofScan 191 = .ok (.iload_n 3, 1) := by decide +kernel
theorem d_Picture_ofScan_192 : decode c_Picture_ofScan 192 = .ok (.iconst 4, 1) := by decide +kernel
theorem d_Picture_ofScan_193 : decode c_Picture_ofScan 193 = .ok (.iadd, 1) := by decide +kernel
theorem d_Picture_ofScan_194 : decode c_Picture_ofScan 194 = .ok (.invokevirtual 74, 3) := by decide +kernel
theorem d_Picture_ofScan_197 : decode c_Picture_ofScan 197 = .ok (.ireturn, 1) := by decide +kernel
theorem d_Picture_ofScan_198 : decode c_Picture_ofScan 198 = .ok (.iload_n 2, 1) := by decide +kernel
theorem d_Picture_ofScan_199 : decode c_Picture_ofScan 199 = .ok (.bipush 16, 2) := by decide +kernel
theorem d_Picture_ofScan_201 : decode c_Picture_ofScan 201 = .ok (.if_icmp .ge 7, 3) := by decide +kernel
theorem d_Picture_ofScan_204 : decode c_Picture_ofScan 204 = .ok (.iconst (-1), 1) := by decide +kernel
theorem d_Picture_ofScan_205 : decode c_Picture_ofScan 205 = .ok (.goto 15, 3) := by decide +kernel
theorem d_Picture_ofScan_208 : decode c_Picture_ofScan 208 = .ok (.aload_n 0, 1) := by decide +kernel
theorem d_Picture_ofScan_209 : decode c_Picture_ofScan 209 = .ok (.iload 4, 2) := by decide +kernel
theorem d_Picture_ofScan_211 : decode c_Picture_ofScan 211 = .ok (.iload 5, 2) := by decide +kernel
theorem d_Picture_ofScan_213 : decode c_Picture_ofScan 213 = .ok (.iload_n 2, 1) := by decide +kernel
theorem d_Picture_ofScan_214 : decode c_Picture_ofScan 214 = .ok (.bipush 16, 2) := by decide +kernel
theorem d_Picture_ofScan_216 : decode c_Picture_ofScan 216 = .ok (.isub, 1) := by decide +kernel
theorem d_Picture_ofScan_217 : decode c_Picture_ofScan 217 = .ok (.invokevirtual 96, 3) := by decide +kernel
theorem d_Picture_ofScan_220 : decode c_Picture_ofScan 220 = .ok (.ireturn, 1) := by decide +kernel
theorem d_Picture_ofScanComponent_0 : decode c_Picture_ofScanComponent 0 = .ok (.iload_n 3, 1) := by decide +kernel
theorem d_Picture_ofScanComponent_1 : decode c_Picture_ofScanComponent 1 = .ok (.iconst 4, 1) := by decide +kernel
theorem d_Picture_ofScanComponent_2 : decode c_Picture_ofScanComponent 2 = .ok (.idiv, 1) := by decide +kernel
theorem d_Picture_ofScanComponent_3 : decode c_Picture_ofScanComponent 3 = .ok (.istore 4, 2) := by decide +kernel
theorem d_Picture_ofScanComponent_5 : decode c_Picture_ofScanComponent 5 = .ok (.iload 4, 2) := by decide +kernel
theorem d_Picture_ofScanComponent_7 : decode c_Picture_ofScanComponent 7 = .ok (.iload_n 2, 1) := by decide +kernel
theorem d_Picture_ofScanComponent_8 : decode c_Picture_ofScanComponent 8 = .ok (.if_icmp .lt 5, 3) := by decide +kernel
theorem d_Picture_ofScanComponent_11 : decode c_Picture_ofScanComponent 11 = .ok (.iconst (-1), 1) := by decide +kernel
theorem d_Picture_ofScanComponent_12 : decode c_Picture_ofScanComponent 12 = .ok (.ireturn, 1) := by decide +kernel
theorem d_Picture_ofScanComponent_13 : decode c_Picture_ofScanComponent 13 = .ok (.iload_n 1, 1) := by decide +kernel
theorem d_Picture_ofScanComponent_14 : decode c_Picture_ofScanComponent 14 = .ok (.iconst 1, 1) := by decide +kernel
theorem d_Picture_ofScanComponent_15 : decode c_Picture_ofScanComponent 15 = .ok (.iadd, 1) := by decide +kernel
theorem d_Picture_ofScanComponent_16 : decode c_Picture_ofScanComponent 16 = .ok (.iconst 2, 1) := by decide +kernel
theorem d_Picture_ofScanComponent_17 : decode c_Picture_ofScanComponent 17 = .ok (.iload 4, 2) := by decide +kernel
theorem d_Picture_ofScanComponent_19 : decode c_Picture_ofScanComponent 19 = .ok (.imul, 1) := by decide +kernel
theorem d_Picture_ofScanComponent_20 : decode c_Picture_ofScanComponent 20 = .ok (.iadd, 1) := by decide +kernel
theorem d_Picture_ofScanComponent_21 : decode c_Picture_ofScanComponent 21 = .ok (.istore 5, 2) := by decide +kernel
theorem d_Picture_ofScanComponent_23 : decode c_Picture_ofScanComponent 23 = .ok (.iload_n 3, 1) := by decide +kernel
theorem d_Picture_ofScanComponent_24 : decode c_Picture_ofScanComponent 24 = .ok (.iconst 4, 1) := by decide +kernel
theorem d_Picture_ofScanComponent_25 : decode c_Picture_ofScanComponent 25 = .ok (.irem, 1) := by decide +kernel
theorem d_Picture_ofScanComponent_26 : decode c_Picture_ofScanComponent 26 = .ok (.tableswitch 69 0 2 #[26, 40, 54], 26) := by decide +kernel
theorem d_Picture_ofScanComponent_52 : decode c_Picture_ofScanComponent 52 = .ok (.aload_n 0, 1) := by decide +kernel
theorem d_Picture_ofScanComponent_53 : decode c_Picture_ofScanComponent 53 = .ok (.aload_n 0, 1) := by decide +kernel
theorem d_Picture_ofScanComponent_54 : decode c_Picture_ofScanComponent 54 = .ok (.getfield 31, 3) := by decide +kernel
theorem d_Picture_ofScanComponent_57 : decode c_Picture_ofScanComponent 57 = .ok (.iload 5, 2) := by decide +kernel
theorem d_Picture_ofScanComponent_59 : decode c_Picture_ofScanComponent 59 = .ok (.invokevirtual 78, 3) := by decide +kernel
theorem d_Picture_ofScanComponent_62 : decode c_Picture_ofScanComponent 62 = .ok (.invokevirtual 100, 3) := by decide +kernel
theorem d_Picture_ofScanComponent_65 : decode c_Picture_ofScanComponent 65 = .ok (.ireturn, 1) := by decide +kernel
theorem d_Picture_ofScanComponent_66 : decode c_Picture_ofScanComponent 66 = .ok (.aload_n 0, 1) := by decide +kernel
theorem d_Picture_ofScanComponent_67 : decode c_Picture_ofScanComponent 67 = .ok (.getfield 31, 3) := by decide +kernel
theorem d_Picture_ofScanComponent_70 : decode c_Picture_ofScanComponent 70 = .ok (.iload 5, 2) := by decide +kernel
theorem d_Picture_ofScanComponent_72 : decode c_Picture_ofScanComponent 72 = .ok (.iconst 1, 1) := by decide +kernel
theorem d_Picture_ofScanComponent_73 : decode c_Picture_ofScanComponent 73 = .ok (.iadd, 1) := by decide +kernel
theorem d_Picture_ofScanComponent_74 : decode c_Picture_ofScanComponent 74 = .ok (.invokevirtual 78, 3) := by decide +kernel
theorem d_Picture_ofScanComponent_77 : decode c_Picture_ofScanComponent 77 = .ok (.iconst 4, 1) := by decide +kernel
theorem d_Picture_ofScanComponent_78 : decode c_Picture_ofScanComponent 78 = .ok (.ishr, 1) := by decide +kernel
theorem d_Picture_ofScanComponent_79 : decode c_Picture_ofScanComponent 79 = .ok (.ireturn, 1) := by decide +kernel
theorem d_Picture_ofScanComponent_80 : decode c_Picture_ofScanComponent 80 = .ok (.aload_n 0, 1) := by decide +kernel
theorem d_Picture_ofScanComponent_81 : decode c_Picture_ofScanComponent 81 = .ok (.getfield 31, 3) := by decide +kernel
theorem d_Picture_ofScanComponent_84 : decode c_Picture_ofScanComponent 84 = .ok (.iload 5, 2) := by decide +kernel
theorem d_Picture_ofScanComponent_86 : decode c_Picture_ofScanComponent 86 = .ok (.iconst 1, 1) := by decide +kernel
theorem d_Picture_ofScanComponent_87 : decode c_Picture_ofScanComponent 87 = .ok (.iadd, 1) := by decide +kernel
theorem d_Picture_ofScanComponent_88 : decode c_Picture_ofScanComponent 88 = .ok (.invokevirtual 78, 3) := by decide +kernel
theorem d_Picture_ofScanComponent_91 : decode c_Picture_ofScanComponent 91 = .ok (.bipush 15, 2) := by decide +kernel
theorem d_Picture_ofScanComponent_93 : decode c_Picture_ofScanComponent 93 = .ok (.iand, 1) := by decide +kernel
theorem d_Picture_ofScanComponent_94 : decode c_Picture_ofScanComponent 94 = .ok (.ireturn, 1) := by decide +kernel
theorem d_Picture_ofScanComponent_95 : decode c_Picture_ofScanComponent 95 = .ok (.iconst (-1), 1) := by decide +kernel
theorem d_Picture_ofScanComponent_96 : decode c_Picture_ofScanComponent 96 = .ok (.ireturn, 1) := by decide +kernel
theorem d_Reader_data_0 : decode c_Reader_data 0 = .ok (.aload_n 0, 1) := by decide +kernel
theorem d_Reader_data_1 : decode c_Reader_data 1 = .ok (.getfield 21, 3) := by decide +kernel
theorem d_Reader_data_4 : decode c_Reader_data 4 = .ok (.iload_n 1, 1) := by decide +kernel
theorem d_Reader_data_5 : decode c_Reader_data 5 = .ok (.iload_n 2, 1) := by decide +kernel
theorem d_Reader_data_6 : decode c_Reader_data 6 = .ok (.invokevirtual 73, 3) := by decide +kernel
theorem d_Reader_data_9 : decode c_Reader_data 9 = .ok (.ireturn, 1) := by decide +kernel
theorem d_Picture_dataByte_0 : decode c_Picture_dataByte 0 = .ok (.iload_n 1, 1) := by decide +kernel
theorem d_Picture_dataByte_1 : decode c_Picture_dataByte 1 = .ok (.ifCond .lt 15, 3) := by decide +kernel
theorem d_Picture_dataByte_4 : decode c_Picture_dataByte 4 = .ok (.iload_n 1, 1) := by decide +kernel
theorem d_Picture_dataByte_5 : decode c_Picture_dataByte 5 = .ok (.aload_n 0, 1) := by decide +kernel
theorem d_Picture_dataByte_6 : decode c_Picture_dataByte 6 = .ok (.invokevirtual 93, 3) := by decide +kernel
theorem d_Picture_dataByte_9 : decode c_Picture_dataByte 9 = .ok (.if_icmp .ge 7, 3) := by decide +kernel
theorem d_Picture_dataByte_12 : decode c_Picture_dataByte 12 = .ok (.iload_n 2, 1) := by decide +kernel
theorem d_Picture_dataByte_13 : decode c_Picture_dataByte 13 = .ok (.ifCond .ge 5, 3) := by decide +kernel
theorem d_Picture_dataByte_16 : decode c_Picture_dataByte 16 = .ok (.iconst (-1), 1) := by decide +kernel
theorem d_Picture_dataByte_17 : decode c_Picture_dataByte 17 = .ok (.ireturn, 1) := by decide +kernel
theorem d_Picture_dataByte_18 : decode c_Picture_dataByte 18 = .ok (.aload_n 0, 1) := by decide +kernel
theorem d_Picture_dataByte_19 : decode c_Picture_dataByte 19 = .ok (.getfield 18, 3) := by decide +kernel
theorem d_Picture_dataByte_22 : decode c_Picture_dataByte 22 = .ok (.iload_n 1, 1) := by decide +kernel
theorem d_Picture_dataByte_23 : decode c_Picture_dataByte 23 = .ok (.iconst 5, 1) := by decide +kernel
theorem d_Picture_dataByte_24 : decode c_Picture_dataByte 24 = .ok (.imul, 1) := by decide +kernel
theorem d_Picture_dataByte_25 : decode c_Picture_dataByte 25 = .ok (.iconst 1, 1) := by decide +kernel
theorem d_Picture_dataByte_26 : decode c_Picture_dataByte 26 = .ok (.iadd, 1) := by decide +kernel
theorem d_Picture_dataByte_27 : decode c_Picture_dataByte 27 = .ok (.invokevirtual 74, 3) := by decide +kernel
theorem d_Picture_dataByte_30 : decode c_Picture_dataByte 30 = .ok (.istore_n 3, 1) := by decide +kernel
theorem d_Picture_dataByte_31 : decode c_Picture_dataByte 31 = .ok (.iload_n 3, 1) := by decide +kernel
theorem d_Picture_dataByte_32 : decode c_Picture_dataByte 32 = .ok (.aload_n 0, 1) := by decide +kernel
theorem d_Picture_dataByte_33 : decode c_Picture_dataByte 33 = .ok (.getfield 18, 3) := by decide +kernel
theorem d_Picture_dataByte_36 : decode c_Picture_dataByte 36 = .ok (.iload_n 1, 1) := by decide +kernel
theorem d_Picture_dataByte_37 : decode c_Picture_dataByte 37 = .ok (.iconst 5, 1) := by decide +kernel
theorem d_Picture_dataByte_38 : decode c_Picture_dataByte 38 = .ok (.imul, 1) := by decide +kernel
theorem d_Picture_dataByte_39 : decode c_Picture_dataByte 39 = .ok (.iconst 2, 1) := by decide +kernel
theorem d_Picture_dataByte_40 : decode c_Picture_dataByte 40 = .ok (.iadd, 1) := by decide +kernel
theorem d_Picture_dataByte_41 : decode c_Picture_dataByte 41 = .ok (.invokevirtual 74, 3) := by decide +kernel
theorem d_Picture_dataByte_44 : decode c_Picture_dataByte 44 = .ok (.iadd, 1) := by decide +kernel
theorem d_Picture_dataByte_45 : decode c_Picture_dataByte 45 = .ok (.istore 4, 2) := by decide +kernel
theorem d_Picture_dataByte_47 : decode c_Picture_dataByte 47 = .ok (.iload_n 2, 1) := by decide +kernel
theorem d_Picture_dataByte_48 : decode c_Picture_dataByte 48 = .ok (.istore 5, 2) := by decide +kernel
theorem d_Picture_dataByte_50 : decode c_Picture_dataByte 50 = .ok (.iload_n 3, 1) := by decide +kernel
theorem d_Picture_dataByte_51 : decode c_Picture_dataByte 51 = .ok (.iload 4, 2) := by decide +kernel
theorem d_Picture_dataByte_53 : decode c_Picture_dataByte 53 = .ok (.if_icmp .ge 88, 3) := by decide +kernel
theorem d_Picture_dataByte_56 : decode c_Picture_dataByte 56 = .ok (.aload_n 0, 1) := by decide +kernel
theorem d_Picture_dataByte_57 : decode c_Picture_dataByte 57 = .ok (.getfield 31, 3) := by decide +kernel
theorem d_Picture_dataByte_60 : decode c_Picture_dataByte 60 = .ok (.iload_n 3, 1) := by decide +kernel
theorem d_Picture_dataByte_61 : decode c_Picture_dataByte 61 = .ok (.invokevirtual 78, 3) := by decide +kernel
theorem d_Picture_dataByte_64 : decode c_Picture_dataByte 64 = .ok (.istore 6, 2) := by decide +kernel
theorem d_Picture_dataByte_66 : decode c_Picture_dataByte 66 = .ok (.iload 6, 2) := by decide +kernel
theorem d_Picture_dataByte_68 : decode c_Picture_dataByte 68 = .ok (.sipush 255, 3) := by decide +kernel
theorem d_Picture_dataByte_71 : decode c_Picture_dataByte 71 = .ok (.if_icmp .ne 20, 3) := by decide +kernel
theorem d_Picture_dataByte_74 : decode c_Picture_dataByte 74 = .ok (.aload_n 0, 1) := by decide +kernel
theorem d_Picture_dataByte_75 : decode c_Picture_dataByte 75 = .ok (.getfield 31, 3) := by decide +kernel
theorem d_Picture_dataByte_78 : decode c_Picture_dataByte 78 = .ok (.iload_n 3, 1) := by decide +kernel
theorem d_Picture_dataByte_79 : decode c_Picture_dataByte 79 = .ok (.iconst 1, 1) := by decide +kernel
theorem d_Picture_dataByte_80 : decode c_Picture_dataByte 80 = .ok (.iadd, 1) := by decide +kernel
theorem d_Picture_dataByte_81 : decode c_Picture_dataByte 81 = .ok (.invokevirtual 78, 3) := by decide +kernel
theorem d_Picture_dataByte_84 : decode c_Picture_dataByte 84 = .ok (.ifCond .eq 7, 3) := by decide +kernel
theorem d_Picture_dataByte_87 : decode c_Picture_dataByte 87 = .ok (.iconst 1, 1) := by decide +kernel
theorem d_Picture_dataByte_88 : decode c_Picture_dataByte 88 = .ok (.goto 4, 3) := by decide +kernel
theorem d_Picture_dataByte_91 : decode c_Picture_dataByte 91 = .ok (.iconst 0, 1) := by decide +kernel
theorem d_Picture_dataByte_92 : decode c_Picture_dataByte 92 = .ok (.istore 7, 2) := by decide +kernel
theorem d_Picture_dataByte_94 : decode c_Picture_dataByte 94 = .ok (.iload 7, 2) := by decide +kernel
theorem d_Picture_dataByte_96 : decode c_Picture_dataByte 96 = .ok (.ifCond .ne 11, 3) := by decide +kernel
theorem d_Picture_dataByte_99 : decode c_Picture_dataByte 99 = .ok (.iload 5, 2) := by decide +kernel
theorem d_Picture_dataByte_101 : decode c_Picture_dataByte 101 = .ok (.ifCond .ne 6, 3) := by decide +kernel
theorem d_Picture_dataByte_104 : decode c_Picture_dataByte 104 = .ok (.iload 6, 2) := by decide +kernel
theorem d_Picture_dataByte_106 : decode c_Picture_dataByte 106 = .ok (.ireturn, 1) := by decide +kernel
theorem d_Picture_dataByte_107 : decode c_Picture_dataByte 107 = .ok (.iload 5, 2) := by decide +kernel
theorem d_Picture_dataByte_109 : decode c_Picture_dataByte 109 = .ok (.iload 7, 2) := by decide +kernel
theorem d_Picture_dataByte_111 : decode c_Picture_dataByte 111 = .ok (.ifCond .eq 7, 3) := by decide +kernel
theorem d_Picture_dataByte_114 : decode c_Picture_dataByte 114 = .ok (.iconst 0, 1) := by decide +kernel
theorem d_Picture_dataByte_115 : decode c_Picture_dataByte 115 = .ok (.goto 4, 3) := by decide +kernel
theorem d_Picture_dataByte_118 : decode c_Picture_dataByte 118 = .ok (.iconst 1, 1) := by decide +kernel
theorem d_Picture_dataByte_119 : decode c_Picture_dataByte 119 = .ok (.isub, 1) := by decide +kernel
theorem d_Picture_dataByte_120 : decode c_Picture_dataByte 120 = .ok (.istore 5, 2) := by decide +kernel
theorem d_Picture_dataByte_122 : decode c_Picture_dataByte 122 = .ok (.iload_n 3, 1) := by decide +kernel
theorem d_Picture_dataByte_123 : decode c_Picture_dataByte 123 = .ok (.iload 6, 2) := by decide +kernel
theorem d_Picture_dataByte_125 : decode c_Picture_dataByte 125 = .ok (.sipush 255, 3) := by decide +kernel
theorem d_Picture_dataByte_128 : decode c_Picture_dataByte 128 = .ok (.if_icmp .ne 7, 3) := by decide +kernel
theorem d_Picture_dataByte_131 : decode c_Picture_dataByte 131 = .ok (.iconst 2, 1) := by decide +kernel
theorem d_Picture_dataByte_132 : decode c_Picture_dataByte 132 = .ok (.goto 4, 3) := by decide +kernel
theorem d_Picture_dataByte_135 : decode c_Picture_dataByte 135 = .ok (.iconst 1, 1) := by decide +kernel
theorem d_Picture_dataByte_136 : decode c_Picture_dataByte 136 = .ok (.iadd, 1) := by decide +kernel
theorem d_Picture_dataByte_137 : decode c_Picture_dataByte 137 = .ok (.istore_n 3, 1) := by decide +kernel
theorem d_Picture_dataByte_138 : decode c_Picture_dataByte 138 = .ok (.goto (-88), 3) := by decide +kernel
theorem d_Picture_dataByte_141 : decode c_Picture_dataByte 141 = .ok (.iconst (-1), 1) := by decide +kernel
theorem d_Picture_dataByte_142 : decode c_Picture_dataByte 142 = .ok (.ireturn, 1) := by decide +kernel
theorem d_Reader_quantiser_0 : decode c_Reader_quantiser 0 = .ok (.aload_n 0, 1) := by decide +kernel
theorem d_Reader_quantiser_1 : decode c_Reader_quantiser 1 = .ok (.getfield 21, 3) := by decide +kernel
theorem d_Reader_quantiser_4 : decode c_Reader_quantiser 4 = .ok (.iload_n 1, 1) := by decide +kernel
theorem d_Reader_quantiser_5 : decode c_Reader_quantiser 5 = .ok (.iload_n 2, 1) := by decide +kernel
theorem d_Reader_quantiser_6 : decode c_Reader_quantiser 6 = .ok (.invokevirtual 76, 3) := by decide +kernel
theorem d_Reader_quantiser_9 : decode c_Reader_quantiser 9 = .ok (.ireturn, 1) := by decide +kernel
theorem d_Picture_quantiserValue_0 : decode c_Picture_quantiserValue 0 = .ok (.aload_n 0, 1) := by decide +kernel
theorem d_Picture_quantiserValue_1 : decode c_Picture_quantiserValue 1 = .ok (.iload_n 1, 1) := by decide +kernel
theorem d_Picture_quantiserValue_2 : decode c_Picture_quantiserValue 2 = .ok (.invokevirtual 103, 3) := by decide +kernel
theorem d_Picture_quantiserValue_5 : decode c_Picture_quantiserValue 5 = .ok (.ifCond .eq 13, 3) := by decide +kernel
theorem d_Picture_quantiserValue_8 : decode c_Picture_quantiserValue 8 = .ok (.iload_n 2, 1) := by decide +kernel
theorem d_Picture_quantiserValue_9 : decode c_Picture_quantiserValue 9 = .ok (.ifCond .lt 9, 3) := by decide +kernel
theorem d_Picture_quantiserValue_12 : decode c_Picture_quantiserValue 12 = .ok (.iload_n 2, 1) := by decide +kernel
theorem d_Picture_quantiserValue_13 : decode c_Picture_quantiserValue 13 = .ok (.bipush 64, 2) := by decide +kernel
theorem d_Picture_quantiserValue_15 : decode c_Picture_quantiserValue 15 = .ok (.if_icmp .lt 5, 3) := by decide +kernel
theorem d_Picture_quantiserValue_18 : decode c_Picture_quantiserValue 18 = .ok (.iconst (-1), 1) := by decide +kernel
theorem d_Picture_quantiserValue_19 : decode c_Picture_quantiserValue 19 = .ok (.ireturn, 1) := by decide +kernel
theorem d_Picture_quantiserValue_20 : decode c_Picture_quantiserValue 20 = .ok (.aload_n 0, 1) := by decide +kernel
theorem d_Picture_quantiserValue_21 : decode c_Picture_quantiserValue 21 = .ok (.getfield 31, 3) := by decide +kernel
theorem d_Picture_quantiserValue_24 : decode c_Picture_quantiserValue 24 = .ok (.aload_n 0, 1) := by decide +kernel
theorem d_Picture_quantiserValue_25 : decode c_Picture_quantiserValue 25 = .ok (.getfield 25, 3) := by decide +kernel
theorem d_Picture_quantiserValue_28 : decode c_Picture_quantiserValue 28 = .ok (.iload_n 1, 1) := by decide +kernel
theorem d_Picture_quantiserValue_29 : decode c_Picture_quantiserValue 29 = .ok (.iaload, 1) := by decide +kernel
theorem d_Picture_quantiserValue_30 : decode c_Picture_quantiserValue 30 = .ok (.iload_n 2, 1) := by decide +kernel
theorem d_Picture_quantiserValue_31 : decode c_Picture_quantiserValue 31 = .ok (.iadd, 1) := by decide +kernel
theorem d_Picture_quantiserValue_32 : decode c_Picture_quantiserValue 32 = .ok (.invokevirtual 78, 3) := by decide +kernel
theorem d_Picture_quantiserValue_35 : decode c_Picture_quantiserValue 35 = .ok (.ireturn, 1) := by decide +kernel
theorem d_Reader_word_0 : decode c_Reader_word 0 = .ok (.aload_n 0, 1) := by decide +kernel
theorem d_Reader_word_1 : decode c_Reader_word 1 = .ok (.getfield 21, 3) := by decide +kernel
theorem d_Reader_word_4 : decode c_Reader_word 4 = .ok (.iload_n 1, 1) := by decide +kernel
theorem d_Reader_word_5 : decode c_Reader_word 5 = .ok (.iload_n 2, 1) := by decide +kernel
theorem d_Reader_word_6 : decode c_Reader_word 6 = .ok (.iload_n 3, 1) := by decide +kernel
theorem d_Reader_word_7 : decode c_Reader_word 7 = .ok (.invokevirtual 79, 3) := by decide +kernel
theorem d_Reader_word_10 : decode c_Reader_word 10 = .ok (.ireturn, 1) := by decide +kernel
theorem d_Picture_ofWords_0 : decode c_Picture_ofWords 0 = .ok (.aload_n 0, 1) := by decide +kernel
theorem d_Picture_ofWords_1 : decode c_Picture_ofWords 1 = .ok (.iload_n 1, 1) := by decide +kernel
theorem d_Picture_ofWords_2 : decode c_Picture_ofWords 2 = .ok (.invokevirtual 107, 3) := by decide +kernel
theorem d_Picture_ofWords_5 : decode c_Picture_ofWords 5 = .ok (.istore 4, 2) := by decide +kernel
theorem d_Picture_ofWords_7 : decode c_Picture_ofWords 7 = .ok (.iload 4, 2) := by decide +kernel
theorem d_Picture_ofWords_9 : decode c_Picture_ofWords 9 = .ok (.iconst (-1), 1) := by decide +kernel
theorem d_Picture_ofWords_10 : decode c_Picture_ofWords 10 = .ok (.if_icmp .ne 5, 3) := by decide +kernel
theorem d_Picture_ofWords_13 : decode c_Picture_ofWords 13 = .ok (.iconst (-1), 1) := by decide +kernel
theorem d_Picture_ofWords_14 : decode c_Picture_ofWords 14 = .ok (.ireturn, 1) := by decide +kernel
theorem d_Picture_ofWords_15 : decode c_Picture_ofWords 15 = .ok (.iload_n 2, 1) := by decide +kernel
theorem d_Picture_ofWords_16 : decode c_Picture_ofWords 16 = .ok (.ifCond .ne 28, 3) := by decide +kernel
theorem d_Picture_ofWords_19 : decode c_Picture_ofWords 19 = .ok (.iload_n 3, 1) := by decide +kernel
theorem d_Picture_ofWords_20 : decode c_Picture_ofWords 20 = .ok (.iconst 1, 1) := by decide +kernel
theorem d_Picture_ofWords_21 : decode c_Picture_ofWords 21 = .ok (.if_icmp .lt 23, 3) := by decide +kernel
theorem d_Picture_ofWords_24 : decode c_Picture_ofWords 24 = .ok (.iload_n 3, 1) := by decide +kernel
theorem d_Picture_ofWords_25 : decode c_Picture_ofWords 25 = .ok (.bipush 16, 2) := by decide +kernel
theorem d_Picture_ofWords_27 : decode c_Picture_ofWords 27 = .ok (.if_icmp .gt 17, 3) := by decide +kernel
theorem d_Picture_ofWords_30 : decode c_Picture_ofWords 30 = .ok (.aload_n 0, 1) := by decide +kernel
theorem d_Picture_ofWords_31 : decode c_Picture_ofWords 31 = .ok (.getfield 31, 3) := by decide +kernel
theorem d_Picture_ofWords_34 : decode c_Picture_ofWords 34 = .ok (.iload 4, 2) := by decide +kernel
theorem d_Picture_ofWords_36 : decode c_Picture_ofWords 36 = .ok (.iload_n 3, 1) := by decide +kernel
theorem d_Picture_ofWords_37 : decode c_Picture_ofWords 37 = .ok (.iadd, 1) := by decide +kernel
theorem d_Picture_ofWords_38 : decode c_Picture_ofWords 38 = .ok (.iconst 1, 1) := by decide +kernel
theorem d_Picture_ofWords_39 : decode c_Picture_ofWords 39 = .ok (.isub, 1) := by decide +kernel
theorem d_Picture_ofWords_40 : decode c_Picture_ofWords 40 = .ok (.invokevirtual 78, 3) := by decide +kernel
theorem d_Picture_ofWords_43 : decode c_Picture_ofWords 43 = .ok (.ireturn, 1) := by decide +kernel
theorem d_Picture_ofWords_44 : decode c_Picture_ofWords 44 = .ok (.iload_n 2, 1) := by decide +kernel
theorem d_Picture_ofWords_45 : decode c_Picture_ofWords 45 = .ok (.iconst 1, 1) := by decide +kernel
theorem d_Picture_ofWords_46 : decode c_Picture_ofWords 46 = .ok (.if_icmp .ne 32, 3) := by decide +kernel
theorem d_Picture_ofWords_49 : decode c_Picture_ofWords 49 = .ok (.iload_n 3, 1) := by decide +kernel
theorem d_Picture_ofWords_50 : decode c_Picture_ofWords 50 = .ok (.ifCond .lt 28, 3) := by decide +kernel
theorem d_Picture_ofWords_53 : decode c_Picture_ofWords 53 = .ok (.iload_n 3, 1) := by decide +kernel
theorem d_Picture_ofWords_54 : decode c_Picture_ofWords 54 = .ok (.aload_n 0, 1) := by decide +kernel
theorem d_Picture_ofWords_55 : decode c_Picture_ofWords 55 = .ok (.iload 4, 2) := by decide +kernel
theorem d_Picture_ofWords_57 : decode c_Picture_ofWords 57 = .ok (.invokevirtual 110, 3) := by decide +kernel
theorem d_Picture_ofWords_60 : decode c_Picture_ofWords 60 = .ok (.if_icmp .ge 18, 3) := by decide +kernel
theorem d_Picture_ofWords_63 : decode c_Picture_ofWords 63 = .ok (.aload_n 0, 1) := by decide +kernel
theorem d_Picture_ofWords_64 : decode c_Picture_ofWords 64 = .ok (.getfield 31, 3) := by decide +kernel
theorem d_Picture_ofWords_67 : decode c_Picture_ofWords 67 = .ok (.iload 4, 2) := by decide +kernel
theorem d_Picture_ofWords_69 : decode c_Picture_ofWords 69 = .ok (.bipush 16, 2) := by decide +kernel
theorem d_Picture_ofWords_71 : decode c_Picture_ofWords 71 = .ok (.iadd, 1) := by decide +kernel
theorem d_Picture_ofWords_72 : decode c_Picture_ofWords 72 = .ok (.iload_n 3, 1) := by decide +kernel
theorem d_Picture_ofWords_73 : decode c_Picture_ofWords 73 = .ok (.iadd, 1) := by decide +kernel
theorem d_Picture_ofWords_74 : decode c_Picture_ofWords 74 = .ok (.invokevirtual 78, 3) := by decide +kernel
theorem d_Picture_ofWords_77 : decode c_Picture_ofWords 77 = .ok (.ireturn, 1) := by decide +kernel
theorem d_Picture_ofWords_78 : decode c_Picture_ofWords 78 = .ok (.iconst (-1), 1) := by decide +kernel
theorem d_Picture_ofWords_79 : decode c_Picture_ofWords 79 = .ok (.ireturn, 1) := by decide +kernel
theorem d_Picture_wordCount_0 : decode c_Picture_wordCount 0 = .ok (.iconst 0, 1) := by decide +kernel
theorem d_Picture_wordCount_1 : decode c_Picture_wordCount 1 = .ok (.istore_n 2, 1) := by decide +kernel
theorem d_Picture_wordCount_2 : decode c_Picture_wordCount 2 = .ok (.iconst 1, 1) := by decide +kernel
theorem d_Picture_wordCount_3 : decode c_Picture_wordCount 3 = .ok (.istore_n 3, 1) := by decide +kernel
theorem d_Picture_wordCount_4 : decode c_Picture_wordCount 4 = .ok (.iload_n 3, 1) := by decide +kernel
theorem d_Picture_wordCount_5 : decode c_Picture_wordCount 5 = .ok (.bipush 16, 2) := by decide +kernel
theorem d_Picture_wordCount_7 : decode c_Picture_wordCount 7 = .ok (.if_icmp .gt 24, 3) := by decide +kernel
theorem d_Picture_wordCount_10 : decode c_Picture_wordCount 10 = .ok (.iload_n 2, 1) := by decide +kernel
theorem d_Picture_wordCount_11 : decode c_Picture_wordCount 11 = .ok (.aload_n 0, 1) := by decide +kernel
theorem d_Picture_wordCount_12 : decode c_Picture_wordCount 12 = .ok (.getfield 31, 3) := by decide +kernel
theorem d_Picture_wordCount_15 : decode c_Picture_wordCount 15 = .ok (.iload_n 1, 1) := by decide +kernel
theorem d_Picture_wordCount_16 : decode c_Picture_wordCount 16 = .ok (.iload_n 3, 1) := by decide +kernel
theorem d_Picture_wordCount_17 : decode c_Picture_wordCount 17 = .ok (.iadd, 1) := by decide +kernel
theorem d_Picture_wordCount_18 : decode c_Picture_wordCount 18 = .ok (.iconst 1, 1) := by decide +kernel
theorem d_Picture_wordCount_19 : decode c_Picture_wordCount 19 = .ok (.isub, 1) := by decide +kernel
theorem d_Picture_wordCount_20 : decode c_Picture_wordCount 20 = .ok (.invokevirtual 78, 3) := by decide +kernel
theorem d_Picture_wordCount_23 : decode c_Picture_wordCount 23 = .ok (.iadd, 1) := by decide +kernel
theorem d_Picture_wordCount_24 : decode c_Picture_wordCount 24 = .ok (.istore_n 2, 1) := by decide +kernel
theorem d_Picture_wordCount_25 : decode c_Picture_wordCount 25 = .ok (.iinc 3 1, 3) := by decide +kernel
theorem d_Picture_wordCount_28 : decode c_Picture_wordCount 28 = .ok (.goto (-24), 3) := by decide +kernel
theorem d_Picture_wordCount_31 : decode c_Picture_wordCount 31 = .ok (.iload_n 2, 1) := by decide +kernel
theorem d_Picture_wordCount_32 : decode c_Picture_wordCount 32 = .ok (.ireturn, 1) := by decide +kernel
theorem d_Reader_look_0 : decode c_Reader_look 0 = .ok (.iload_n 1, 1) := by decide +kernel
theorem d_Reader_look_1 : decode c_Reader_look 1 = .ok (.tableswitch 99 0 6 #[43, 51, 59, 67, 75, 83, 91], 43) := by decide +kernel
theorem d_Reader_look_44 : decode c_Reader_look 44 = .ok (.aload_n 0, 1) := by decide +kernel
theorem d_Reader_look_45 : decode c_Reader_look 45 = .ok (.getfield 10, 3) := by decide +kernel
theorem d_Reader_look_48 : decode c_Reader_look 48 = .ok (.getfield 34, 3) := by decide +kernel
theorem d_Reader_look_51 : decode c_Reader_look 51 = .ok (.ireturn, 1) := by decide +kernel
theorem d_Reader_look_52 : decode c_Reader_look 52 = .ok (.aload_n 0, 1) := by decide +kernel
theorem d_Reader_look_53 : decode c_Reader_look 53 = .ok (.getfield 30, 3) := by decide +kernel
theorem d_Reader_look_56 : decode c_Reader_look 56 = .ok (.getfield 83, 3) := by decide +kernel
theorem d_Reader_look_59 : decode c_Reader_look 59 = .ok (.ireturn, 1) := by decide +kernel
theorem d_Reader_look_60 : decode c_Reader_look 60 = .ok (.aload_n 0, 1) := by decide +kernel
theorem d_Reader_look_61 : decode c_Reader_look 61 = .ok (.getfield 30, 3) := by decide +kernel
theorem d_Reader_look_64 : decode c_Reader_look 64 = .ok (.getfield 86, 3) := by decide +kernel
theorem d_Reader_look_67 : decode c_Reader_look 67 = .ok (.ireturn, 1) := by decide +kernel
theorem d_Reader_look_68 : decode c_Reader_look 68 = .ok (.aload_n 0, 1) := by decide +kernel
theorem d_Reader_look_69 : decode c_Reader_look 69 = .ok (.getfield 21, 3) := by decide +kernel
theorem d_Reader_look_72 : decode c_Reader_look 72 = .ok (.invokevirtual 89, 3) := by decide +kernel
theorem d_Reader_look_75 : decode c_Reader_look 75 = .ok (.ireturn, 1) := by decide +kernel
theorem d_Reader_look_76 : decode c_Reader_look 76 = .ok (.aload_n 0, 1) := by decide +kernel
theorem d_Reader_look_77 : decode c_Reader_look 77 = .ok (.getfield 21, 3) := by decide +kernel
theorem d_Reader_look_80 : decode c_Reader_look 80 = .ok (.invokevirtual 92, 3) := by decide +kernel
theorem d_Reader_look_83 : decode c_Reader_look 83 = .ok (.ireturn, 1) := by decide +kernel
theorem d_Reader_look_84 : decode c_Reader_look 84 = .ok (.aload_n 0, 1) := by decide +kernel
theorem d_Reader_look_85 : decode c_Reader_look 85 = .ok (.getfield 21, 3) := by decide +kernel
theorem d_Reader_look_88 : decode c_Reader_look 88 = .ok (.getfield 95, 3) := by decide +kernel
theorem d_Reader_look_91 : decode c_Reader_look 91 = .ok (.ireturn, 1) := by decide +kernel
theorem d_Reader_look_92 : decode c_Reader_look 92 = .ok (.aload_n 0, 1) := by decide +kernel
theorem d_Reader_look_93 : decode c_Reader_look 93 = .ok (.getfield 21, 3) := by decide +kernel
theorem d_Reader_look_96 : decode c_Reader_look 96 = .ok (.getfield 98, 3) := by decide +kernel
theorem d_Reader_look_99 : decode c_Reader_look 99 = .ok (.ireturn, 1) := by decide +kernel
theorem d_Reader_look_100 : decode c_Reader_look 100 = .ok (.iconst (-1), 1) := by decide +kernel
theorem d_Reader_look_101 : decode c_Reader_look 101 = .ok (.ireturn, 1) := by decide +kernel
theorem d_Model_init_0 : decode c_Model_init 0 = .ok (.aload_n 0, 1) := by decide +kernel
theorem d_Model_init_1 : decode c_Model_init 1 = .ok (.invokespecial 1, 3) := by decide +kernel
theorem d_Model_init_4 : decode c_Model_init 4 = .ok (.aload_n 0, 1) := by decide +kernel
theorem d_Model_init_5 : decode c_Model_init 5 = .ok (.sipush 16384, 3) := by decide +kernel
theorem d_Model_init_8 : decode c_Model_init 8 = .ok (.newarray .byte, 2) := by decide +kernel
theorem d_Model_init_10 : decode c_Model_init 10 = .ok (.putfield 7, 3) := by decide +kernel
theorem d_Model_init_13 : decode c_Model_init 13 = .ok (.aload_n 0, 1) := by decide +kernel
theorem d_Model_init_14 : decode c_Model_init 14 = .ok (.iconst (-1), 1) := by decide +kernel
theorem d_Model_init_15 : decode c_Model_init 15 = .ok (.putfield 13, 3) := by decide +kernel
theorem d_Model_init_18 : decode c_Model_init 18 = .ok (.aload_n 0, 1) := by decide +kernel
theorem d_Model_init_19 : decode c_Model_init 19 = .ok (.sipush 16384, 3) := by decide +kernel
theorem d_Model_init_22 : decode c_Model_init 22 = .ok (.newarray .int, 2) := by decide +kernel
theorem d_Model_init_24 : decode c_Model_init 24 = .ok (.putfield 17, 3) := by decide +kernel
theorem d_Model_init_27 : decode c_Model_init 27 = .ok (.aload_n 0, 1) := by decide +kernel
theorem d_Model_init_28 : decode c_Model_init 28 = .ok (.iconst 4, 1) := by decide +kernel
theorem d_Model_init_29 : decode c_Model_init 29 = .ok (.newarray .int, 2) := by decide +kernel
theorem d_Model_init_31 : decode c_Model_init 31 = .ok (.putfield 21, 3) := by decide +kernel
theorem d_Model_init_34 : decode c_Model_init 34 = .ok (.aload_n 0, 1) := by decide +kernel
theorem d_Model_init_35 : decode c_Model_init 35 = .ok (.iconst 4, 1) := by decide +kernel
theorem d_Model_init_36 : decode c_Model_init 36 = .ok (.newarray .int, 2) := by decide +kernel
theorem d_Model_init_38 : decode c_Model_init 38 = .ok (.putfield 24, 3) := by decide +kernel
theorem d_Model_init_41 : decode c_Model_init 41 = .ok (.aload_n 0, 1) := by decide +kernel
theorem d_Model_init_42 : decode c_Model_init 42 = .ok (.iconst 4, 1) := by decide +kernel
theorem d_Model_init_43 : decode c_Model_init 43 = .ok (.newarray .int, 2) := by decide +kernel
theorem d_Model_init_45 : decode c_Model_init 45 = .ok (.putfield 27, 3) := by decide +kernel
theorem d_Model_init_48 : decode c_Model_init 48 = .ok (.aload_n 0, 1) := by decide +kernel
theorem d_Model_init_49 : decode c_Model_init 49 = .ok (.iconst 4, 1) := by decide +kernel
theorem d_Model_init_50 : decode c_Model_init 50 = .ok (.newarray .int, 2) := by decide +kernel
theorem d_Model_init_52 : decode c_Model_init 52 = .ok (.putfield 30, 3) := by decide +kernel
theorem d_Model_init_55 : decode c_Model_init 55 = .ok (.aload_n 0, 1) := by decide +kernel
theorem d_Model_init_56 : decode c_Model_init 56 = .ok (.iconst 4, 1) := by decide +kernel
theorem d_Model_init_57 : decode c_Model_init 57 = .ok (.newarray .boolean, 2) := by decide +kernel
theorem d_Model_init_59 : decode c_Model_init 59 = .ok (.putfield 33, 3) := by decide +kernel
theorem d_Model_init_62 : decode c_Model_init 62 = .ok (.aload_n 0, 1) := by decide +kernel
theorem d_Model_init_63 : decode c_Model_init 63 = .ok (.sipush 256, 3) := by decide +kernel
theorem d_Model_init_66 : decode c_Model_init 66 = .ok (.newarray .int, 2) := by decide +kernel
theorem d_Model_init_68 : decode c_Model_init 68 = .ok (.putfield 37, 3) := by decide +kernel
theorem d_Model_init_71 : decode c_Model_init 71 = .ok (.aload_n 0, 1) := by decide +kernel
theorem d_Model_init_72 : decode c_Model_init 72 = .ok (.bipush 8, 2) := by decide +kernel
theorem d_Model_init_74 : decode c_Model_init 74 = .ok (.newarray .boolean, 2) := by decide +kernel
theorem d_Model_init_76 : decode c_Model_init 76 = .ok (.putfield 40, 3) := by decide +kernel
theorem d_Model_init_79 : decode c_Model_init 79 = .ok (.aload_n 0, 1) := by decide +kernel
theorem d_Model_init_80 : decode c_Model_init 80 = .ok (.sipush 136, 3) := by decide +kernel
theorem d_Model_init_83 : decode c_Model_init 83 = .ok (.newarray .int, 2) := by decide +kernel
theorem d_Model_init_85 : decode c_Model_init 85 = .ok (.putfield 43, 3) := by decide +kernel
theorem d_Model_init_88 : decode c_Model_init 88 = .ok (.aload_n 0, 1) := by decide +kernel
theorem d_Model_init_89 : decode c_Model_init 89 = .ok (.sipush 2048, 3) := by decide +kernel
theorem d_Model_init_92 : decode c_Model_init 92 = .ok (.newarray .int, 2) := by decide +kernel
theorem d_Model_init_94 : decode c_Model_init 94 = .ok (.putfield 46, 3) := by decide +kernel
theorem d_Model_init_97 : decode c_Model_init 97 = .ok (.aload_n 0, 1) := by decide +kernel
theorem d_Model_init_98 : decode c_Model_init 98 = .ok (.bipush 8, 2) := by decide +kernel
theorem d_Model_init_100 : decode c_Model_init 100 = .ok (.newarray .int, 2) := by decide +kernel
theorem d_Model_init_102 : decode c_Model_init 102 = .ok (.putfield 49, 3) := by decide +kernel
theorem d_Model_init_105 : decode c_Model_init 105 = .ok (.aload_n 0, 1) := by decide +kernel
theorem d_Model_init_106 : decode c_Model_init 106 = .ok (.ldc 52, 2) := by decide +kernel
theorem d_Model_init_108 : decode c_Model_init 108 = .ok (.newarray .int, 2) := by decide +kernel
theorem d_Model_init_110 : decode c_Model_init 110 = .ok (.putfield 53, 3) := by decide +kernel
theorem d_Model_init_113 : decode c_Model_init 113 = .ok (.aload_n 0, 1) := by decide +kernel
theorem d_Model_init_114 : decode c_Model_init 114 = .ok (.sipush 256, 3) := by decide +kernel
theorem d_Model_init_117 : decode c_Model_init 117 = .ok (.newarray .int, 2) := by decide +kernel
theorem d_Model_init_119 : decode c_Model_init 119 = .ok (.putfield 56, 3) := by decide +kernel
theorem d_Model_init_122 : decode c_Model_init 122 = .ok (.aload_n 0, 1) := by decide +kernel
theorem d_Model_init_123 : decode c_Model_init 123 = .ok (.iconst 4, 1) := by decide +kernel
theorem d_Model_init_124 : decode c_Model_init 124 = .ok (.newarray .int, 2) := by decide +kernel
theorem d_Model_init_126 : decode c_Model_init 126 = .ok (.putfield 59, 3) := by decide +kernel
theorem d_Model_init_129 : decode c_Model_init 129 = .ok (.aload_n 0, 1) := by decide +kernel
theorem d_Model_init_130 : decode c_Model_init 130 = .ok (.iconst 4, 1) := by decide +kernel
theorem d_Model_init_131 : decode c_Model_init 131 = .ok (.newarray .int, 2) := by decide +kernel
theorem d_Model_init_133 : decode c_Model_init 133 = .ok (.putfield 62, 3) := by decide +kernel
theorem d_Model_init_136 : decode c_Model_init 136 = .ok (.aload_n 0, 1) := by decide +kernel
theorem d_Model_init_137 : decode c_Model_init 137 = .ok (.iconst 4, 1) := by decide +kernel
theorem d_Model_init_138 : decode c_Model_init 138 = .ok (.newarray .int, 2) := by decide +kernel
theorem d_Model_init_140 : decode c_Model_init 140 = .ok (.putfield 65, 3) := by decide +kernel
theorem d_Model_init_143 : decode c_Model_init 143 = .ok (.aload_n 0, 1) := by decide +kernel
theorem d_Model_init_144 : decode c_Model_init 144 = .ok (.iconst 4, 1) := by decide +kernel
theorem d_Model_init_145 : decode c_Model_init 145 = .ok (.newarray .int, 2) := by decide +kernel
theorem d_Model_init_147 : decode c_Model_init 147 = .ok (.putfield 68, 3) := by decide +kernel
theorem d_Model_init_150 : decode c_Model_init 150 = .ok (.aload_n 0, 1) := by decide +kernel
theorem d_Model_init_151 : decode c_Model_init 151 = .ok (.sipush 256, 3) := by decide +kernel
theorem d_Model_init_154 : decode c_Model_init 154 = .ok (.newarray .boolean, 2) := by decide +kernel
theorem d_Model_init_156 : decode c_Model_init 156 = .ok (.putfield 71, 3) := by decide +kernel
theorem d_Model_init_159 : decode c_Model_init 159 = .ok (.aload_n 0, 1) := by decide +kernel
theorem d_Model_init_160 : decode c_Model_init 160 = .ok (.invokevirtual 74, 3) := by decide +kernel
theorem d_Model_init_163 : decode c_Model_init 163 = .ok (.return_, 1) := by decide +kernel
theorem d_Model_forget_0 : decode c_Model_forget 0 = .ok (.aload_n 0, 1) := by decide +kernel
theorem d_Model_forget_1 : decode c_Model_forget 1 = .ok (.iconst (-1), 1) := by decide +kernel
theorem d_Model_forget_2 : decode c_Model_forget 2 = .ok (.putfield 80, 3) := by decide +kernel
theorem d_Model_forget_5 : decode c_Model_forget 5 = .ok (.aload_n 0, 1) := by decide +kernel
theorem d_Model_forget_6 : decode c_Model_forget 6 = .ok (.iconst 0, 1) := by decide +kernel
theorem d_Model_forget_7 : decode c_Model_forget 7 = .ok (.putfield 83, 3) := by decide +kernel
theorem d_Model_forget_10 : decode c_Model_forget 10 = .ok (.aload_n 0, 1) := by decide +kernel
theorem d_Model_forget_11 : decode c_Model_forget 11 = .ok (.iconst 0, 1) := by decide +kernel
theorem d_Model_forget_12 : decode c_Model_forget 12 = .ok (.putfield 86, 3) := by decide +kernel
theorem d_Model_forget_15 : decode c_Model_forget 15 = .ok (.aload_n 0, 1) := by decide +kernel
theorem d_Model_forget_16 : decode c_Model_forget 16 = .ok (.iconst 0, 1) := by decide +kernel
theorem d_Model_forget_17 : decode c_Model_forget 17 = .ok (.putfield 89, 3) := by decide +kernel
theorem d_Model_forget_20 : decode c_Model_forget 20 = .ok (.aload_n 0, 1) := by decide +kernel
theorem d_Model_forget_21 : decode c_Model_forget 21 = .ok (.iconst 0, 1) := by decide +kernel
theorem d_Model_forget_22 : decode c_Model_forget 22 = .ok (.putfield 92, 3) := by decide +kernel
theorem d_Model_forget_25 : decode c_Model_forget 25 = .ok (.aload_n 0, 1) := by decide +kernel
theorem d_Model_forget_26 : decode c_Model_forget 26 = .ok (.iconst 0, 1) := by decide +kernel
theorem d_Model_forget_27 : decode c_Model_forget 27 = .ok (.putfield 95, 3) := by decide +kernel
theorem d_Model_forget_30 : decode c_Model_forget 30 = .ok (.aload_n 0, 1) := by decide +kernel
theorem d_Model_forget_31 : decode c_Model_forget 31 = .ok (.iconst 0, 1) := by decide +kernel
theorem d_Model_forget_32 : decode c_Model_forget 32 = .ok (.putfield 98, 3) := by decide +kernel
theorem d_Model_forget_35 : decode c_Model_forget 35 = .ok (.aload_n 0, 1) := by decide +kernel
theorem d_Model_forget_36 : decode c_Model_forget 36 = .ok (.iconst 0, 1) := by decide +kernel
theorem d_Model_forget_37 : decode c_Model_forget 37 = .ok (.putfield 101, 3) := by decide +kernel
theorem d_Model_forget_40 : decode c_Model_forget 40 = .ok (.iconst 0, 1) := by decide +kernel
theorem d_Model_forget_41 : decode c_Model_forget 41 = .ok (.istore_n 1, 1) := by decide +kernel
theorem d_Model_forget_42 : decode c_Model_forget 42 = .ok (.iload_n 1, 1) := by decide +kernel
theorem d_Model_forget_43 : decode c_Model_forget 43 = .ok (.iconst 4, 1) := by decide +kernel
theorem d_Model_forget_44 : decode c_Model_forget 44 = .ok (.if_icmp .ge 16, 3) := by decide +kernel
theorem d_Model_forget_47 : decode c_Model_forget 47 = .ok (.aload_n 0, 1) := by decide +kernel
theorem d_Model_forget_48 : decode c_Model_forget 48 = .ok (.getfield 33, 3) := by decide +kernel
theorem d_Model_forget_51 : decode c_Model_forget 51 = .ok (.iload_n 1, 1) := by decide +kernel
theorem d_Model_forget_52 : decode c_Model_forget 52 = .ok (.iconst 0, 1) := by decide +kernel
theorem d_Model_forget_53 : decode c_Model_forget 53 = .ok (.bastore, 1) := by decide +kernel
theorem d_Model_forget_54 : decode c_Model_forget 54 = .ok (.iinc 1 1, 3) := by decide +kernel
theorem d_Model_forget_57 : decode c_Model_forget 57 = .ok (.goto (-15), 3) := by decide +kernel
theorem d_Model_forget_60 : decode c_Model_forget 60 = .ok (.iconst 0, 1) := by decide +kernel
theorem d_Model_forget_61 : decode c_Model_forget 61 = .ok (.istore_n 1, 1) := by decide +kernel
theorem d_Model_forget_62 : decode c_Model_forget 62 = .ok (.iload_n 1, 1) := by decide +kernel
theorem d_Model_forget_63 : decode c_Model_forget 63 = .ok (.bipush 8, 2) := by decide +kernel
theorem d_Model_forget_65 : decode c_Model_forget 65 = .ok (.if_icmp .ge 16, 3) := by decide +kernel
theorem d_Model_forget_68 : decode c_Model_forget 68 = .ok (.aload_n 0, 1) := by decide +kernel
theorem d_Model_forget_69 : decode c_Model_forget 69 = .ok (.getfield 40, 3) := by decide +kernel
theorem d_Model_forget_72 : decode c_Model_forget 72 = .ok (.iload_n 1, 1) := by decide +kernel
theorem d_Model_forget_73 : decode c_Model_forget 73 = .ok (.iconst 0, 1) := by decide +kernel
theorem d_Model_forget_74 : decode c_Model_forget 74 = .ok (.bastore, 1) := by decide +kernel
theorem d_Model_forget_75 : decode c_Model_forget 75 = .ok (.iinc 1 1, 3) := by decide +kernel
theorem d_Model_forget_78 : decode c_Model_forget 78 = .ok (.goto (-16), 3) := by decide +kernel
theorem d_Model_forget_81 : decode c_Model_forget 81 = .ok (.iconst 0, 1) := by decide +kernel
theorem d_Model_forget_82 : decode c_Model_forget 82 = .ok (.istore_n 1, 1) := by decide +kernel
theorem d_Model_forget_83 : decode c_Model_forget 83 = .ok (.iload_n 1, 1) := by decide +kernel
theorem d_Model_forget_84 : decode c_Model_forget 84 = .ok (.sipush 256, 3) := by decide +kernel
theorem d_Model_forget_87 : decode c_Model_forget 87 = .ok (.if_icmp .ge 16, 3) := by decide +kernel
theorem d_Model_forget_90 : decode c_Model_forget 90 = .ok (.aload_n 0, 1) := by decide +kernel
theorem d_Model_forget_91 : decode c_Model_forget 91 = .ok (.getfield 56, 3) := by decide +kernel
theorem d_Model_forget_94 : decode c_Model_forget 94 = .ok (.iload_n 1, 1) := by decide +kernel
theorem d_Model_forget_95 : decode c_Model_forget 95 = .ok (.iconst (-1), 1) := by decide +kernel
theorem d_Model_forget_96 : decode c_Model_forget 96 = .ok (.iastore, 1) := by decide +kernel
theorem d_Model_forget_97 : decode c_Model_forget 97 = .ok (.iinc 1 1, 3) := by decide +kernel
theorem d_Model_forget_100 : decode c_Model_forget 100 = .ok (.goto (-17), 3) := by decide +kernel
theorem d_Model_forget_103 : decode c_Model_forget 103 = .ok (.return_, 1) := by decide +kernel
theorem d_Model_give_0 : decode c_Model_give 0 = .ok (.aload_n 0, 1) := by decide +kernel
theorem d_Model_give_1 : decode c_Model_give 1 = .ok (.iconst 0, 1) := by decide +kernel
theorem d_Model_give_2 : decode c_Model_give 2 = .ok (.putfield 77, 3) := by decide +kernel
theorem d_Model_give_5 : decode c_Model_give 5 = .ok (.iload_n 3, 1) := by decide +kernel
theorem d_Model_give_6 : decode c_Model_give 6 = .ok (.iconst 1, 1) := by decide +kernel
theorem d_Model_give_7 : decode c_Model_give 7 = .ok (.if_icmp .lt 21, 3) := by decide +kernel
theorem d_Model_give_10 : decode c_Model_give 10 = .ok (.iload_n 3, 1) := by decide +kernel
theorem d_Model_give_11 : decode c_Model_give 11 = .ok (.bipush 8, 2) := by decide +kernel
theorem d_Model_give_13 : decode c_Model_give 13 = .ok (.if_icmp .gt 15, 3) := by decide +kernel
theorem d_Model_give_16 : decode c_Model_give 16 = .ok (.aload_n 0, 1) := by decide +kernel
theorem d_Model_give_17 : decode c_Model_give 17 = .ok (.getfield 104, 3) := by decide +kernel
theorem d_Model_give_20 : decode c_Model_give 20 = .ok (.iload_n 3, 1) := by decide +kernel
theorem d_Model_give_21 : decode c_Model_give 21 = .ok (.iadd, 1) := by decide +kernel
theorem d_Model_give_22 : decode c_Model_give 22 = .ok (.sipush 16384, 3) := by decide +kernel
theorem d_Model_give_25 : decode c_Model_give 25 = .ok (.if_icmp .le 5, 3) := by decide +kernel
theorem d_Model_give_28 : decode c_Model_give 28 = .ok (.iconst 0, 1) := by decide +kernel
theorem d_Model_give_29 : decode c_Model_give 29 = .ok (.ireturn, 1) := by decide +kernel
theorem d_Model_give_30 : decode c_Model_give 30 = .ok (.iload_n 3, 1) := by decide +kernel
theorem d_Model_give_31 : decode c_Model_give 31 = .ok (.iconst 1, 1) := by decide +kernel
theorem d_Model_give_32 : decode c_Model_give 32 = .ok (.isub, 1) := by decide +kernel
theorem d_Model_give_33 : decode c_Model_give 33 = .ok (.istore 4, 2) := by decide +kernel
theorem d_Model_give_35 : decode c_Model_give 35 = .ok (.iload 4, 2) := by decide +kernel
theorem d_Model_give_37 : decode c_Model_give 37 = .ok (.ifCond .lt 37, 3) := by decide +kernel
theorem d_Model_give_40 : decode c_Model_give 40 = .ok (.aload_n 0, 1) := by decide +kernel
theorem d_Model_give_41 : decode c_Model_give 41 = .ok (.getfield 7, 3) := by decide +kernel
theorem d_Model_give_44 : decode c_Model_give 44 = .ok (.aload_n 0, 1) := by decide +kernel
theorem d_Model_give_45 : decode c_Model_give 45 = .ok (.getfield 104, 3) := by decide +kernel
theorem d_Model_give_48 : decode c_Model_give 48 = .ok (.lload_n 1, 1) := by decide +kernel
theorem d_Model_give_49 : decode c_Model_give 49 = .ok (.bipush 8, 2) := by decide +kernel
theorem d_Model_give_51 : decode c_Model_give 51 = .ok (.iload 4, 2) := by decide +kernel
theorem d_Model_give_53 : decode c_Model_give 53 = .ok (.imul, 1) := by decide +kernel
theorem d_Model_give_54 : decode c_Model_give 54 = .ok (.lshr, 1) := by decide +kernel
theorem d_Model_give_55 : decode c_Model_give 55 = .ok (.l2i, 1) := by decide +kernel
theorem d_Model_give_56 : decode c_Model_give 56 = .ok (.i2b, 1) := by decide +kernel
theorem d_Model_give_57 : decode c_Model_give 57 = .ok (.bastore, 1) := by decide +kernel
theorem d_Model_give_58 : decode c_Model_give 58 = .ok (.aload_n 0, 1) := by decide +kernel
theorem d_Model_give_59 : decode c_Model_give 59 = .ok (.dup, 1) := by decide +kernel
theorem d_Model_give_60 : decode c_Model_give 60 = .ok (.getfield 104, 3) := by decide +kernel
theorem d_Model_give_63 : decode c_Model_give 63 = .ok (.iconst 1, 1) := by decide +kernel
theorem d_Model_give_64 : decode c_Model_give 64 = .ok (.iadd, 1) := by decide +kernel
theorem d_Model_give_65 : decode c_Model_give 65 = .ok (.putfield 104, 3) := by decide +kernel
theorem d_Model_give_68 : decode c_Model_give 68 = .ok (.iinc 4 (-1), 3) := by decide +kernel
theorem d_Model_give_71 : decode c_Model_give 71 = .ok (.goto (-36), 3) := by decide +kernel
theorem d_Model_give_74 : decode c_Model_give 74 = .ok (.aload_n 0, 1) := by decide +kernel
theorem d_Model_give_75 : decode c_Model_give 75 = .ok (.iconst 0, 1) := by decide +kernel
theorem d_Model_give_76 : decode c_Model_give 76 = .ok (.putfield 107, 3) := by decide +kernel
theorem d_Model_give_79 : decode c_Model_give 79 = .ok (.aload_n 0, 1) := by decide +kernel
theorem d_Model_give_80 : decode c_Model_give 80 = .ok (.iconst (-1), 1) := by decide +kernel
theorem d_Model_give_81 : decode c_Model_give 81 = .ok (.putfield 13, 3) := by decide +kernel
theorem d_Model_give_84 : decode c_Model_give 84 = .ok (.aload_n 0, 1) := by decide +kernel
theorem d_Model_give_85 : decode c_Model_give 85 = .ok (.invokevirtual 74, 3) := by decide +kernel
theorem d_Model_give_88 : decode c_Model_give 88 = .ok (.iconst 1, 1) := by decide +kernel
theorem d_Model_give_89 : decode c_Model_give 89 = .ok (.ireturn, 1) := by decide +kernel
theorem d_Model_wipe_0 : decode c_Model_wipe 0 = .ok (.aload_n 0, 1) := by decide +kernel
theorem d_Model_wipe_1 : decode c_Model_wipe 1 = .ok (.iconst 0, 1) := by decide +kernel
theorem d_Model_wipe_2 : decode c_Model_wipe 2 = .ok (.putfield 77, 3) := by decide +kernel
theorem d_Model_wipe_5 : decode c_Model_wipe 5 = .ok (.aload_n 0, 1) := by decide +kernel
theorem d_Model_wipe_6 : decode c_Model_wipe 6 = .ok (.iconst 0, 1) := by decide +kernel
theorem d_Model_wipe_7 : decode c_Model_wipe 7 = .ok (.putfield 104, 3) := by decide +kernel
theorem d_Model_wipe_10 : decode c_Model_wipe 10 = .ok (.aload_n 0, 1) := by decide +kernel
theorem d_Model_wipe_11 : decode c_Model_wipe 11 = .ok (.iconst 0, 1) := by decide +kernel
theorem d_Model_wipe_12 : decode c_Model_wipe 12 = .ok (.putfield 107, 3) := by decide +kernel
theorem d_Model_wipe_15 : decode c_Model_wipe 15 = .ok (.aload_n 0, 1) := by decide +kernel
theorem d_Model_wipe_16 : decode c_Model_wipe 16 = .ok (.iconst (-1), 1) := by decide +kernel
theorem d_Model_wipe_17 : decode c_Model_wipe 17 = .ok (.putfield 13, 3) := by decide +kernel
theorem d_Model_wipe_20 : decode c_Model_wipe 20 = .ok (.aload_n 0, 1) := by decide +kernel
theorem d_Model_wipe_21 : decode c_Model_wipe 21 = .ok (.invokevirtual 74, 3) := by decide +kernel
theorem d_Model_wipe_24 : decode c_Model_wipe 24 = .ok (.return_, 1) := by decide +kernel
theorem d_Model_read_0 : decode c_Model_read 0 = .ok (.aload_n 0, 1) := by decide +kernel
theorem d_Model_read_1 : decode c_Model_read 1 = .ok (.iconst 0, 1) := by decide +kernel
theorem d_Model_read_2 : decode c_Model_read 2 = .ok (.putfield 77, 3) := by decide +kernel
theorem d_Model_read_5 : decode c_Model_read 5 = .ok (.aload_n 0, 1) := by decide +kernel
theorem d_Model_read_6 : decode c_Model_read 6 = .ok (.iconst 0, 1) := by decide +kernel
theorem d_Model_read_7 : decode c_Model_read 7 = .ok (.putfield 107, 3) := by decide +kernel
theorem d_Model_read_10 : decode c_Model_read 10 = .ok (.aload_n 0, 1) := by decide +kernel
theorem d_Model_read_11 : decode c_Model_read 11 = .ok (.iconst (-1), 1) := by decide +kernel
theorem d_Model_read_12 : decode c_Model_read 12 = .ok (.putfield 13, 3) := by decide +kernel
theorem d_Model_read_15 : decode c_Model_read 15 = .ok (.aload_n 0, 1) := by decide +kernel
theorem d_Model_read_16 : decode c_Model_read 16 = .ok (.invokevirtual 74, 3) := by decide +kernel
theorem d_Model_read_19 : decode c_Model_read 19 = .ok (.aload_n 0, 1) := by decide +kernel
theorem d_Model_read_20 : decode c_Model_read 20 = .ok (.iconst 0, 1) := by decide +kernel
theorem d_Model_read_21 : decode c_Model_read 21 = .ok (.putfield 113, 3) := by decide +kernel
theorem d_Model_read_24 : decode c_Model_read 24 = .ok (.aload_n 0, 1) := by decide +kernel
theorem d_Model_read_25 : decode c_Model_read 25 = .ok (.iconst (-1), 1) := by decide +kernel
theorem d_Model_read_26 : decode c_Model_read 26 = .ok (.putfield 110, 3) := by decide +kernel
theorem d_Model_read_29 : decode c_Model_read 29 = .ok (.aload_n 0, 1) := by decide +kernel
theorem d_Model_read_30 : decode c_Model_read 30 = .ok (.invokevirtual 213, 3) := by decide +kernel
theorem d_Model_read_33 : decode c_Model_read 33 = .ok (.aload_n 0, 1) := by decide +kernel
theorem d_Model_read_34 : decode c_Model_read 34 = .ok (.getfield 107, 3) := by decide +kernel
theorem d_Model_read_37 : decode c_Model_read 37 = .ok (.ifCond .le 7, 3) := by decide +kernel
theorem d_Model_read_40 : decode c_Model_read 40 = .ok (.aload_n 0, 1) := by decide +kernel
theorem d_Model_read_41 : decode c_Model_read 41 = .ok (.invokevirtual 74, 3) := by decide +kernel
theorem d_Model_read_44 : decode c_Model_read 44 = .ok (.aload_n 0, 1) := by decide +kernel
theorem d_Model_read_45 : decode c_Model_read 45 = .ok (.getfield 107, 3) := by decide +kernel
theorem d_Model_read_48 : decode c_Model_read 48 = .ok (.ireturn, 1) := by decide +kernel
theorem d_Model_readFile_0 : decode c_Model_readFile 0 = .ok (.aload_n 0, 1) := by decide +kernel
theorem d_Model_readFile_1 : decode c_Model_readFile 1 = .ok (.invokevirtual 128, 3) := by decide +kernel
theorem d_Model_readFile_4 : decode c_Model_readFile 4 = .ok (.istore_n 1, 1) := by decide +kernel
theorem d_Model_readFile_5 : decode c_Model_readFile 5 = .ok (.aload_n 0, 1) := by decide +kernel
theorem d_Model_readFile_6 : decode c_Model_readFile 6 = .ok (.getfield 107, 3) := by decide +kernel
theorem d_Model_readFile_9 : decode c_Model_readFile 9 = .ok (.ifCond .ne 17, 3) := by decide +kernel
theorem d_Model_readFile_12 : decode c_Model_readFile 12 = .ok (.iload_n 1, 1) := by decide +kernel
theorem d_Model_readFile_13 : decode c_Model_readFile 13 = .ok (.sipush 255, 3) := by decide +kernel
theorem d_Model_readFile_16 : decode c_Model_readFile 16 = .ok (.if_icmp .eq 10, 3) := by decide +kernel
theorem d_Model_readFile_19 : decode c_Model_readFile 19 = .ok (.aload_n 0, 1) := by decide +kernel
theorem d_Model_readFile_20 : decode c_Model_readFile 20 = .ok (.iconst 2, 1) := by decide +kernel
theorem d_Model_readFile_21 : decode c_Model_readFile 21 = .ok (.iconst 0, 1) := by decide +kernel
theorem d_Model_readFile_22 : decode c_Model_readFile 22 = .ok (.invokevirtual 120, 3) := by decide +kernel
theorem d_Model_readFile_25 : decode c_Model_readFile 25 = .ok (.istore_n 2, 1) := by decide +kernel
theorem d_Model_readFile_26 : decode c_Model_readFile 26 = .ok (.aload_n 0, 1) := by decide +kernel
theorem d_Model_readFile_27 : decode c_Model_readFile 27 = .ok (.invokevirtual 128, 3) := by decide +kernel
theorem d_Model_readFile_30 : decode c_Model_readFile 30 = .ok (.istore_n 1, 1) := by decide +kernel
theorem d_Model_readFile_31 : decode c_Model_readFile 31 = .ok (.aload_n 0, 1) := by decide +kernel
theorem d_Model_readFile_32 : decode c_Model_readFile 32 = .ok (.getfield 107, 3) := by decide +kernel
theorem d_Model_readFile_35 : decode c_Model_readFile 35 = .ok (.ifCond .ne 17, 3) := by decide +kernel
theorem d_Model_readFile_38 : decode c_Model_readFile 38 = .ok (.iload_n 1, 1) := by decide +kernel
theorem d_Model_readFile_39 : decode c_Model_readFile 39 = .ok (.sipush 216, 3) := by decide +kernel
theorem d_Model_readFile_42 : decode c_Model_readFile 42 = .ok (.if_icmp .eq 10, 3) := by decide +kernel
theorem d_Model_readFile_45 : decode c_Model_readFile 45 = .ok (.aload_n 0, 1) := by decide +kernel
theorem d_Model_readFile_46 : decode c_Model_readFile 46 = .ok (.iconst 2, 1) := by decide +kernel
theorem d_Model_readFile_47 : decode c_Model_readFile 47 = .ok (.iconst 0, 1) := by decide +kernel
theorem d_Model_readFile_48 : decode c_Model_readFile 48 = .ok (.invokevirtual 120, 3) := by decide +kernel
theorem d_Model_readFile_51 : decode c_Model_readFile 51 = .ok (.istore_n 2, 1) := by decide +kernel
theorem d_Model_readFile_52 : decode c_Model_readFile 52 = .ok (.iconst 0, 1) := by decide +kernel
theorem d_Model_readFile_53 : decode c_Model_readFile 53 = .ok (.istore_n 2, 1) := by decide +kernel
theorem d_Model_readFile_54 : decode c_Model_readFile 54 = .ok (.iconst 1, 1) := by decide +kernel
theorem d_Model_readFile_55 : decode c_Model_readFile 55 = .ok (.istore_n 3, 1) := by decide +kernel
theorem d_Model_readFile_56 : decode c_Model_readFile 56 = .ok (.iload_n 3, 1) := by decide +kernel
theorem d_Model_readFile_57 : decode c_Model_readFile 57 = .ok (.ifCond .eq 219, 3) := by decide +kernel
theorem d_Model_readFile_60 : decode c_Model_readFile 60 = .ok (.aload_n 0, 1) := by decide +kernel
theorem d_Model_readFile_61 : decode c_Model_readFile 61 = .ok (.getfield 107, 3) := by decide +kernel
theorem d_Model_readFile_64 : decode c_Model_readFile 64 = .ok (.ifCond .ne 212, 3) := by decide +kernel
theorem d_Model_readFile_67 : decode c_Model_readFile 67 = .ok (.aload_n 0, 1) := by decide +kernel
theorem d_Model_readFile_68 : decode c_Model_readFile 68 = .ok (.invokevirtual 178, 3) := by decide +kernel
theorem d_Model_readFile_71 : decode c_Model_readFile 71 = .ok (.istore 4, 2) := by decide +kernel
theorem d_Model_readFile_73 : decode c_Model_readFile 73 = .ok (.aload_n 0, 1) := by decide +kernel
theorem d_Model_readFile_74 : decode c_Model_readFile 74 = .ok (.getfield 113, 3) := by decide +kernel
theorem d_Model_readFile_77 : decode c_Model_readFile 77 = .ok (.iconst 1, 1) := by decide +kernel
theorem d_Model_readFile_78 : decode c_Model_readFile 78 = .ok (.isub, 1) := by decide +kernel
theorem d_Model_readFile_79 : decode c_Model_readFile 79 = .ok (.istore 5, 2) := by decide +kernel
theorem d_Model_readFile_81 : decode c_Model_readFile 81 = .ok (.iload_n 2, 1) := by decide +kernel
theorem d_Model_readFile_82 : decode c_Model_readFile 82 = .ok (.istore 6, 2) := by decide +kernel
theorem d_Model_readFile_84 : decode c_Model_readFile 84 = .ok (.iconst 0, 1) := by decide +kernel
theorem d_Model_readFile_85 : decode c_Model_readFile 85 = .ok (.istore_n 2, 1) := by decide +kernel
theorem d_Model_readFile_86 : decode c_Model_readFile 86 = .ok (.iload 4, 2) := by decide +kernel
theorem d_Model_readFile_88 : decode c_Model_readFile 88 = .ok (.sipush 217, 3) := by decide +kernel
theorem d_Model_readFile_91 : decode c_Model_readFile 91 = .ok (.if_icmp .ne 10, 3) := by decide +kernel
theorem d_Model_readFile_94 : decode c_Model_readFile 94 = .ok (.aload_n 0, 1) := by decide +kernel
theorem d_Model_readFile_95 : decode c_Model_readFile 95 = .ok (.invokevirtual 181, 3) := by decide +kernel
theorem d_Model_readFile_98 : decode c_Model_readFile 98 = .ok (.ifCond .ne 89, 3) := by decide +kernel
theorem d_Model_readFile_101 : decode c_Model_readFile 101 = .ok (.iload 4, 2) := by decide +kernel
theorem d_Model_readFile_103 : decode c_Model_readFile 103 = .ok (.sipush 224, 3) := by decide +kernel
theorem d_Model_readFile_106 : decode c_Model_readFile 106 = .ok (.if_icmp .lt 11, 3) := by decide +kernel
theorem d_Model_readFile_109 : decode c_Model_readFile 109 = .ok (.iload 4, 2) := by decide +kernel
theorem d_Model_readFile_111 : decode c_Model_readFile 111 = .ok (.sipush 239, 3) := by decide +kernel
theorem d_Model_readFile_114 : decode c_Model_readFile 114 = .ok (.if_icmp .le 73, 3) := by decide +kernel
theorem d_Model_readFile_117 : decode c_Model_readFile 117 = .ok (.iload 4, 2) := by decide +kernel
theorem d_Model_readFile_119 : decode c_Model_readFile 119 = .ok (.sipush 254, 3) := by decide +kernel
theorem d_Model_readFile_122 : decode c_Model_readFile 122 = .ok (.if_icmp .eq 65, 3) := by decide +kernel
theorem d_Model_readFile_125 : decode c_Model_readFile 125 = .ok (.iload 4, 2) := by decide +kernel
theorem d_Model_readFile_127 : decode c_Model_readFile 127 = .ok (.sipush 219, 3) := by decide +kernel
theorem d_Model_readFile_130 : decode c_Model_readFile 130 = .ok (.if_icmp .eq 57, 3) := by decide +kernel
theorem d_Model_readFile_133 : decode c_Model_readFile 133 = .ok (.iload 4, 2) := by decide +kernel
theorem d_Model_readFile_135 : decode c_Model_readFile 135 = .ok (.sipush 196, 3) := by decide +kernel
theorem d_Model_readFile_138 : decode c_Model_readFile 138 = .ok (.if_icmp .eq 49, 3) := by decide +kernel
theorem d_Model_readFile_141 : decode c_Model_readFile 141 = .ok (.iload 4, 2) := by decide +kernel
theorem d_Model_readFile_143 : decode c_Model_readFile 143 = .ok (.sipush 221, 3) := by decide +kernel
theorem d_Model_readFile_146 : decode c_Model_readFile 146 = .ok (.if_icmp .eq 41, 3) := by decide +kernel
theorem d_Model_readFile_149 : decode c_Model_readFile 149 = .ok (.iload 4, 2) := by decide +kernel
theorem d_Model_readFile_151 : decode c_Model_readFile 151 = .ok (.sipush 192, 3) := by decide +kernel
theorem d_Model_readFile_154 : decode c_Model_readFile 154 = .ok (.if_icmp .eq 11, 3) := by decide +kernel
theorem d_Model_readFile_157 : decode c_Model_readFile 157 = .ok (.iload 4, 2) := by decide +kernel
theorem d_Model_readFile_159 : decode c_Model_readFile 159 = .ok (.sipush 194, 3) := by decide +kernel
theorem d_Model_readFile_162 : decode c_Model_readFile 162 = .ok (.if_icmp .ne 10, 3) := by decide +kernel
theorem d_Model_readFile_165 : decode c_Model_readFile 165 = .ok (.aload_n 0, 1) := by decide +kernel
theorem d_Model_readFile_166 : decode c_Model_readFile 166 = .ok (.getfield 86, 3) := by decide +kernel
theorem d_Model_readFile_169 : decode c_Model_readFile 169 = .ok (.ifCond .eq 18, 3) := by decide +kernel
theorem d_Model_readFile_172 : decode c_Model_readFile 172 = .ok (.iload 4, 2) := by decide +kernel
theorem d_Model_readFile_174 : decode c_Model_readFile 174 = .ok (.sipush 218, 3) := by decide +kernel
theorem d_Model_readFile_177 : decode c_Model_readFile 177 = .ok (.if_icmp .ne 14, 3) := by decide +kernel
theorem d_Model_readFile_180 : decode c_Model_readFile 180 = .ok (.aload_n 0, 1) := by decide +kernel
theorem d_Model_readFile_181 : decode c_Model_readFile 181 = .ok (.getfield 86, 3) := by decide +kernel
theorem d_Model_readFile_184 : decode c_Model_readFile 184 = .ok (.ifCond .le 7, 3) := by decide +kernel
theorem d_Model_readFile_187 : decode c_Model_readFile 187 = .ok (.iconst 1, 1) := by decide +kernel
theorem d_Model_readFile_188 : decode c_Model_readFile 188 = .ok (.goto 4, 3) := by decide +kernel
theorem d_Model_readFile_191 : decode c_Model_readFile 191 = .ok (.iconst 0, 1) := by decide +kernel
theorem d_Model_readFile_192 : decode c_Model_readFile 192 = .ok (.istore 7, 2) := by decide +kernel
theorem d_Model_readFile_194 : decode c_Model_readFile 194 = .ok (.aload_n 0, 1) := by decide +kernel
theorem d_Model_readFile_195 : decode c_Model_readFile 195 = .ok (.getfield 107, 3) := by decide +kernel
theorem d_Model_readFile_198 : decode c_Model_readFile 198 = .ok (.ifCond .ne 33, 3) := by decide +kernel
theorem d_Model_readFile_201 : decode c_Model_readFile 201 = .ok (.iload 6, 2) := by decide +kernel
theorem d_Model_readFile_203 : decode c_Model_readFile 203 = .ok (.ifCond .eq 14, 3) := by decide +kernel
theorem d_Model_readFile_206 : decode c_Model_readFile 206 = .ok (.iload 4, 2) := by decide +kernel
theorem d_Model_readFile_208 : decode c_Model_readFile 208 = .ok (.sipush 220, 3) := by decide +kernel
theorem d_Model_readFile_211 : decode c_Model_readFile 211 = .ok (.if_icmp .eq 20, 3) := by decide +kernel
theorem d_Model_readFile_214 : decode c_Model_readFile 214 = .ok (.goto 8, 3) := by decide +kernel
theorem d_Model_readFile_217 : decode c_Model_readFile 217 = .ok (.iload 7, 2) := by decide +kernel
theorem d_Model_readFile_219 : decode c_Model_readFile 219 = .ok (.ifCond .ne 12, 3) := by decide +kernel
theorem d_Model_readFile_222 : decode c_Model_readFile 222 = .ok (.aload_n 0, 1) := by decide +kernel
theorem d_Model_readFile_223 : decode c_Model_readFile 223 = .ok (.iconst 4, 1) := by decide +kernel
theorem d_Model_readFile_224 : decode c_Model_readFile 224 = .ok (.iload 5, 2) := by decide +kernel
theorem d_Model_readFile_226 : decode c_Model_readFile 226 = .ok (.invokevirtual 120, 3) := by decide +kernel
theorem d_Model_readFile_229 : decode c_Model_readFile 229 = .ok (.istore 8, 2) := by decide +kernel
theorem d_Model_readFile_231 : decode c_Model_readFile 231 = .ok (.aload_n 0, 1) := by decide +kernel
theorem d_Model_readFile_232 : decode c_Model_readFile 232 = .ok (.getfield 107, 3) := by decide +kernel
theorem d_Model_readFile_235 : decode c_Model_readFile 235 = .ok (.ifCond .ne 24, 3) := by decide +kernel
theorem d_Model_readFile_238 : decode c_Model_readFile 238 = .ok (.iload 4, 2) := by decide +kernel
theorem d_Model_readFile_240 : decode c_Model_readFile 240 = .ok (.sipush 217, 3) := by decide +kernel
theorem d_Model_readFile_243 : decode c_Model_readFile 243 = .ok (.if_icmp .ne 16, 3) := by decide +kernel
theorem d_Model_readFile_246 : decode c_Model_readFile 246 = .ok (.aload_n 0, 1) := by decide +kernel
theorem d_Model_readFile_247 : decode c_Model_readFile 247 = .ok (.aload_n 0, 1) := by decide +kernel
theorem d_Model_readFile_248 : decode c_Model_readFile 248 = .ok (.getfield 113, 3) := by decide +kernel
theorem d_Model_readFile_251 : decode c_Model_readFile 251 = .ok (.putfield 80, 3) := by decide +kernel
theorem d_Model_readFile_254 : decode c_Model_readFile 254 = .ok (.iconst 0, 1) := by decide +kernel
theorem d_Model_readFile_255 : decode c_Model_readFile 255 = .ok (.istore_n 3, 1) := by decide +kernel
end
section
theorem d_Model_readFile_256 : decode c_Model_readFile 256 = .ok (.goto 17, 3) := by decide +kernel
theorem d_Model_readFile_259 : decode c_Model_readFile 259 = .ok (.aload_n 0, 1) := by decide +kernel
theorem d_Model_readFile_260 : decode c_Model_readFile 260 = .ok (.getfield 107, 3) := by decide +kernel
theorem d_Model_readFile_263 : decode c_Model_readFile 263 = .ok (.ifCond .ne 10, 3) := by decide +kernel
theorem d_Model_readFile_266 : decode c_Model_readFile 266 = .ok (.aload_n 0, 1) := by decide +kernel
theorem d_Model_readFile_267 : decode c_Model_readFile 267 = .ok (.iload 4, 2) := by decide +kernel
theorem d_Model_readFile_269 : decode c_Model_readFile 269 = .ok (.invokevirtual 185, 3) := by decide +kernel
theorem d_Model_readFile_272 : decode c_Model_readFile 272 = .ok (.istore_n 2, 1) := by decide +kernel
theorem d_Model_readFile_273 : decode c_Model_readFile 273 = .ok (.goto (-217), 3) := by decide +kernel
theorem d_Model_readFile_276 : decode c_Model_readFile 276 = .ok (.return_, 1) := by decide +kernel
theorem d_Model_next_0 : decode c_Model_next 0 = .ok (.aload_n 0, 1) := by decide +kernel
theorem d_Model_next_1 : decode c_Model_next 1 = .ok (.getfield 107, 3) := by decide +kernel
theorem d_Model_next_4 : decode c_Model_next 4 = .ok (.ifCond .le 5, 3) := by decide +kernel
theorem d_Model_next_7 : decode c_Model_next 7 = .ok (.iconst 0, 1) := by decide +kernel
theorem d_Model_next_8 : decode c_Model_next 8 = .ok (.ireturn, 1) := by decide +kernel
theorem d_Model_next_9 : decode c_Model_next 9 = .ok (.aload_n 0, 1) := by decide +kernel
theorem d_Model_next_10 : decode c_Model_next 10 = .ok (.getfield 110, 3) := by decide +kernel
theorem d_Model_next_13 : decode c_Model_next 13 = .ok (.ifCond .lt 24, 3) := by decide +kernel
theorem d_Model_next_16 : decode c_Model_next 16 = .ok (.aload_n 0, 1) := by decide +kernel
theorem d_Model_next_17 : decode c_Model_next 17 = .ok (.getfield 113, 3) := by decide +kernel
theorem d_Model_next_20 : decode c_Model_next 20 = .ok (.aload_n 0, 1) := by decide +kernel
theorem d_Model_next_21 : decode c_Model_next 21 = .ok (.getfield 110, 3) := by decide +kernel
theorem d_Model_next_24 : decode c_Model_next 24 = .ok (.if_icmp .ne 13, 3) := by decide +kernel
theorem d_Model_next_27 : decode c_Model_next 27 = .ok (.aload_n 0, 1) := by decide +kernel
theorem d_Model_next_28 : decode c_Model_next 28 = .ok (.iconst 5, 1) := by decide +kernel
theorem d_Model_next_29 : decode c_Model_next 29 = .ok (.aload_n 0, 1) := by decide +kernel
theorem d_Model_next_30 : decode c_Model_next 30 = .ok (.invokevirtual 116, 3) := by decide +kernel
theorem d_Model_next_33 : decode c_Model_next 33 = .ok (.invokevirtual 120, 3) := by decide +kernel
theorem d_Model_next_36 : decode c_Model_next 36 = .ok (.ireturn, 1) := by decide +kernel
theorem d_Model_next_37 : decode c_Model_next 37 = .ok (.aload_n 0, 1) := by decide +kernel
theorem d_Model_next_38 : decode c_Model_next 38 = .ok (.getfield 113, 3) := by decide +kernel
theorem d_Model_next_41 : decode c_Model_next 41 = .ok (.aload_n 0, 1) := by decide +kernel
theorem d_Model_next_42 : decode c_Model_next 42 = .ok (.getfield 104, 3) := by decide +kernel
theorem d_Model_next_45 : decode c_Model_next 45 = .ok (.if_icmp .ne 13, 3) := by decide +kernel
theorem d_Model_next_48 : decode c_Model_next 48 = .ok (.aload_n 0, 1) := by decide +kernel
theorem d_Model_next_49 : decode c_Model_next 49 = .ok (.iconst 1, 1) := by decide +kernel
theorem d_Model_next_50 : decode c_Model_next 50 = .ok (.aload_n 0, 1) := by decide +kernel
theorem d_Model_next_51 : decode c_Model_next 51 = .ok (.getfield 104, 3) := by decide +kernel
theorem d_Model_next_54 : decode c_Model_next 54 = .ok (.invokevirtual 120, 3) := by decide +kernel
theorem d_Model_next_57 : decode c_Model_next 57 = .ok (.ireturn, 1) := by decide +kernel
theorem d_Model_next_58 : decode c_Model_next 58 = .ok (.aload_n 0, 1) := by decide +kernel
theorem d_Model_next_59 : decode c_Model_next 59 = .ok (.dup, 1) := by decide +kernel
theorem d_Model_next_60 : decode c_Model_next 60 = .ok (.getfield 113, 3) := by decide +kernel
theorem d_Model_next_63 : decode c_Model_next 63 = .ok (.iconst 1, 1) := by decide +kernel
theorem d_Model_next_64 : decode c_Model_next 64 = .ok (.iadd, 1) := by decide +kernel
theorem d_Model_next_65 : decode c_Model_next 65 = .ok (.putfield 113, 3) := by decide +kernel
theorem d_Model_next_68 : decode c_Model_next 68 = .ok (.aload_n 0, 1) := by decide +kernel
theorem d_Model_next_69 : decode c_Model_next 69 = .ok (.aload_n 0, 1) := by decide +kernel
theorem d_Model_next_70 : decode c_Model_next 70 = .ok (.getfield 113, 3) := by decide +kernel
theorem d_Model_next_73 : decode c_Model_next 73 = .ok (.iconst 1, 1) := by decide +kernel
theorem d_Model_next_74 : decode c_Model_next 74 = .ok (.isub, 1) := by decide +kernel
theorem d_Model_next_75 : decode c_Model_next 75 = .ok (.invokevirtual 124, 3) := by decide +kernel
theorem d_Model_next_78 : decode c_Model_next 78 = .ok (.ireturn, 1) := by decide +kernel
theorem d_Model_lengthAt_0 : decode c_Model_lengthAt 0 = .ok (.aload_n 0, 1) := by decide +kernel
theorem d_Model_lengthAt_1 : decode c_Model_lengthAt 1 = .ok (.getfield 131, 3) := by decide +kernel
theorem d_Model_lengthAt_4 : decode c_Model_lengthAt 4 = .ok (.ireturn, 1) := by decide +kernel
theorem d_Model_wrong_0 : decode c_Model_wrong 0 = .ok (.aload_n 0, 1) := by decide +kernel
theorem d_Model_wrong_1 : decode c_Model_wrong 1 = .ok (.getfield 107, 3) := by decide +kernel
theorem d_Model_wrong_4 : decode c_Model_wrong 4 = .ok (.ifCond .ne 13, 3) := by decide +kernel
theorem d_Model_wrong_7 : decode c_Model_wrong 7 = .ok (.aload_n 0, 1) := by decide +kernel
theorem d_Model_wrong_8 : decode c_Model_wrong 8 = .ok (.iload_n 1, 1) := by decide +kernel
theorem d_Model_wrong_9 : decode c_Model_wrong 9 = .ok (.putfield 107, 3) := by decide +kernel
theorem d_Model_wrong_12 : decode c_Model_wrong 12 = .ok (.aload_n 0, 1) := by decide +kernel
theorem d_Model_wrong_13 : decode c_Model_wrong 13 = .ok (.iload_n 2, 1) := by decide +kernel
theorem d_Model_wrong_14 : decode c_Model_wrong 14 = .ok (.putfield 13, 3) := by decide +kernel
theorem d_Model_wrong_17 : decode c_Model_wrong 17 = .ok (.iconst 0, 1) := by decide +kernel
theorem d_Model_wrong_18 : decode c_Model_wrong 18 = .ok (.ireturn, 1) := by decide +kernel
theorem d_Model_byteAt_0 : decode c_Model_byteAt 0 = .ok (.aload_n 0, 1) := by decide +kernel
theorem d_Model_byteAt_1 : decode c_Model_byteAt 1 = .ok (.getfield 7, 3) := by decide +kernel
theorem d_Model_byteAt_4 : decode c_Model_byteAt 4 = .ok (.iload_n 1, 1) := by decide +kernel
theorem d_Model_byteAt_5 : decode c_Model_byteAt 5 = .ok (.baload, 1) := by decide +kernel
theorem d_Model_byteAt_6 : decode c_Model_byteAt 6 = .ok (.sipush 255, 3) := by decide +kernel
theorem d_Model_byteAt_9 : decode c_Model_byteAt 9 = .ok (.iand, 1) := by decide +kernel
theorem d_Model_byteAt_10 : decode c_Model_byteAt 10 = .ok (.ireturn, 1) := by decide +kernel
theorem d_Model_marker_0 : decode c_Model_marker 0 = .ok (.aload_n 0, 1) := by decide +kernel
theorem d_Model_marker_1 : decode c_Model_marker 1 = .ok (.aload_n 0, 1) := by decide +kernel
theorem d_Model_marker_2 : decode c_Model_marker 2 = .ok (.getfield 113, 3) := by decide +kernel
theorem d_Model_marker_5 : decode c_Model_marker 5 = .ok (.putfield 134, 3) := by decide +kernel
theorem d_Model_marker_8 : decode c_Model_marker 8 = .ok (.aload_n 0, 1) := by decide +kernel
theorem d_Model_marker_9 : decode c_Model_marker 9 = .ok (.invokevirtual 128, 3) := by decide +kernel
theorem d_Model_marker_12 : decode c_Model_marker 12 = .ok (.istore_n 1, 1) := by decide +kernel
theorem d_Model_marker_13 : decode c_Model_marker 13 = .ok (.aload_n 0, 1) := by decide +kernel
theorem d_Model_marker_14 : decode c_Model_marker 14 = .ok (.getfield 107, 3) := by decide +kernel
theorem d_Model_marker_17 : decode c_Model_marker 17 = .ok (.ifCond .ne 22, 3) := by decide +kernel
theorem d_Model_marker_20 : decode c_Model_marker 20 = .ok (.iload_n 1, 1) := by decide +kernel
theorem d_Model_marker_21 : decode c_Model_marker 21 = .ok (.sipush 255, 3) := by decide +kernel
theorem d_Model_marker_24 : decode c_Model_marker 24 = .ok (.if_icmp .eq 15, 3) := by decide +kernel
theorem d_Model_marker_27 : decode c_Model_marker 27 = .ok (.aload_n 0, 1) := by decide +kernel
theorem d_Model_marker_28 : decode c_Model_marker 28 = .ok (.iconst 3, 1) := by decide +kernel
theorem d_Model_marker_29 : decode c_Model_marker 29 = .ok (.aload_n 0, 1) := by decide +kernel
theorem d_Model_marker_30 : decode c_Model_marker 30 = .ok (.getfield 113, 3) := by decide +kernel
theorem d_Model_marker_33 : decode c_Model_marker 33 = .ok (.iconst 1, 1) := by decide +kernel
theorem d_Model_marker_34 : decode c_Model_marker 34 = .ok (.isub, 1) := by decide +kernel
theorem d_Model_marker_35 : decode c_Model_marker 35 = .ok (.invokevirtual 120, 3) := by decide +kernel
theorem d_Model_marker_38 : decode c_Model_marker 38 = .ok (.ireturn, 1) := by decide +kernel
theorem d_Model_marker_39 : decode c_Model_marker 39 = .ok (.aload_n 0, 1) := by decide +kernel
theorem d_Model_marker_40 : decode c_Model_marker 40 = .ok (.getfield 107, 3) := by decide +kernel
theorem d_Model_marker_43 : decode c_Model_marker 43 = .ok (.ifCond .ne 18, 3) := by decide +kernel
theorem d_Model_marker_46 : decode c_Model_marker 46 = .ok (.iload_n 1, 1) := by decide +kernel
theorem d_Model_marker_47 : decode c_Model_marker 47 = .ok (.sipush 255, 3) := by decide +kernel
theorem d_Model_marker_50 : decode c_Model_marker 50 = .ok (.if_icmp .ne 11, 3) := by decide +kernel
theorem d_Model_marker_53 : decode c_Model_marker 53 = .ok (.aload_n 0, 1) := by decide +kernel
theorem d_Model_marker_54 : decode c_Model_marker 54 = .ok (.invokevirtual 128, 3) := by decide +kernel
theorem d_Model_marker_57 : decode c_Model_marker 57 = .ok (.istore_n 1, 1) := by decide +kernel
theorem d_Model_marker_58 : decode c_Model_marker 58 = .ok (.goto (-19), 3) := by decide +kernel
theorem d_Model_marker_61 : decode c_Model_marker 61 = .ok (.aload_n 0, 1) := by decide +kernel
theorem d_Model_marker_62 : decode c_Model_marker 62 = .ok (.getfield 107, 3) := by decide +kernel
theorem d_Model_marker_65 : decode c_Model_marker 65 = .ok (.ifCond .ne 19, 3) := by decide +kernel
theorem d_Model_marker_68 : decode c_Model_marker 68 = .ok (.iload_n 1, 1) := by decide +kernel
theorem d_Model_marker_69 : decode c_Model_marker 69 = .ok (.ifCond .ne 15, 3) := by decide +kernel
theorem d_Model_marker_72 : decode c_Model_marker 72 = .ok (.aload_n 0, 1) := by decide +kernel
theorem d_Model_marker_73 : decode c_Model_marker 73 = .ok (.iconst 4, 1) := by decide +kernel
theorem d_Model_marker_74 : decode c_Model_marker 74 = .ok (.aload_n 0, 1) := by decide +kernel
theorem d_Model_marker_75 : decode c_Model_marker 75 = .ok (.getfield 113, 3) := by decide +kernel
theorem d_Model_marker_78 : decode c_Model_marker 78 = .ok (.iconst 1, 1) := by decide +kernel
theorem d_Model_marker_79 : decode c_Model_marker 79 = .ok (.isub, 1) := by decide +kernel
theorem d_Model_marker_80 : decode c_Model_marker 80 = .ok (.invokevirtual 120, 3) := by decide +kernel
theorem d_Model_marker_83 : decode c_Model_marker 83 = .ok (.ireturn, 1) := by decide +kernel
theorem d_Model_marker_84 : decode c_Model_marker 84 = .ok (.iload_n 1, 1) := by decide +kernel
theorem d_Model_marker_85 : decode c_Model_marker 85 = .ok (.ireturn, 1) := by decide +kernel
theorem d_Model_isSent_0 : decode c_Model_isSent 0 = .ok (.aload_n 0, 1) := by decide +kernel
theorem d_Model_isSent_1 : decode c_Model_isSent 1 = .ok (.getfield 95, 3) := by decide +kernel
theorem d_Model_isSent_4 : decode c_Model_isSent 4 = .ok (.ifCond .le 7, 3) := by decide +kernel
theorem d_Model_isSent_7 : decode c_Model_isSent 7 = .ok (.iconst 1, 1) := by decide +kernel
theorem d_Model_isSent_8 : decode c_Model_isSent 8 = .ok (.goto 4, 3) := by decide +kernel
theorem d_Model_isSent_11 : decode c_Model_isSent 11 = .ok (.iconst 0, 1) := by decide +kernel
theorem d_Model_isSent_12 : decode c_Model_isSent 12 = .ok (.istore_n 1, 1) := by decide +kernel
theorem d_Model_isSent_13 : decode c_Model_isSent 13 = .ok (.iconst 0, 1) := by decide +kernel
theorem d_Model_isSent_14 : decode c_Model_isSent 14 = .ok (.istore_n 2, 1) := by decide +kernel
theorem d_Model_isSent_15 : decode c_Model_isSent 15 = .ok (.iload_n 2, 1) := by decide +kernel
theorem d_Model_isSent_16 : decode c_Model_isSent 16 = .ok (.aload_n 0, 1) := by decide +kernel
theorem d_Model_isSent_17 : decode c_Model_isSent 17 = .ok (.getfield 95, 3) := by decide +kernel
theorem d_Model_isSent_20 : decode c_Model_isSent 20 = .ok (.if_icmp .ge 31, 3) := by decide +kernel
theorem d_Model_isSent_23 : decode c_Model_isSent 23 = .ok (.iload_n 1, 1) := by decide +kernel
theorem d_Model_isSent_24 : decode c_Model_isSent 24 = .ok (.ifCond .eq 19, 3) := by decide +kernel
theorem d_Model_isSent_27 : decode c_Model_isSent 27 = .ok (.aload_n 0, 1) := by decide +kernel
theorem d_Model_isSent_28 : decode c_Model_isSent 28 = .ok (.getfield 56, 3) := by decide +kernel
theorem d_Model_isSent_31 : decode c_Model_isSent 31 = .ok (.bipush 64, 2) := by decide +kernel
theorem d_Model_isSent_33 : decode c_Model_isSent 33 = .ok (.iload_n 2, 1) := by decide +kernel
theorem d_Model_isSent_34 : decode c_Model_isSent 34 = .ok (.imul, 1) := by decide +kernel
theorem d_Model_isSent_35 : decode c_Model_isSent 35 = .ok (.iaload, 1) := by decide +kernel
theorem d_Model_isSent_36 : decode c_Model_isSent 36 = .ok (.ifCond .lt 7, 3) := by decide +kernel
theorem d_Model_isSent_39 : decode c_Model_isSent 39 = .ok (.iconst 1, 1) := by decide +kernel
theorem d_Model_isSent_40 : decode c_Model_isSent 40 = .ok (.goto 4, 3) := by decide +kernel
theorem d_Model_isSent_43 : decode c_Model_isSent 43 = .ok (.iconst 0, 1) := by decide +kernel
theorem d_Model_isSent_44 : decode c_Model_isSent 44 = .ok (.istore_n 1, 1) := by decide +kernel
theorem d_Model_isSent_45 : decode c_Model_isSent 45 = .ok (.iinc 2 1, 3) := by decide +kernel
theorem d_Model_isSent_48 : decode c_Model_isSent 48 = .ok (.goto (-33), 3) := by decide +kernel
theorem d_Model_isSent_51 : decode c_Model_isSent 51 = .ok (.iload_n 1, 1) := by decide +kernel
theorem d_Model_isSent_52 : decode c_Model_isSent 52 = .ok (.ireturn, 1) := by decide +kernel
theorem d_Model_segment1_0 : decode c_Model_segment1 0 = .ok (.aload_n 0, 1) := by decide +kernel
theorem d_Model_segment1_1 : decode c_Model_segment1 1 = .ok (.invokevirtual 189, 3) := by decide +kernel
theorem d_Model_segment1_4 : decode c_Model_segment1 4 = .ok (.aload_n 0, 1) := by decide +kernel
theorem d_Model_segment1_5 : decode c_Model_segment1 5 = .ok (.getfield 107, 3) := by decide +kernel
theorem d_Model_segment1_8 : decode c_Model_segment1 8 = .ok (.ifCond .le 5, 3) := by decide +kernel
theorem d_Model_segment1_11 : decode c_Model_segment1 11 = .ok (.iconst 0, 1) := by decide +kernel
theorem d_Model_segment1_12 : decode c_Model_segment1 12 = .ok (.ireturn, 1) := by decide +kernel
theorem d_Model_segment1_13 : decode c_Model_segment1 13 = .ok (.iload_n 1, 1) := by decide +kernel
theorem d_Model_segment1_14 : decode c_Model_segment1 14 = .ok (.sipush 219, 3) := by decide +kernel
theorem d_Model_segment1_17 : decode c_Model_segment1 17 = .ok (.if_icmp .ne 10, 3) := by decide +kernel
theorem d_Model_segment1_20 : decode c_Model_segment1 20 = .ok (.aload_n 0, 1) := by decide +kernel
theorem d_Model_segment1_21 : decode c_Model_segment1 21 = .ok (.invokevirtual 192, 3) := by decide +kernel
theorem d_Model_segment1_24 : decode c_Model_segment1 24 = .ok (.goto 137, 3) := by decide +kernel
theorem d_Model_segment1_27 : decode c_Model_segment1 27 = .ok (.iload_n 1, 1) := by decide +kernel
theorem d_Model_segment1_28 : decode c_Model_segment1 28 = .ok (.sipush 196, 3) := by decide +kernel
theorem d_Model_segment1_31 : decode c_Model_segment1 31 = .ok (.if_icmp .ne 10, 3) := by decide +kernel
theorem d_Model_segment1_34 : decode c_Model_segment1 34 = .ok (.aload_n 0, 1) := by decide +kernel
theorem d_Model_segment1_35 : decode c_Model_segment1 35 = .ok (.invokevirtual 195, 3) := by decide +kernel
theorem d_Model_segment1_38 : decode c_Model_segment1 38 = .ok (.goto 123, 3) := by decide +kernel
theorem d_Model_segment1_41 : decode c_Model_segment1 41 = .ok (.iload_n 1, 1) := by decide +kernel
theorem d_Model_segment1_42 : decode c_Model_segment1 42 = .ok (.sipush 221, 3) := by decide +kernel
theorem d_Model_segment1_45 : decode c_Model_segment1 45 = .ok (.if_icmp .ne 30, 3) := by decide +kernel
theorem d_Model_segment1_48 : decode c_Model_segment1 48 = .ok (.aload_n 0, 1) := by decide +kernel
theorem d_Model_segment1_49 : decode c_Model_segment1 49 = .ok (.invokevirtual 137, 3) := by decide +kernel
theorem d_Model_segment1_52 : decode c_Model_segment1 52 = .ok (.istore_n 2, 1) := by decide +kernel
theorem d_Model_segment1_53 : decode c_Model_segment1 53 = .ok (.aload_n 0, 1) := by decide +kernel
theorem d_Model_segment1_54 : decode c_Model_segment1 54 = .ok (.aload_n 0, 1) := by decide +kernel
theorem d_Model_segment1_55 : decode c_Model_segment1 55 = .ok (.getfield 107, 3) := by decide +kernel
theorem d_Model_segment1_58 : decode c_Model_segment1 58 = .ok (.ifCond .ne 7, 3) := by decide +kernel
theorem d_Model_segment1_61 : decode c_Model_segment1 61 = .ok (.iload_n 2, 1) := by decide +kernel
theorem d_Model_segment1_62 : decode c_Model_segment1 62 = .ok (.goto 7, 3) := by decide +kernel
theorem d_Model_segment1_65 : decode c_Model_segment1 65 = .ok (.aload_n 0, 1) := by decide +kernel
theorem d_Model_segment1_66 : decode c_Model_segment1 66 = .ok (.getfield 98, 3) := by decide +kernel
theorem d_Model_segment1_69 : decode c_Model_segment1 69 = .ok (.putfield 98, 3) := by decide +kernel
theorem d_Model_segment1_72 : decode c_Model_segment1 72 = .ok (.goto 89, 3) := by decide +kernel
theorem d_Model_segment1_75 : decode c_Model_segment1 75 = .ok (.iload_n 1, 1) := by decide +kernel
theorem d_Model_segment1_76 : decode c_Model_segment1 76 = .ok (.sipush 192, 3) := by decide +kernel
theorem d_Model_segment1_79 : decode c_Model_segment1 79 = .ok (.if_icmp .eq 10, 3) := by decide +kernel
theorem d_Model_segment1_82 : decode c_Model_segment1 82 = .ok (.iload_n 1, 1) := by decide +kernel
theorem d_Model_segment1_83 : decode c_Model_segment1 83 = .ok (.sipush 194, 3) := by decide +kernel
theorem d_Model_segment1_86 : decode c_Model_segment1 86 = .ok (.if_icmp .ne 11, 3) := by decide +kernel
theorem d_Model_segment1_89 : decode c_Model_segment1 89 = .ok (.aload_n 0, 1) := by decide +kernel
theorem d_Model_segment1_90 : decode c_Model_segment1 90 = .ok (.iload_n 1, 1) := by decide +kernel
theorem d_Model_segment1_91 : decode c_Model_segment1 91 = .ok (.invokevirtual 198, 3) := by decide +kernel
theorem d_Model_segment1_94 : decode c_Model_segment1 94 = .ok (.goto 67, 3) := by decide +kernel
theorem d_Model_segment1_97 : decode c_Model_segment1 97 = .ok (.iload_n 1, 1) := by decide +kernel
theorem d_Model_segment1_98 : decode c_Model_segment1 98 = .ok (.sipush 218, 3) := by decide +kernel
theorem d_Model_segment1_101 : decode c_Model_segment1 101 = .ok (.if_icmp .ne 10, 3) := by decide +kernel
theorem d_Model_segment1_104 : decode c_Model_segment1 104 = .ok (.aload_n 0, 1) := by decide +kernel
theorem d_Model_segment1_105 : decode c_Model_segment1 105 = .ok (.invokevirtual 201, 3) := by decide +kernel
theorem d_Model_segment1_108 : decode c_Model_segment1 108 = .ok (.goto 53, 3) := by decide +kernel
theorem d_Model_segment1_111 : decode c_Model_segment1 111 = .ok (.iload_n 1, 1) := by decide +kernel
theorem d_Model_segment1_112 : decode c_Model_segment1 112 = .ok (.sipush 220, 3) := by decide +kernel
theorem d_Model_segment1_115 : decode c_Model_segment1 115 = .ok (.if_icmp .ne 42, 3) := by decide +kernel
theorem d_Model_segment1_118 : decode c_Model_segment1 118 = .ok (.aload_n 0, 1) := by decide +kernel
theorem d_Model_segment1_119 : decode c_Model_segment1 119 = .ok (.invokevirtual 137, 3) := by decide +kernel
theorem d_Model_segment1_122 : decode c_Model_segment1 122 = .ok (.istore_n 2, 1) := by decide +kernel
theorem d_Model_segment1_123 : decode c_Model_segment1 123 = .ok (.aload_n 0, 1) := by decide +kernel
theorem d_Model_segment1_124 : decode c_Model_segment1 124 = .ok (.aload_n 0, 1) := by decide +kernel
theorem d_Model_segment1_125 : decode c_Model_segment1 125 = .ok (.getfield 107, 3) := by decide +kernel
theorem d_Model_segment1_128 : decode c_Model_segment1 128 = .ok (.ifCond .gt 13, 3) := by decide +kernel
theorem d_Model_segment1_131 : decode c_Model_segment1 131 = .ok (.iload_n 2, 1) := by decide +kernel
theorem d_Model_segment1_132 : decode c_Model_segment1 132 = .ok (.ifCond .le 13, 3) := by decide +kernel
theorem d_Model_segment1_135 : decode c_Model_segment1 135 = .ok (.iload_n 2, 1) := by decide +kernel
theorem d_Model_segment1_136 : decode c_Model_segment1 136 = .ok (.bipush 64, 2) := by decide +kernel
theorem d_Model_segment1_138 : decode c_Model_segment1 138 = .ok (.if_icmp .gt 7, 3) := by decide +kernel
theorem d_Model_segment1_141 : decode c_Model_segment1 141 = .ok (.iconst 1, 1) := by decide +kernel
theorem d_Model_segment1_142 : decode c_Model_segment1 142 = .ok (.goto 4, 3) := by decide +kernel
theorem d_Model_segment1_145 : decode c_Model_segment1 145 = .ok (.iconst 0, 1) := by decide +kernel
theorem d_Model_segment1_146 : decode c_Model_segment1 146 = .ok (.invokevirtual 140, 3) := by decide +kernel
theorem d_Model_segment1_149 : decode c_Model_segment1 149 = .ok (.aload_n 0, 1) := by decide +kernel
theorem d_Model_segment1_150 : decode c_Model_segment1 150 = .ok (.iload_n 2, 1) := by decide +kernel
theorem d_Model_segment1_151 : decode c_Model_segment1 151 = .ok (.putfield 92, 3) := by decide +kernel
theorem d_Model_segment1_154 : decode c_Model_segment1 154 = .ok (.goto 7, 3) := by decide +kernel
theorem d_Model_segment1_157 : decode c_Model_segment1 157 = .ok (.aload_n 0, 1) := by decide +kernel
theorem d_Model_segment1_158 : decode c_Model_segment1 158 = .ok (.invokevirtual 204, 3) := by decide +kernel
theorem d_Model_segment1_161 : decode c_Model_segment1 161 = .ok (.aload_n 0, 1) := by decide +kernel
theorem d_Model_segment1_162 : decode c_Model_segment1 162 = .ok (.iload_n 1, 1) := by decide +kernel
theorem d_Model_segment1_163 : decode c_Model_segment1 163 = .ok (.invokevirtual 207, 3) := by decide +kernel
theorem d_Model_segment1_166 : decode c_Model_segment1 166 = .ok (.iload_n 1, 1) := by decide +kernel
theorem d_Model_segment1_167 : decode c_Model_segment1 167 = .ok (.sipush 218, 3) := by decide +kernel
theorem d_Model_segment1_170 : decode c_Model_segment1 170 = .ok (.if_icmp .ne 35, 3) := by decide +kernel
theorem d_Model_segment1_173 : decode c_Model_segment1 173 = .ok (.aload_n 0, 1) := by decide +kernel
theorem d_Model_segment1_174 : decode c_Model_segment1 174 = .ok (.getfield 107, 3) := by decide +kernel
theorem d_Model_segment1_177 : decode c_Model_segment1 177 = .ok (.ifCond .ne 28, 3) := by decide +kernel
theorem d_Model_segment1_180 : decode c_Model_segment1 180 = .ok (.aload_n 0, 1) := by decide +kernel
theorem d_Model_segment1_181 : decode c_Model_segment1 181 = .ok (.invokevirtual 210, 3) := by decide +kernel
theorem d_Model_segment1_184 : decode c_Model_segment1 184 = .ok (.aload_n 0, 1) := by decide +kernel
theorem d_Model_segment1_185 : decode c_Model_segment1 185 = .ok (.getfield 92, 3) := by decide +kernel
theorem d_Model_segment1_188 : decode c_Model_segment1 188 = .ok (.ifCond .ne 15, 3) := by decide +kernel
theorem d_Model_segment1_191 : decode c_Model_segment1 191 = .ok (.aload_n 0, 1) := by decide +kernel
theorem d_Model_segment1_192 : decode c_Model_segment1 192 = .ok (.getfield 101, 3) := by decide +kernel
theorem d_Model_segment1_195 : decode c_Model_segment1 195 = .ok (.iconst 1, 1) := by decide +kernel
theorem d_Model_segment1_196 : decode c_Model_segment1 196 = .ok (.if_icmp .ne 7, 3) := by decide +kernel
theorem d_Model_segment1_199 : decode c_Model_segment1 199 = .ok (.iconst 1, 1) := by decide +kernel
theorem d_Model_segment1_200 : decode c_Model_segment1 200 = .ok (.goto 4, 3) := by decide +kernel
theorem d_Model_segment1_203 : decode c_Model_segment1 203 = .ok (.iconst 0, 1) := by decide +kernel
theorem d_Model_segment1_204 : decode c_Model_segment1 204 = .ok (.ireturn, 1) := by decide +kernel
theorem d_Model_segment1_205 : decode c_Model_segment1 205 = .ok (.iconst 0, 1) := by decide +kernel
theorem d_Model_segment1_206 : decode c_Model_segment1 206 = .ok (.ireturn, 1) := by decide +kernel
theorem d_Model_open_0 : decode c_Model_open 0 = .ok (.aload_n 0, 1) := by decide +kernel
theorem d_Model_open_1 : decode c_Model_open 1 = .ok (.aload_n 0, 1) := by decide +kernel
theorem d_Model_open_2 : decode c_Model_open 2 = .ok (.getfield 113, 3) := by decide +kernel
theorem d_Model_open_5 : decode c_Model_open 5 = .ok (.putfield 131, 3) := by decide +kernel
theorem d_Model_open_8 : decode c_Model_open 8 = .ok (.aload_n 0, 1) := by decide +kernel
theorem d_Model_open_9 : decode c_Model_open 9 = .ok (.invokevirtual 137, 3) := by decide +kernel
theorem d_Model_open_12 : decode c_Model_open 12 = .ok (.istore_n 1, 1) := by decide +kernel
theorem d_Model_open_13 : decode c_Model_open 13 = .ok (.aload_n 0, 1) := by decide +kernel
theorem d_Model_open_14 : decode c_Model_open 14 = .ok (.getfield 107, 3) := by decide +kernel
theorem d_Model_open_17 : decode c_Model_open 17 = .ok (.ifCond .ne 18, 3) := by decide +kernel
theorem d_Model_open_20 : decode c_Model_open 20 = .ok (.iload_n 1, 1) := by decide +kernel
theorem d_Model_open_21 : decode c_Model_open 21 = .ok (.iconst 2, 1) := by decide +kernel
theorem d_Model_open_22 : decode c_Model_open 22 = .ok (.if_icmp .ge 13, 3) := by decide +kernel
theorem d_Model_open_25 : decode c_Model_open 25 = .ok (.aload_n 0, 1) := by decide +kernel
theorem d_Model_open_26 : decode c_Model_open 26 = .ok (.iconst 5, 1) := by decide +kernel
theorem d_Model_open_27 : decode c_Model_open 27 = .ok (.aload_n 0, 1) := by decide +kernel
theorem d_Model_open_28 : decode c_Model_open 28 = .ok (.getfield 131, 3) := by decide +kernel
theorem d_Model_open_31 : decode c_Model_open 31 = .ok (.invokevirtual 120, 3) := by decide +kernel
theorem d_Model_open_34 : decode c_Model_open 34 = .ok (.istore_n 2, 1) := by decide +kernel
theorem d_Model_open_35 : decode c_Model_open 35 = .ok (.aload_n 0, 1) := by decide +kernel
theorem d_Model_open_36 : decode c_Model_open 36 = .ok (.aload_n 0, 1) := by decide +kernel
theorem d_Model_open_37 : decode c_Model_open 37 = .ok (.getfield 131, 3) := by decide +kernel
theorem d_Model_open_40 : decode c_Model_open 40 = .ok (.iload_n 1, 1) := by decide +kernel
theorem d_Model_open_41 : decode c_Model_open 41 = .ok (.iadd, 1) := by decide +kernel
theorem d_Model_open_42 : decode c_Model_open 42 = .ok (.putfield 110, 3) := by decide +kernel
theorem d_Model_open_45 : decode c_Model_open 45 = .ok (.return_, 1) := by decide +kernel
theorem d_Model_two_0 : decode c_Model_two 0 = .ok (.aload_n 0, 1) := by decide +kernel
theorem d_Model_two_1 : decode c_Model_two 1 = .ok (.invokevirtual 128, 3) := by decide +kernel
theorem d_Model_two_4 : decode c_Model_two 4 = .ok (.istore_n 1, 1) := by decide +kernel
theorem d_Model_two_5 : decode c_Model_two 5 = .ok (.sipush 256, 3) := by decide +kernel
theorem d_Model_two_8 : decode c_Model_two 8 = .ok (.iload_n 1, 1) := by decide +kernel
theorem d_Model_two_9 : decode c_Model_two 9 = .ok (.imul, 1) := by decide +kernel
theorem d_Model_two_10 : decode c_Model_two 10 = .ok (.aload_n 0, 1) := by decide +kernel
theorem d_Model_two_11 : decode c_Model_two 11 = .ok (.invokevirtual 128, 3) := by decide +kernel
theorem d_Model_two_14 : decode c_Model_two 14 = .ok (.iadd, 1) := by decide +kernel
theorem d_Model_two_15 : decode c_Model_two 15 = .ok (.ireturn, 1) := by decide +kernel
theorem d_Model_readQuantisers_0 : decode c_Model_readQuantisers 0 = .ok (.iconst 1, 1) := by decide +kernel
theorem d_Model_readQuantisers_1 : decode c_Model_readQuantisers 1 = .ok (.istore_n 1, 1) := by decide +kernel
theorem d_Model_readQuantisers_2 : decode c_Model_readQuantisers 2 = .ok (.iload_n 1, 1) := by decide +kernel
theorem d_Model_readQuantisers_3 : decode c_Model_readQuantisers 3 = .ok (.ifCond .eq 131, 3) := by decide +kernel
theorem d_Model_readQuantisers_6 : decode c_Model_readQuantisers 6 = .ok (.aload_n 0, 1) := by decide +kernel
theorem d_Model_readQuantisers_7 : decode c_Model_readQuantisers 7 = .ok (.getfield 107, 3) := by decide +kernel
theorem d_Model_readQuantisers_10 : decode c_Model_readQuantisers 10 = .ok (.ifCond .ne 124, 3) := by decide +kernel
theorem d_Model_readQuantisers_13 : decode c_Model_readQuantisers 13 = .ok (.aload_n 0, 1) := by decide +kernel
theorem d_Model_readQuantisers_14 : decode c_Model_readQuantisers 14 = .ok (.invokevirtual 128, 3) := by decide +kernel
theorem d_Model_readQuantisers_17 : decode c_Model_readQuantisers 17 = .ok (.istore_n 2, 1) := by decide +kernel
theorem d_Model_readQuantisers_18 : decode c_Model_readQuantisers 18 = .ok (.aload_n 0, 1) := by decide +kernel
theorem d_Model_readQuantisers_19 : decode c_Model_readQuantisers 19 = .ok (.aload_n 0, 1) := by decide +kernel
theorem d_Model_readQuantisers_20 : decode c_Model_readQuantisers 20 = .ok (.getfield 107, 3) := by decide +kernel
theorem d_Model_readQuantisers_23 : decode c_Model_readQuantisers 23 = .ok (.ifCond .gt 8, 3) := by decide +kernel
theorem d_Model_readQuantisers_26 : decode c_Model_readQuantisers 26 = .ok (.iload_n 2, 1) := by decide +kernel
theorem d_Model_readQuantisers_27 : decode c_Model_readQuantisers 27 = .ok (.iconst 4, 1) := by decide +kernel
theorem d_Model_readQuantisers_28 : decode c_Model_readQuantisers 28 = .ok (.if_icmp .ge 7, 3) := by decide +kernel
theorem d_Model_readQuantisers_31 : decode c_Model_readQuantisers 31 = .ok (.iconst 1, 1) := by decide +kernel
theorem d_Model_readQuantisers_32 : decode c_Model_readQuantisers 32 = .ok (.goto 4, 3) := by decide +kernel
theorem d_Model_readQuantisers_35 : decode c_Model_readQuantisers 35 = .ok (.iconst 0, 1) := by decide +kernel
theorem d_Model_readQuantisers_36 : decode c_Model_readQuantisers 36 = .ok (.invokevirtual 140, 3) := by decide +kernel
theorem d_Model_readQuantisers_39 : decode c_Model_readQuantisers 39 = .ok (.iconst 0, 1) := by decide +kernel
theorem d_Model_readQuantisers_40 : decode c_Model_readQuantisers 40 = .ok (.istore_n 3, 1) := by decide +kernel
theorem d_Model_readQuantisers_41 : decode c_Model_readQuantisers 41 = .ok (.iload_n 3, 1) := by decide +kernel
theorem d_Model_readQuantisers_42 : decode c_Model_readQuantisers 42 = .ok (.bipush 64, 2) := by decide +kernel
theorem d_Model_readQuantisers_44 : decode c_Model_readQuantisers 44 = .ok (.if_icmp .ge 56, 3) := by decide +kernel
theorem d_Model_readQuantisers_47 : decode c_Model_readQuantisers 47 = .ok (.aload_n 0, 1) := by decide +kernel
theorem d_Model_readQuantisers_48 : decode c_Model_readQuantisers 48 = .ok (.getfield 107, 3) := by decide +kernel
theorem d_Model_readQuantisers_51 : decode c_Model_readQuantisers 51 = .ok (.ifCond .ne 49, 3) := by decide +kernel
theorem d_Model_readQuantisers_54 : decode c_Model_readQuantisers 54 = .ok (.aload_n 0, 1) := by decide +kernel
theorem d_Model_readQuantisers_55 : decode c_Model_readQuantisers 55 = .ok (.invokevirtual 128, 3) := by decide +kernel
theorem d_Model_readQuantisers_58 : decode c_Model_readQuantisers 58 = .ok (.istore 4, 2) := by decide +kernel
theorem d_Model_readQuantisers_60 : decode c_Model_readQuantisers 60 = .ok (.aload_n 0, 1) := by decide +kernel
theorem d_Model_readQuantisers_61 : decode c_Model_readQuantisers 61 = .ok (.aload_n 0, 1) := by decide +kernel
theorem d_Model_readQuantisers_62 : decode c_Model_readQuantisers 62 = .ok (.getfield 107, 3) := by decide +kernel
theorem d_Model_readQuantisers_65 : decode c_Model_readQuantisers 65 = .ok (.ifCond .gt 8, 3) := by decide +kernel
theorem d_Model_readQuantisers_68 : decode c_Model_readQuantisers 68 = .ok (.iload 4, 2) := by decide +kernel
theorem d_Model_readQuantisers_70 : decode c_Model_readQuantisers 70 = .ok (.ifCond .le 7, 3) := by decide +kernel
theorem d_Model_readQuantisers_73 : decode c_Model_readQuantisers 73 = .ok (.iconst 1, 1) := by decide +kernel
theorem d_Model_readQuantisers_74 : decode c_Model_readQuantisers 74 = .ok (.goto 4, 3) := by decide +kernel
theorem d_Model_readQuantisers_77 : decode c_Model_readQuantisers 77 = .ok (.iconst 0, 1) := by decide +kernel
theorem d_Model_readQuantisers_78 : decode c_Model_readQuantisers 78 = .ok (.invokevirtual 140, 3) := by decide +kernel
theorem d_Model_readQuantisers_81 : decode c_Model_readQuantisers 81 = .ok (.aload_n 0, 1) := by decide +kernel
theorem d_Model_readQuantisers_82 : decode c_Model_readQuantisers 82 = .ok (.getfield 37, 3) := by decide +kernel
theorem d_Model_readQuantisers_85 : decode c_Model_readQuantisers 85 = .ok (.bipush 64, 2) := by decide +kernel
theorem d_Model_readQuantisers_87 : decode c_Model_readQuantisers 87 = .ok (.iload_n 2, 1) := by decide +kernel
theorem d_Model_readQuantisers_88 : decode c_Model_readQuantisers 88 = .ok (.imul, 1) := by decide +kernel
theorem d_Model_readQuantisers_89 : decode c_Model_readQuantisers 89 = .ok (.iload_n 3, 1) := by decide +kernel
theorem d_Model_readQuantisers_90 : decode c_Model_readQuantisers 90 = .ok (.iadd, 1) := by decide +kernel
theorem d_Model_readQuantisers_91 : decode c_Model_readQuantisers 91 = .ok (.iload 4, 2) := by decide +kernel
theorem d_Model_readQuantisers_93 : decode c_Model_readQuantisers 93 = .ok (.iastore, 1) := by decide +kernel
theorem d_Model_readQuantisers_94 : decode c_Model_readQuantisers 94 = .ok (.iinc 3 1, 3) := by decide +kernel
theorem d_Model_readQuantisers_97 : decode c_Model_readQuantisers 97 = .ok (.goto (-56), 3) := by decide +kernel
theorem d_Model_readQuantisers_100 : decode c_Model_readQuantisers 100 = .ok (.aload_n 0, 1) := by decide +kernel
theorem d_Model_readQuantisers_101 : decode c_Model_readQuantisers 101 = .ok (.getfield 107, 3) := by decide +kernel
theorem d_Model_readQuantisers_104 : decode c_Model_readQuantisers 104 = .ok (.ifCond .ne 10, 3) := by decide +kernel
theorem d_Model_readQuantisers_107 : decode c_Model_readQuantisers 107 = .ok (.aload_n 0, 1) := by decide +kernel
theorem d_Model_readQuantisers_108 : decode c_Model_readQuantisers 108 = .ok (.getfield 33, 3) := by decide +kernel
theorem d_Model_readQuantisers_111 : decode c_Model_readQuantisers 111 = .ok (.iload_n 2, 1) := by decide +kernel
theorem d_Model_readQuantisers_112 : decode c_Model_readQuantisers 112 = .ok (.iconst 1, 1) := by decide +kernel
theorem d_Model_readQuantisers_113 : decode c_Model_readQuantisers 113 = .ok (.bastore, 1) := by decide +kernel
theorem d_Model_readQuantisers_114 : decode c_Model_readQuantisers 114 = .ok (.aload_n 0, 1) := by decide +kernel
theorem d_Model_readQuantisers_115 : decode c_Model_readQuantisers 115 = .ok (.getfield 113, 3) := by decide +kernel
theorem d_Model_readQuantisers_118 : decode c_Model_readQuantisers 118 = .ok (.aload_n 0, 1) := by decide +kernel
theorem d_Model_readQuantisers_119 : decode c_Model_readQuantisers 119 = .ok (.getfield 110, 3) := by decide +kernel
theorem d_Model_readQuantisers_122 : decode c_Model_readQuantisers 122 = .ok (.if_icmp .ge 7, 3) := by decide +kernel
theorem d_Model_readQuantisers_125 : decode c_Model_readQuantisers 125 = .ok (.iconst 1, 1) := by decide +kernel
theorem d_Model_readQuantisers_126 : decode c_Model_readQuantisers 126 = .ok (.goto 4, 3) := by decide +kernel
theorem d_Model_readQuantisers_129 : decode c_Model_readQuantisers 129 = .ok (.iconst 0, 1) := by decide +kernel
theorem d_Model_readQuantisers_130 : decode c_Model_readQuantisers 130 = .ok (.istore_n 1, 1) := by decide +kernel
theorem d_Model_readQuantisers_131 : decode c_Model_readQuantisers 131 = .ok (.goto (-129), 3) := by decide +kernel
theorem d_Model_readQuantisers_134 : decode c_Model_readQuantisers 134 = .ok (.return_, 1) := by decide +kernel
theorem d_Model_must_0 : decode c_Model_must 0 = .ok (.iload_n 1, 1) := by decide +kernel
theorem d_Model_must_1 : decode c_Model_must 1 = .ok (.ifCond .ne 16, 3) := by decide +kernel
theorem d_Model_must_4 : decode c_Model_must 4 = .ok (.aload_n 0, 1) := by decide +kernel
theorem d_Model_must_5 : decode c_Model_must 5 = .ok (.bipush 6, 2) := by decide +kernel
theorem d_Model_must_7 : decode c_Model_must 7 = .ok (.aload_n 0, 1) := by decide +kernel
theorem d_Model_must_8 : decode c_Model_must 8 = .ok (.getfield 113, 3) := by decide +kernel
theorem d_Model_must_11 : decode c_Model_must 11 = .ok (.iconst 1, 1) := by decide +kernel
theorem d_Model_must_12 : decode c_Model_must 12 = .ok (.isub, 1) := by decide +kernel
theorem d_Model_must_13 : decode c_Model_must 13 = .ok (.invokevirtual 120, 3) := by decide +kernel
theorem d_Model_must_16 : decode c_Model_must 16 = .ok (.istore_n 2, 1) := by decide +kernel
theorem d_Model_must_17 : decode c_Model_must 17 = .ok (.return_, 1) := by decide +kernel
theorem d_Model_readWords_0 : decode c_Model_readWords 0 = .ok (.iconst 1, 1) := by decide +kernel
theorem d_Model_readWords_1 : decode c_Model_readWords 1 = .ok (.istore_n 1, 1) := by decide +kernel
theorem d_Model_readWords_2 : decode c_Model_readWords 2 = .ok (.iload_n 1, 1) := by decide +kernel
theorem d_Model_readWords_3 : decode c_Model_readWords 3 = .ok (.ifCond .eq 94, 3) := by decide +kernel
theorem d_Model_readWords_6 : decode c_Model_readWords 6 = .ok (.aload_n 0, 1) := by decide +kernel
theorem d_Model_readWords_7 : decode c_Model_readWords 7 = .ok (.getfield 107, 3) := by decide +kernel
theorem d_Model_readWords_10 : decode c_Model_readWords 10 = .ok (.ifCond .ne 87, 3) := by decide +kernel
theorem d_Model_readWords_13 : decode c_Model_readWords 13 = .ok (.aload_n 0, 1) := by decide +kernel
theorem d_Model_readWords_14 : decode c_Model_readWords 14 = .ok (.invokevirtual 128, 3) := by decide +kernel
theorem d_Model_readWords_17 : decode c_Model_readWords 17 = .ok (.istore_n 2, 1) := by decide +kernel
theorem d_Model_readWords_18 : decode c_Model_readWords 18 = .ok (.aload_n 0, 1) := by decide +kernel
theorem d_Model_readWords_19 : decode c_Model_readWords 19 = .ok (.aload_n 0, 1) := by decide +kernel
theorem d_Model_readWords_20 : decode c_Model_readWords 20 = .ok (.getfield 107, 3) := by decide +kernel
theorem d_Model_readWords_23 : decode c_Model_readWords 23 = .ok (.ifCond .gt 20, 3) := by decide +kernel
theorem d_Model_readWords_26 : decode c_Model_readWords 26 = .ok (.iload_n 2, 1) := by decide +kernel
theorem d_Model_readWords_27 : decode c_Model_readWords 27 = .ok (.iconst 4, 1) := by decide +kernel
theorem d_Model_readWords_28 : decode c_Model_readWords 28 = .ok (.if_icmp .lt 15, 3) := by decide +kernel
theorem d_Model_readWords_31 : decode c_Model_readWords 31 = .ok (.iload_n 2, 1) := by decide +kernel
theorem d_Model_readWords_32 : decode c_Model_readWords 32 = .ok (.bipush 16, 2) := by decide +kernel
theorem d_Model_readWords_34 : decode c_Model_readWords 34 = .ok (.if_icmp .lt 13, 3) := by decide +kernel
theorem d_Model_readWords_37 : decode c_Model_readWords 37 = .ok (.iload_n 2, 1) := by decide +kernel
theorem d_Model_readWords_38 : decode c_Model_readWords 38 = .ok (.bipush 20, 2) := by decide +kernel
theorem d_Model_readWords_40 : decode c_Model_readWords 40 = .ok (.if_icmp .ge 7, 3) := by decide +kernel
theorem d_Model_readWords_43 : decode c_Model_readWords 43 = .ok (.iconst 1, 1) := by decide +kernel
theorem d_Model_readWords_44 : decode c_Model_readWords 44 = .ok (.goto 4, 3) := by decide +kernel
theorem d_Model_readWords_47 : decode c_Model_readWords 47 = .ok (.iconst 0, 1) := by decide +kernel
theorem d_Model_readWords_48 : decode c_Model_readWords 48 = .ok (.invokevirtual 140, 3) := by decide +kernel
theorem d_Model_readWords_51 : decode c_Model_readWords 51 = .ok (.iload_n 2, 1) := by decide +kernel
theorem d_Model_readWords_52 : decode c_Model_readWords 52 = .ok (.iconst 4, 1) := by decide +kernel
theorem d_Model_readWords_53 : decode c_Model_readWords 53 = .ok (.if_icmp .ge 7, 3) := by decide +kernel
theorem d_Model_readWords_56 : decode c_Model_readWords 56 = .ok (.iload_n 2, 1) := by decide +kernel
theorem d_Model_readWords_57 : decode c_Model_readWords 57 = .ok (.goto 7, 3) := by decide +kernel
theorem d_Model_readWords_60 : decode c_Model_readWords 60 = .ok (.iload_n 2, 1) := by decide +kernel
theorem d_Model_readWords_61 : decode c_Model_readWords 61 = .ok (.bipush 12, 2) := by decide +kernel
theorem d_Model_readWords_63 : decode c_Model_readWords 63 = .ok (.isub, 1) := by decide +kernel
theorem d_Model_readWords_64 : decode c_Model_readWords 64 = .ok (.istore_n 3, 1) := by decide +kernel
theorem d_Model_readWords_65 : decode c_Model_readWords 65 = .ok (.aload_n 0, 1) := by decide +kernel
theorem d_Model_readWords_66 : decode c_Model_readWords 66 = .ok (.getfield 107, 3) := by decide +kernel
theorem d_Model_readWords_69 : decode c_Model_readWords 69 = .ok (.ifCond .ne 8, 3) := by decide +kernel
theorem d_Model_readWords_72 : decode c_Model_readWords 72 = .ok (.aload_n 0, 1) := by decide +kernel
theorem d_Model_readWords_73 : decode c_Model_readWords 73 = .ok (.iload_n 3, 1) := by decide +kernel
theorem d_Model_readWords_74 : decode c_Model_readWords 74 = .ok (.invokevirtual 144, 3) := by decide +kernel
theorem d_Model_readWords_77 : decode c_Model_readWords 77 = .ok (.aload_n 0, 1) := by decide +kernel
theorem d_Model_readWords_78 : decode c_Model_readWords 78 = .ok (.getfield 113, 3) := by decide +kernel
theorem d_Model_readWords_81 : decode c_Model_readWords 81 = .ok (.aload_n 0, 1) := by decide +kernel
theorem d_Model_readWords_82 : decode c_Model_readWords 82 = .ok (.getfield 110, 3) := by decide +kernel
theorem d_Model_readWords_85 : decode c_Model_readWords 85 = .ok (.if_icmp .ge 7, 3) := by decide +kernel
theorem d_Model_readWords_88 : decode c_Model_readWords 88 = .ok (.iconst 1, 1) := by decide +kernel
theorem d_Model_readWords_89 : decode c_Model_readWords 89 = .ok (.goto 4, 3) := by decide +kernel
theorem d_Model_readWords_92 : decode c_Model_readWords 92 = .ok (.iconst 0, 1) := by decide +kernel
theorem d_Model_readWords_93 : decode c_Model_readWords 93 = .ok (.istore_n 1, 1) := by decide +kernel
theorem d_Model_readWords_94 : decode c_Model_readWords 94 = .ok (.goto (-92), 3) := by decide +kernel
theorem d_Model_readWords_97 : decode c_Model_readWords 97 = .ok (.return_, 1) := by decide +kernel
theorem d_Model_readTable_0 : decode c_Model_readTable 0 = .ok (.iconst 0, 1) := by decide +kernel
theorem d_Model_readTable_1 : decode c_Model_readTable 1 = .ok (.istore_n 2, 1) := by decide +kernel
theorem d_Model_readTable_2 : decode c_Model_readTable 2 = .ok (.lconst 0, 1) := by decide +kernel
theorem d_Model_readTable_3 : decode c_Model_readTable 3 = .ok (.lstore_n 3, 1) := by decide +kernel
theorem d_Model_readTable_4 : decode c_Model_readTable 4 = .ok (.iconst 1, 1) := by decide +kernel
theorem d_Model_readTable_5 : decode c_Model_readTable 5 = .ok (.istore 5, 2) := by decide +kernel
theorem d_Model_readTable_7 : decode c_Model_readTable 7 = .ok (.iload 5, 2) := by decide +kernel
theorem d_Model_readTable_9 : decode c_Model_readTable 9 = .ok (.bipush 16, 2) := by decide +kernel
theorem d_Model_readTable_11 : decode c_Model_readTable 11 = .ok (.if_icmp .gt 117, 3) := by decide +kernel
theorem d_Model_readTable_14 : decode c_Model_readTable 14 = .ok (.aload_n 0, 1) := by decide +kernel
theorem d_Model_readTable_15 : decode c_Model_readTable 15 = .ok (.getfield 107, 3) := by decide +kernel
theorem d_Model_readTable_18 : decode c_Model_readTable 18 = .ok (.ifCond .ne 110, 3) := by decide +kernel
theorem d_Model_readTable_21 : decode c_Model_readTable 21 = .ok (.aload_n 0, 1) := by decide +kernel
theorem d_Model_readTable_22 : decode c_Model_readTable 22 = .ok (.invokevirtual 128, 3) := by decide +kernel
theorem d_Model_readTable_25 : decode c_Model_readTable 25 = .ok (.istore 6, 2) := by decide +kernel
theorem d_Model_readTable_27 : decode c_Model_readTable 27 = .ok (.aload_n 0, 1) := by decide +kernel
theorem d_Model_readTable_28 : decode c_Model_readTable 28 = .ok (.getfield 43, 3) := by decide +kernel
theorem d_Model_readTable_31 : decode c_Model_readTable 31 = .ok (.bipush 17, 2) := by decide +kernel
theorem d_Model_readTable_33 : decode c_Model_readTable 33 = .ok (.iload_n 1, 1) := by decide +kernel
theorem d_Model_readTable_34 : decode c_Model_readTable 34 = .ok (.imul, 1) := by decide +kernel
theorem d_Model_readTable_35 : decode c_Model_readTable 35 = .ok (.iload 5, 2) := by decide +kernel
theorem d_Model_readTable_37 : decode c_Model_readTable 37 = .ok (.iadd, 1) := by decide +kernel
theorem d_Model_readTable_38 : decode c_Model_readTable 38 = .ok (.iload 6, 2) := by decide +kernel
theorem d_Model_readTable_40 : decode c_Model_readTable 40 = .ok (.iastore, 1) := by decide +kernel
theorem d_Model_readTable_41 : decode c_Model_readTable 41 = .ok (.iload_n 2, 1) := by decide +kernel
theorem d_Model_readTable_42 : decode c_Model_readTable 42 = .ok (.iload 6, 2) := by decide +kernel
theorem d_Model_readTable_44 : decode c_Model_readTable 44 = .ok (.iadd, 1) := by decide +kernel
theorem d_Model_readTable_45 : decode c_Model_readTable 45 = .ok (.istore_n 2, 1) := by decide +kernel
theorem d_Model_readTable_46 : decode c_Model_readTable 46 = .ok (.ldc2_w 148, 3) := by decide +kernel
theorem d_Model_readTable_49 : decode c_Model_readTable 49 = .ok (.lload_n 3, 1) := by decide +kernel
theorem d_Model_readTable_50 : decode c_Model_readTable 50 = .ok (.lmul, 1) := by decide +kernel
theorem d_Model_readTable_51 : decode c_Model_readTable 51 = .ok (.iload 6, 2) := by decide +kernel
theorem d_Model_readTable_53 : decode c_Model_readTable 53 = .ok (.i2l, 1) := by decide +kernel
theorem d_Model_readTable_54 : decode c_Model_readTable 54 = .ok (.ladd, 1) := by decide +kernel
theorem d_Model_readTable_55 : decode c_Model_readTable 55 = .ok (.lstore_n 3, 1) := by decide +kernel
theorem d_Model_readTable_56 : decode c_Model_readTable 56 = .ok (.aload_n 0, 1) := by decide +kernel
theorem d_Model_readTable_57 : decode c_Model_readTable 57 = .ok (.aload_n 0, 1) := by decide +kernel
theorem d_Model_readTable_58 : decode c_Model_readTable 58 = .ok (.getfield 107, 3) := by decide +kernel
theorem d_Model_readTable_61 : decode c_Model_readTable 61 = .ok (.ifCond .gt 26, 3) := by decide +kernel
theorem d_Model_readTable_64 : decode c_Model_readTable 64 = .ok (.iload_n 2, 1) := by decide +kernel
theorem d_Model_readTable_65 : decode c_Model_readTable 65 = .ok (.sipush 256, 3) := by decide +kernel
theorem d_Model_readTable_68 : decode c_Model_readTable 68 = .ok (.if_icmp .gt 23, 3) := by decide +kernel
theorem d_Model_readTable_71 : decode c_Model_readTable 71 = .ok (.iload 6, 2) := by decide +kernel
theorem d_Model_readTable_73 : decode c_Model_readTable 73 = .ok (.ifCond .eq 14, 3) := by decide +kernel
theorem d_Model_readTable_76 : decode c_Model_readTable 76 = .ok (.lload_n 3, 1) := by decide +kernel
theorem d_Model_readTable_77 : decode c_Model_readTable 77 = .ok (.lconst 1, 1) := by decide +kernel
theorem d_Model_readTable_78 : decode c_Model_readTable 78 = .ok (.iload 5, 2) := by decide +kernel
theorem d_Model_readTable_80 : decode c_Model_readTable 80 = .ok (.lshl, 1) := by decide +kernel
theorem d_Model_readTable_81 : decode c_Model_readTable 81 = .ok (.lconst 1, 1) := by decide +kernel
theorem d_Model_readTable_82 : decode c_Model_readTable 82 = .ok (.lsub, 1) := by decide +kernel
theorem d_Model_readTable_83 : decode c_Model_readTable 83 = .ok (.lcmp, 1) := by decide +kernel
theorem d_Model_readTable_84 : decode c_Model_readTable 84 = .ok (.ifCond .gt 7, 3) := by decide +kernel
theorem d_Model_readTable_87 : decode c_Model_readTable 87 = .ok (.iconst 1, 1) := by decide +kernel
theorem d_Model_readTable_88 : decode c_Model_readTable 88 = .ok (.goto 4, 3) := by decide +kernel
theorem d_Model_readTable_91 : decode c_Model_readTable 91 = .ok (.iconst 0, 1) := by decide +kernel
theorem d_Model_readTable_92 : decode c_Model_readTable 92 = .ok (.invokevirtual 140, 3) := by decide +kernel
theorem d_Model_readTable_95 : decode c_Model_readTable 95 = .ok (.aload_n 0, 1) := by decide +kernel
theorem d_Model_readTable_96 : decode c_Model_readTable 96 = .ok (.aload_n 0, 1) := by decide +kernel
theorem d_Model_readTable_97 : decode c_Model_readTable 97 = .ok (.getfield 107, 3) := by decide +kernel
theorem d_Model_readTable_100 : decode c_Model_readTable 100 = .ok (.ifCond .gt 14, 3) := by decide +kernel
theorem d_Model_readTable_103 : decode c_Model_readTable 103 = .ok (.iload 5, 2) := by decide +kernel
theorem d_Model_readTable_105 : decode c_Model_readTable 105 = .ok (.bipush 16, 2) := by decide +kernel
theorem d_Model_readTable_107 : decode c_Model_readTable 107 = .ok (.if_icmp .lt 7, 3) := by decide +kernel
theorem d_Model_readTable_110 : decode c_Model_readTable 110 = .ok (.iload_n 2, 1) := by decide +kernel
theorem d_Model_readTable_111 : decode c_Model_readTable 111 = .ok (.ifCond .le 7, 3) := by decide +kernel
theorem d_Model_readTable_114 : decode c_Model_readTable 114 = .ok (.iconst 1, 1) := by decide +kernel
theorem d_Model_readTable_115 : decode c_Model_readTable 115 = .ok (.goto 4, 3) := by decide +kernel
theorem d_Model_readTable_118 : decode c_Model_readTable 118 = .ok (.iconst 0, 1) := by decide +kernel
theorem d_Model_readTable_119 : decode c_Model_readTable 119 = .ok (.invokevirtual 140, 3) := by decide +kernel
theorem d_Model_readTable_122 : decode c_Model_readTable 122 = .ok (.iinc 5 1, 3) := by decide +kernel
theorem d_Model_readTable_125 : decode c_Model_readTable 125 = .ok (.goto (-118), 3) := by decide +kernel
theorem d_Model_readTable_128 : decode c_Model_readTable 128 = .ok (.iconst 0, 1) := by decide +kernel
theorem d_Model_readTable_129 : decode c_Model_readTable 129 = .ok (.istore 5, 2) := by decide +kernel
theorem d_Model_readTable_131 : decode c_Model_readTable 131 = .ok (.iload 5, 2) := by decide +kernel
theorem d_Model_readTable_133 : decode c_Model_readTable 133 = .ok (.sipush 256, 3) := by decide +kernel
theorem d_Model_readTable_136 : decode c_Model_readTable 136 = .ok (.if_icmp .ge 17, 3) := by decide +kernel
theorem d_Model_readTable_139 : decode c_Model_readTable 139 = .ok (.aload_n 0, 1) := by decide +kernel
theorem d_Model_readTable_140 : decode c_Model_readTable 140 = .ok (.getfield 71, 3) := by decide +kernel
theorem d_Model_readTable_143 : decode c_Model_readTable 143 = .ok (.iload 5, 2) := by decide +kernel
theorem d_Model_readTable_145 : decode c_Model_readTable 145 = .ok (.iconst 0, 1) := by decide +kernel
theorem d_Model_readTable_146 : decode c_Model_readTable 146 = .ok (.bastore, 1) := by decide +kernel
theorem d_Model_readTable_147 : decode c_Model_readTable 147 = .ok (.iinc 5 1, 3) := by decide +kernel
theorem d_Model_readTable_150 : decode c_Model_readTable 150 = .ok (.goto (-19), 3) := by decide +kernel
theorem d_Model_readTable_153 : decode c_Model_readTable 153 = .ok (.iconst 0, 1) := by decide +kernel
theorem d_Model_readTable_154 : decode c_Model_readTable 154 = .ok (.istore 5, 2) := by decide +kernel
theorem d_Model_readTable_156 : decode c_Model_readTable 156 = .ok (.iload 5, 2) := by decide +kernel
theorem d_Model_readTable_158 : decode c_Model_readTable 158 = .ok (.iload_n 2, 1) := by decide +kernel
theorem d_Model_readTable_159 : decode c_Model_readTable 159 = .ok (.if_icmp .ge 83, 3) := by decide +kernel
theorem d_Model_readTable_162 : decode c_Model_readTable 162 = .ok (.aload_n 0, 1) := by decide +kernel
theorem d_Model_readTable_163 : decode c_Model_readTable 163 = .ok (.getfield 107, 3) := by decide +kernel
theorem d_Model_readTable_166 : decode c_Model_readTable 166 = .ok (.ifCond .ne 76, 3) := by decide +kernel
theorem d_Model_readTable_169 : decode c_Model_readTable 169 = .ok (.aload_n 0, 1) := by decide +kernel
theorem d_Model_readTable_170 : decode c_Model_readTable 170 = .ok (.invokevirtual 128, 3) := by decide +kernel
theorem d_Model_readTable_173 : decode c_Model_readTable 173 = .ok (.istore 6, 2) := by decide +kernel
theorem d_Model_readTable_175 : decode c_Model_readTable 175 = .ok (.aload_n 0, 1) := by decide +kernel
theorem d_Model_readTable_176 : decode c_Model_readTable 176 = .ok (.aload_n 0, 1) := by decide +kernel
theorem d_Model_readTable_177 : decode c_Model_readTable 177 = .ok (.getfield 107, 3) := by decide +kernel
theorem d_Model_readTable_180 : decode c_Model_readTable 180 = .ok (.ifCond .gt 25, 3) := by decide +kernel
theorem d_Model_readTable_183 : decode c_Model_readTable 183 = .ok (.aload_n 0, 1) := by decide +kernel
theorem d_Model_readTable_184 : decode c_Model_readTable 184 = .ok (.getfield 71, 3) := by decide +kernel
theorem d_Model_readTable_187 : decode c_Model_readTable 187 = .ok (.iload 6, 2) := by decide +kernel
theorem d_Model_readTable_189 : decode c_Model_readTable 189 = .ok (.baload, 1) := by decide +kernel
theorem d_Model_readTable_190 : decode c_Model_readTable 190 = .ok (.ifCond .ne 19, 3) := by decide +kernel
theorem d_Model_readTable_193 : decode c_Model_readTable 193 = .ok (.iload_n 1, 1) := by decide +kernel
theorem d_Model_readTable_194 : decode c_Model_readTable 194 = .ok (.iconst 3, 1) := by decide +kernel
theorem d_Model_readTable_195 : decode c_Model_readTable 195 = .ok (.if_icmp .gt 10, 3) := by decide +kernel
theorem d_Model_readTable_198 : decode c_Model_readTable 198 = .ok (.iload 6, 2) := by decide +kernel
theorem d_Model_readTable_200 : decode c_Model_readTable 200 = .ok (.bipush 12, 2) := by decide +kernel
theorem d_Model_readTable_202 : decode c_Model_readTable 202 = .ok (.if_icmp .ge 7, 3) := by decide +kernel
theorem d_Model_readTable_205 : decode c_Model_readTable 205 = .ok (.iconst 1, 1) := by decide +kernel
theorem d_Model_readTable_206 : decode c_Model_readTable 206 = .ok (.goto 4, 3) := by decide +kernel
theorem d_Model_readTable_209 : decode c_Model_readTable 209 = .ok (.iconst 0, 1) := by decide +kernel
theorem d_Model_readTable_210 : decode c_Model_readTable 210 = .ok (.invokevirtual 140, 3) := by decide +kernel
theorem d_Model_readTable_213 : decode c_Model_readTable 213 = .ok (.aload_n 0, 1) := by decide +kernel
theorem d_Model_readTable_214 : decode c_Model_readTable 214 = .ok (.getfield 71, 3) := by decide +kernel
theorem d_Model_readTable_217 : decode c_Model_readTable 217 = .ok (.iload 6, 2) := by decide +kernel
theorem d_Model_readTable_219 : decode c_Model_readTable 219 = .ok (.iconst 1, 1) := by decide +kernel
theorem d_Model_readTable_220 : decode c_Model_readTable 220 = .ok (.bastore, 1) := by decide +kernel
theorem d_Model_readTable_221 : decode c_Model_readTable 221 = .ok (.aload_n 0, 1) := by decide +kernel
theorem d_Model_readTable_222 : decode c_Model_readTable 222 = .ok (.getfield 46, 3) := by decide +kernel
theorem d_Model_readTable_225 : decode c_Model_readTable 225 = .ok (.sipush 256, 3) := by decide +kernel
theorem d_Model_readTable_228 : decode c_Model_readTable 228 = .ok (.iload_n 1, 1) := by decide +kernel
theorem d_Model_readTable_229 : decode c_Model_readTable 229 = .ok (.imul, 1) := by decide +kernel
theorem d_Model_readTable_230 : decode c_Model_readTable 230 = .ok (.iload 5, 2) := by decide +kernel
theorem d_Model_readTable_232 : decode c_Model_readTable 232 = .ok (.iadd, 1) := by decide +kernel
theorem d_Model_readTable_233 : decode c_Model_readTable 233 = .ok (.iload 6, 2) := by decide +kernel
theorem d_Model_readTable_235 : decode c_Model_readTable 235 = .ok (.iastore, 1) := by decide +kernel
theorem d_Model_readTable_236 : decode c_Model_readTable 236 = .ok (.iinc 5 1, 3) := by decide +kernel
theorem d_Model_readTable_239 : decode c_Model_readTable 239 = .ok (.goto (-83), 3) := by decide +kernel
theorem d_Model_readTable_242 : decode c_Model_readTable 242 = .ok (.aload_n 0, 1) := by decide +kernel
theorem d_Model_readTable_243 : decode c_Model_readTable 243 = .ok (.getfield 49, 3) := by decide +kernel
theorem d_Model_readTable_246 : decode c_Model_readTable 246 = .ok (.iload_n 1, 1) := by decide +kernel
theorem d_Model_readTable_247 : decode c_Model_readTable 247 = .ok (.iload_n 2, 1) := by decide +kernel
theorem d_Model_readTable_248 : decode c_Model_readTable 248 = .ok (.iastore, 1) := by decide +kernel
theorem d_Model_readTable_249 : decode c_Model_readTable 249 = .ok (.aload_n 0, 1) := by decide +kernel
theorem d_Model_readTable_250 : decode c_Model_readTable 250 = .ok (.getfield 107, 3) := by decide +kernel
theorem d_Model_readTable_253 : decode c_Model_readTable 253 = .ok (.ifCond .ne 10, 3) := by decide +kernel
theorem d_Model_readTable_256 : decode c_Model_readTable 256 = .ok (.aload_n 0, 1) := by decide +kernel
theorem d_Model_readTable_257 : decode c_Model_readTable 257 = .ok (.getfield 40, 3) := by decide +kernel
theorem d_Model_readTable_260 : decode c_Model_readTable 260 = .ok (.iload_n 1, 1) := by decide +kernel
theorem d_Model_readTable_261 : decode c_Model_readTable 261 = .ok (.iconst 1, 1) := by decide +kernel
theorem d_Model_readTable_262 : decode c_Model_readTable 262 = .ok (.bastore, 1) := by decide +kernel
theorem d_Model_readTable_263 : decode c_Model_readTable 263 = .ok (.return_, 1) := by decide +kernel
theorem d_Model_readFrame_0 : decode c_Model_readFrame 0 = .ok (.aload_n 0, 1) := by decide +kernel
theorem d_Model_readFrame_1 : decode c_Model_readFrame 1 = .ok (.aload_n 0, 1) := by decide +kernel
theorem d_Model_readFrame_2 : decode c_Model_readFrame 2 = .ok (.invokevirtual 128, 3) := by decide +kernel
theorem d_Model_readFrame_5 : decode c_Model_readFrame 5 = .ok (.bipush 8, 2) := by decide +kernel
theorem d_Model_readFrame_7 : decode c_Model_readFrame 7 = .ok (.if_icmp .eq 10, 3) := by decide +kernel
theorem d_Model_readFrame_10 : decode c_Model_readFrame 10 = .ok (.aload_n 0, 1) := by decide +kernel
theorem d_Model_readFrame_11 : decode c_Model_readFrame 11 = .ok (.getfield 107, 3) := by decide +kernel
theorem d_Model_readFrame_14 : decode c_Model_readFrame 14 = .ok (.ifCond .le 7, 3) := by decide +kernel
theorem d_Model_readFrame_17 : decode c_Model_readFrame 17 = .ok (.iconst 1, 1) := by decide +kernel
theorem d_Model_readFrame_18 : decode c_Model_readFrame 18 = .ok (.goto 4, 3) := by decide +kernel
theorem d_Model_readFrame_21 : decode c_Model_readFrame 21 = .ok (.iconst 0, 1) := by decide +kernel
theorem d_Model_readFrame_22 : decode c_Model_readFrame 22 = .ok (.invokevirtual 140, 3) := by decide +kernel
theorem d_Model_readFrame_25 : decode c_Model_readFrame 25 = .ok (.aload_n 0, 1) := by decide +kernel
theorem d_Model_readFrame_26 : decode c_Model_readFrame 26 = .ok (.aload_n 0, 1) := by decide +kernel
theorem d_Model_readFrame_27 : decode c_Model_readFrame 27 = .ok (.invokevirtual 137, 3) := by decide +kernel
theorem d_Model_readFrame_30 : decode c_Model_readFrame 30 = .ok (.putfield 92, 3) := by decide +kernel
theorem d_Model_readFrame_33 : decode c_Model_readFrame 33 = .ok (.aload_n 0, 1) := by decide +kernel
theorem d_Model_readFrame_34 : decode c_Model_readFrame 34 = .ok (.aload_n 0, 1) := by decide +kernel
theorem d_Model_readFrame_35 : decode c_Model_readFrame 35 = .ok (.getfield 107, 3) := by decide +kernel
theorem d_Model_readFrame_38 : decode c_Model_readFrame 38 = .ok (.ifCond .gt 12, 3) := by decide +kernel
theorem d_Model_readFrame_41 : decode c_Model_readFrame 41 = .ok (.aload_n 0, 1) := by decide +kernel
theorem d_Model_readFrame_42 : decode c_Model_readFrame 42 = .ok (.getfield 92, 3) := by decide +kernel
theorem d_Model_readFrame_45 : decode c_Model_readFrame 45 = .ok (.bipush 64, 2) := by decide +kernel
theorem d_Model_readFrame_47 : decode c_Model_readFrame 47 = .ok (.if_icmp .gt 7, 3) := by decide +kernel
theorem d_Model_readFrame_50 : decode c_Model_readFrame 50 = .ok (.iconst 1, 1) := by decide +kernel
theorem d_Model_readFrame_51 : decode c_Model_readFrame 51 = .ok (.goto 4, 3) := by decide +kernel
theorem d_Model_readFrame_54 : decode c_Model_readFrame 54 = .ok (.iconst 0, 1) := by decide +kernel
theorem d_Model_readFrame_55 : decode c_Model_readFrame 55 = .ok (.invokevirtual 140, 3) := by decide +kernel
theorem d_Model_readFrame_58 : decode c_Model_readFrame 58 = .ok (.aload_n 0, 1) := by decide +kernel
theorem d_Model_readFrame_59 : decode c_Model_readFrame 59 = .ok (.aload_n 0, 1) := by decide +kernel
theorem d_Model_readFrame_60 : decode c_Model_readFrame 60 = .ok (.invokevirtual 137, 3) := by decide +kernel
theorem d_Model_readFrame_63 : decode c_Model_readFrame 63 = .ok (.putfield 89, 3) := by decide +kernel
theorem d_Model_readFrame_66 : decode c_Model_readFrame 66 = .ok (.aload_n 0, 1) := by decide +kernel
theorem d_Model_readFrame_67 : decode c_Model_readFrame 67 = .ok (.aload_n 0, 1) := by decide +kernel
theorem d_Model_readFrame_68 : decode c_Model_readFrame 68 = .ok (.getfield 107, 3) := by decide +kernel
theorem d_Model_readFrame_71 : decode c_Model_readFrame 71 = .ok (.ifCond .gt 19, 3) := by decide +kernel
theorem d_Model_readFrame_74 : decode c_Model_readFrame 74 = .ok (.aload_n 0, 1) := by decide +kernel
theorem d_Model_readFrame_75 : decode c_Model_readFrame 75 = .ok (.getfield 89, 3) := by decide +kernel
theorem d_Model_readFrame_78 : decode c_Model_readFrame 78 = .ok (.ifCond .le 16, 3) := by decide +kernel
theorem d_Model_readFrame_81 : decode c_Model_readFrame 81 = .ok (.aload_n 0, 1) := by decide +kernel
theorem d_Model_readFrame_82 : decode c_Model_readFrame 82 = .ok (.getfield 89, 3) := by decide +kernel
theorem d_Model_readFrame_85 : decode c_Model_readFrame 85 = .ok (.bipush 64, 2) := by decide +kernel
theorem d_Model_readFrame_87 : decode c_Model_readFrame 87 = .ok (.if_icmp .gt 7, 3) := by decide +kernel
theorem d_Model_readFrame_90 : decode c_Model_readFrame 90 = .ok (.iconst 1, 1) := by decide +kernel
theorem d_Model_readFrame_91 : decode c_Model_readFrame 91 = .ok (.goto 4, 3) := by decide +kernel
theorem d_Model_readFrame_94 : decode c_Model_readFrame 94 = .ok (.iconst 0, 1) := by decide +kernel
theorem d_Model_readFrame_95 : decode c_Model_readFrame 95 = .ok (.invokevirtual 140, 3) := by decide +kernel
theorem d_Model_readFrame_98 : decode c_Model_readFrame 98 = .ok (.aload_n 0, 1) := by decide +kernel
theorem d_Model_readFrame_99 : decode c_Model_readFrame 99 = .ok (.invokevirtual 128, 3) := by decide +kernel
theorem d_Model_readFrame_102 : decode c_Model_readFrame 102 = .ok (.istore_n 2, 1) := by decide +kernel
theorem d_Model_readFrame_103 : decode c_Model_readFrame 103 = .ok (.aload_n 0, 1) := by decide +kernel
theorem d_Model_readFrame_104 : decode c_Model_readFrame 104 = .ok (.aload_n 0, 1) := by decide +kernel
theorem d_Model_readFrame_105 : decode c_Model_readFrame 105 = .ok (.getfield 107, 3) := by decide +kernel
theorem d_Model_readFrame_108 : decode c_Model_readFrame 108 = .ok (.ifCond .gt 12, 3) := by decide +kernel
theorem d_Model_readFrame_111 : decode c_Model_readFrame 111 = .ok (.iload_n 2, 1) := by decide +kernel
theorem d_Model_readFrame_112 : decode c_Model_readFrame 112 = .ok (.ifCond .le 12, 3) := by decide +kernel
theorem d_Model_readFrame_115 : decode c_Model_readFrame 115 = .ok (.iload_n 2, 1) := by decide +kernel
theorem d_Model_readFrame_116 : decode c_Model_readFrame 116 = .ok (.iconst 5, 1) := by decide +kernel
theorem d_Model_readFrame_117 : decode c_Model_readFrame 117 = .ok (.if_icmp .ge 7, 3) := by decide +kernel
theorem d_Model_readFrame_120 : decode c_Model_readFrame 120 = .ok (.iconst 1, 1) := by decide +kernel
theorem d_Model_readFrame_121 : decode c_Model_readFrame 121 = .ok (.goto 4, 3) := by decide +kernel
theorem d_Model_readFrame_124 : decode c_Model_readFrame 124 = .ok (.iconst 0, 1) := by decide +kernel
theorem d_Model_readFrame_125 : decode c_Model_readFrame 125 = .ok (.invokevirtual 140, 3) := by decide +kernel
theorem d_Model_readFrame_128 : decode c_Model_readFrame 128 = .ok (.iconst 0, 1) := by decide +kernel
theorem d_Model_readFrame_129 : decode c_Model_readFrame 129 = .ok (.istore_n 3, 1) := by decide +kernel
theorem d_Model_readFrame_130 : decode c_Model_readFrame 130 = .ok (.iload_n 3, 1) := by decide +kernel
theorem d_Model_readFrame_131 : decode c_Model_readFrame 131 = .ok (.iload_n 2, 1) := by decide +kernel
theorem d_Model_readFrame_132 : decode c_Model_readFrame 132 = .ok (.if_icmp .ge 213, 3) := by decide +kernel
theorem d_Model_readFrame_135 : decode c_Model_readFrame 135 = .ok (.aload_n 0, 1) := by decide +kernel
theorem d_Model_readFrame_136 : decode c_Model_readFrame 136 = .ok (.getfield 107, 3) := by decide +kernel
theorem d_Model_readFrame_139 : decode c_Model_readFrame 139 = .ok (.ifCond .ne 206, 3) := by decide +kernel
theorem d_Model_readFrame_142 : decode c_Model_readFrame 142 = .ok (.aload_n 0, 1) := by decide +kernel
theorem d_Model_readFrame_143 : decode c_Model_readFrame 143 = .ok (.getfield 21, 3) := by decide +kernel
theorem d_Model_readFrame_146 : decode c_Model_readFrame 146 = .ok (.iload_n 3, 1) := by decide +kernel
theorem d_Model_readFrame_147 : decode c_Model_readFrame 147 = .ok (.aload_n 0, 1) := by decide +kernel
theorem d_Model_readFrame_148 : decode c_Model_readFrame 148 = .ok (.invokevirtual 128, 3) := by decide +kernel
theorem d_Model_readFrame_151 : decode c_Model_readFrame 151 = .ok (.iastore, 1) := by decide +kernel
theorem d_Model_readFrame_152 : decode c_Model_readFrame 152 = .ok (.iconst 0, 1) := by decide +kernel
theorem d_Model_readFrame_153 : decode c_Model_readFrame 153 = .ok (.istore 4, 2) := by decide +kernel
theorem d_Model_readFrame_155 : decode c_Model_readFrame 155 = .ok (.iconst 0, 1) := by decide +kernel
theorem d_Model_readFrame_156 : decode c_Model_readFrame 156 = .ok (.istore 5, 2) := by decide +kernel
theorem d_Model_readFrame_158 : decode c_Model_readFrame 158 = .ok (.iload 5, 2) := by decide +kernel
theorem d_Model_readFrame_160 : decode c_Model_readFrame 160 = .ok (.iload_n 3, 1) := by decide +kernel
theorem d_Model_readFrame_161 : decode c_Model_readFrame 161 = .ok (.if_icmp .ge 37, 3) := by decide +kernel
theorem d_Model_readFrame_164 : decode c_Model_readFrame 164 = .ok (.iload 4, 2) := by decide +kernel
theorem d_Model_readFrame_166 : decode c_Model_readFrame 166 = .ok (.ifCond .ne 19, 3) := by decide +kernel
theorem d_Model_readFrame_169 : decode c_Model_readFrame 169 = .ok (.aload_n 0, 1) := by decide +kernel
theorem d_Model_readFrame_170 : decode c_Model_readFrame 170 = .ok (.getfield 21, 3) := by decide +kernel
theorem d_Model_readFrame_173 : decode c_Model_readFrame 173 = .ok (.iload 5, 2) := by decide +kernel
theorem d_Model_readFrame_175 : decode c_Model_readFrame 175 = .ok (.iaload, 1) := by decide +kernel
theorem d_Model_readFrame_176 : decode c_Model_readFrame 176 = .ok (.aload_n 0, 1) := by decide +kernel
theorem d_Model_readFrame_177 : decode c_Model_readFrame 177 = .ok (.getfield 21, 3) := by decide +kernel
theorem d_Model_readFrame_180 : decode c_Model_readFrame 180 = .ok (.iload_n 3, 1) := by decide +kernel
theorem d_Model_readFrame_181 : decode c_Model_readFrame 181 = .ok (.iaload, 1) := by decide +kernel
theorem d_Model_readFrame_182 : decode c_Model_readFrame 182 = .ok (.if_icmp .ne 7, 3) := by decide +kernel
theorem d_Model_readFrame_185 : decode c_Model_readFrame 185 = .ok (.iconst 1, 1) := by decide +kernel
theorem d_Model_readFrame_186 : decode c_Model_readFrame 186 = .ok (.goto 4, 3) := by decide +kernel
theorem d_Model_readFrame_189 : decode c_Model_readFrame 189 = .ok (.iconst 0, 1) := by decide +kernel
theorem d_Model_readFrame_190 : decode c_Model_readFrame 190 = .ok (.istore 4, 2) := by decide +kernel
theorem d_Model_readFrame_192 : decode c_Model_readFrame 192 = .ok (.iinc 5 1, 3) := by decide +kernel
theorem d_Model_readFrame_195 : decode c_Model_readFrame 195 = .ok (.goto (-37), 3) := by decide +kernel
theorem d_Model_readFrame_198 : decode c_Model_readFrame 198 = .ok (.aload_n 0, 1) := by decide +kernel
theorem d_Model_readFrame_199 : decode c_Model_readFrame 199 = .ok (.aload_n 0, 1) := by decide +kernel
theorem d_Model_readFrame_200 : decode c_Model_readFrame 200 = .ok (.getfield 107, 3) := by decide +kernel
theorem d_Model_readFrame_203 : decode c_Model_readFrame 203 = .ok (.ifCond .gt 8, 3) := by decide +kernel
theorem d_Model_readFrame_206 : decode c_Model_readFrame 206 = .ok (.iload 4, 2) := by decide +kernel
theorem d_Model_readFrame_208 : decode c_Model_readFrame 208 = .ok (.ifCond .ne 7, 3) := by decide +kernel
theorem d_Model_readFrame_211 : decode c_Model_readFrame 211 = .ok (.iconst 1, 1) := by decide +kernel
theorem d_Model_readFrame_212 : decode c_Model_readFrame 212 = .ok (.goto 4, 3) := by decide +kernel
theorem d_Model_readFrame_215 : decode c_Model_readFrame 215 = .ok (.iconst 0, 1) := by decide +kernel
theorem d_Model_readFrame_216 : decode c_Model_readFrame 216 = .ok (.invokevirtual 140, 3) := by decide +kernel
theorem d_Model_readFrame_219 : decode c_Model_readFrame 219 = .ok (.aload_n 0, 1) := by decide +kernel
theorem d_Model_readFrame_220 : decode c_Model_readFrame 220 = .ok (.invokevirtual 128, 3) := by decide +kernel
theorem d_Model_readFrame_223 : decode c_Model_readFrame 223 = .ok (.istore 5, 2) := by decide +kernel
theorem d_Model_readFrame_225 : decode c_Model_readFrame 225 = .ok (.aload_n 0, 1) := by decide +kernel
theorem d_Model_readFrame_226 : decode c_Model_readFrame 226 = .ok (.getfield 24, 3) := by decide +kernel
theorem d_Model_readFrame_229 : decode c_Model_readFrame 229 = .ok (.iload_n 3, 1) := by decide +kernel
theorem d_Model_readFrame_230 : decode c_Model_readFrame 230 = .ok (.iload 5, 2) := by decide +kernel
theorem d_Model_readFrame_232 : decode c_Model_readFrame 232 = .ok (.bipush 16, 2) := by decide +kernel
theorem d_Model_readFrame_234 : decode c_Model_readFrame 234 = .ok (.idiv, 1) := by decide +kernel
theorem d_Model_readFrame_235 : decode c_Model_readFrame 235 = .ok (.iastore, 1) := by decide +kernel
theorem d_Model_readFrame_236 : decode c_Model_readFrame 236 = .ok (.aload_n 0, 1) := by decide +kernel
theorem d_Model_readFrame_237 : decode c_Model_readFrame 237 = .ok (.getfield 27, 3) := by decide +kernel
theorem d_Model_readFrame_240 : decode c_Model_readFrame 240 = .ok (.iload_n 3, 1) := by decide +kernel
theorem d_Model_readFrame_241 : decode c_Model_readFrame 241 = .ok (.iload 5, 2) := by decide +kernel
theorem d_Model_readFrame_243 : decode c_Model_readFrame 243 = .ok (.bipush 16, 2) := by decide +kernel
theorem d_Model_readFrame_245 : decode c_Model_readFrame 245 = .ok (.irem, 1) := by decide +kernel
theorem d_Model_readFrame_246 : decode c_Model_readFrame 246 = .ok (.iastore, 1) := by decide +kernel
theorem d_Model_readFrame_247 : decode c_Model_readFrame 247 = .ok (.aload_n 0, 1) := by decide +kernel
theorem d_Model_readFrame_248 : decode c_Model_readFrame 248 = .ok (.aload_n 0, 1) := by decide +kernel
theorem d_Model_readFrame_249 : decode c_Model_readFrame 249 = .ok (.getfield 107, 3) := by decide +kernel
theorem d_Model_readFrame_252 : decode c_Model_readFrame 252 = .ok (.ifCond .gt 43, 3) := by decide +kernel
theorem d_Model_readFrame_255 : decode c_Model_readFrame 255 = .ok (.aload_n 0, 1) := by decide +kernel
theorem d_Model_readFrame_256 : decode c_Model_readFrame 256 = .ok (.getfield 24, 3) := by decide +kernel
theorem d_Model_readFrame_259 : decode c_Model_readFrame 259 = .ok (.iload_n 3, 1) := by decide +kernel
end
section
theorem d_Model_readFrame_260 : decode c_Model_readFrame 260 = .ok (.iaload, 1) := by decide +kernel
theorem d_Model_readFrame_261 : decode c_Model_readFrame 261 = .ok (.iconst 1, 1) := by decide +kernel
theorem d_Model_readFrame_262 : decode c_Model_readFrame 262 = .ok (.if_icmp .lt 37, 3) := by decide +kernel
theorem d_Model_readFrame_265 : decode c_Model_readFrame 265 = .ok (.aload_n 0, 1) := by decide +kernel
theorem d_Model_readFrame_266 : decode c_Model_readFrame 266 = .ok (.getfield 24, 3) := by decide +kernel
theorem d_Model_readFrame_269 : decode c_Model_readFrame 269 = .ok (.iload_n 3, 1) := by decide +kernel
theorem d_Model_readFrame_270 : decode c_Model_readFrame 270 = .ok (.iaload, 1) := by decide +kernel
theorem d_Model_readFrame_271 : decode c_Model_readFrame 271 = .ok (.iconst 2, 1) := by decide +kernel
theorem d_Model_readFrame_272 : decode c_Model_readFrame 272 = .ok (.if_icmp .gt 27, 3) := by decide +kernel
theorem d_Model_readFrame_275 : decode c_Model_readFrame 275 = .ok (.aload_n 0, 1) := by decide +kernel
theorem d_Model_readFrame_276 : decode c_Model_readFrame 276 = .ok (.getfield 27, 3) := by decide +kernel
theorem d_Model_readFrame_279 : decode c_Model_readFrame 279 = .ok (.iload_n 3, 1) := by decide +kernel
theorem d_Model_readFrame_280 : decode c_Model_readFrame 280 = .ok (.iaload, 1) := by decide +kernel
theorem d_Model_readFrame_281 : decode c_Model_readFrame 281 = .ok (.iconst 1, 1) := by decide +kernel
theorem d_Model_readFrame_282 : decode c_Model_readFrame 282 = .ok (.if_icmp .lt 17, 3) := by decide +kernel
theorem d_Model_readFrame_285 : decode c_Model_readFrame 285 = .ok (.aload_n 0, 1) := by decide +kernel
theorem d_Model_readFrame_286 : decode c_Model_readFrame 286 = .ok (.getfield 27, 3) := by decide +kernel
theorem d_Model_readFrame_289 : decode c_Model_readFrame 289 = .ok (.iload_n 3, 1) := by decide +kernel
theorem d_Model_readFrame_290 : decode c_Model_readFrame 290 = .ok (.iaload, 1) := by decide +kernel
theorem d_Model_readFrame_291 : decode c_Model_readFrame 291 = .ok (.iconst 2, 1) := by decide +kernel
theorem d_Model_readFrame_292 : decode c_Model_readFrame 292 = .ok (.if_icmp .gt 7, 3) := by decide +kernel
theorem d_Model_readFrame_295 : decode c_Model_readFrame 295 = .ok (.iconst 1, 1) := by decide +kernel
theorem d_Model_readFrame_296 : decode c_Model_readFrame 296 = .ok (.goto 4, 3) := by decide +kernel
theorem d_Model_readFrame_299 : decode c_Model_readFrame 299 = .ok (.iconst 0, 1) := by decide +kernel
theorem d_Model_readFrame_300 : decode c_Model_readFrame 300 = .ok (.invokevirtual 140, 3) := by decide +kernel
theorem d_Model_readFrame_303 : decode c_Model_readFrame 303 = .ok (.aload_n 0, 1) := by decide +kernel
theorem d_Model_readFrame_304 : decode c_Model_readFrame 304 = .ok (.getfield 30, 3) := by decide +kernel
theorem d_Model_readFrame_307 : decode c_Model_readFrame 307 = .ok (.iload_n 3, 1) := by decide +kernel
theorem d_Model_readFrame_308 : decode c_Model_readFrame 308 = .ok (.aload_n 0, 1) := by decide +kernel
theorem d_Model_readFrame_309 : decode c_Model_readFrame 309 = .ok (.invokevirtual 128, 3) := by decide +kernel
theorem d_Model_readFrame_312 : decode c_Model_readFrame 312 = .ok (.iastore, 1) := by decide +kernel
theorem d_Model_readFrame_313 : decode c_Model_readFrame 313 = .ok (.aload_n 0, 1) := by decide +kernel
theorem d_Model_readFrame_314 : decode c_Model_readFrame 314 = .ok (.aload_n 0, 1) := by decide +kernel
theorem d_Model_readFrame_315 : decode c_Model_readFrame 315 = .ok (.getfield 107, 3) := by decide +kernel
theorem d_Model_readFrame_318 : decode c_Model_readFrame 318 = .ok (.ifCond .gt 13, 3) := by decide +kernel
theorem d_Model_readFrame_321 : decode c_Model_readFrame 321 = .ok (.aload_n 0, 1) := by decide +kernel
theorem d_Model_readFrame_322 : decode c_Model_readFrame 322 = .ok (.getfield 30, 3) := by decide +kernel
theorem d_Model_readFrame_325 : decode c_Model_readFrame 325 = .ok (.iload_n 3, 1) := by decide +kernel
theorem d_Model_readFrame_326 : decode c_Model_readFrame 326 = .ok (.iaload, 1) := by decide +kernel
theorem d_Model_readFrame_327 : decode c_Model_readFrame 327 = .ok (.iconst 4, 1) := by decide +kernel
theorem d_Model_readFrame_328 : decode c_Model_readFrame 328 = .ok (.if_icmp .ge 7, 3) := by decide +kernel
theorem d_Model_readFrame_331 : decode c_Model_readFrame 331 = .ok (.iconst 1, 1) := by decide +kernel
theorem d_Model_readFrame_332 : decode c_Model_readFrame 332 = .ok (.goto 4, 3) := by decide +kernel
theorem d_Model_readFrame_335 : decode c_Model_readFrame 335 = .ok (.iconst 0, 1) := by decide +kernel
theorem d_Model_readFrame_336 : decode c_Model_readFrame 336 = .ok (.invokevirtual 140, 3) := by decide +kernel
theorem d_Model_readFrame_339 : decode c_Model_readFrame 339 = .ok (.iinc 3 1, 3) := by decide +kernel
theorem d_Model_readFrame_342 : decode c_Model_readFrame 342 = .ok (.goto (-212), 3) := by decide +kernel
theorem d_Model_readFrame_345 : decode c_Model_readFrame 345 = .ok (.aload_n 0, 1) := by decide +kernel
theorem d_Model_readFrame_346 : decode c_Model_readFrame 346 = .ok (.iload_n 2, 1) := by decide +kernel
theorem d_Model_readFrame_347 : decode c_Model_readFrame 347 = .ok (.putfield 95, 3) := by decide +kernel
theorem d_Model_readFrame_350 : decode c_Model_readFrame 350 = .ok (.aload_n 0, 1) := by decide +kernel
theorem d_Model_readFrame_351 : decode c_Model_readFrame 351 = .ok (.iload_n 1, 1) := by decide +kernel
theorem d_Model_readFrame_352 : decode c_Model_readFrame 352 = .ok (.putfield 86, 3) := by decide +kernel
theorem d_Model_readFrame_355 : decode c_Model_readFrame 355 = .ok (.return_, 1) := by decide +kernel
theorem d_Model_readScan_0 : decode c_Model_readScan 0 = .ok (.aload_n 0, 1) := by decide +kernel
theorem d_Model_readScan_1 : decode c_Model_readScan 1 = .ok (.aload_n 0, 1) := by decide +kernel
theorem d_Model_readScan_2 : decode c_Model_readScan 2 = .ok (.invokevirtual 128, 3) := by decide +kernel
theorem d_Model_readScan_5 : decode c_Model_readScan 5 = .ok (.putfield 150, 3) := by decide +kernel
theorem d_Model_readScan_8 : decode c_Model_readScan 8 = .ok (.aload_n 0, 1) := by decide +kernel
theorem d_Model_readScan_9 : decode c_Model_readScan 9 = .ok (.aload_n 0, 1) := by decide +kernel
theorem d_Model_readScan_10 : decode c_Model_readScan 10 = .ok (.getfield 107, 3) := by decide +kernel
theorem d_Model_readScan_13 : decode c_Model_readScan 13 = .ok (.ifCond .gt 18, 3) := by decide +kernel
theorem d_Model_readScan_16 : decode c_Model_readScan 16 = .ok (.aload_n 0, 1) := by decide +kernel
theorem d_Model_readScan_17 : decode c_Model_readScan 17 = .ok (.getfield 150, 3) := by decide +kernel
theorem d_Model_readScan_20 : decode c_Model_readScan 20 = .ok (.ifCond .le 15, 3) := by decide +kernel
theorem d_Model_readScan_23 : decode c_Model_readScan 23 = .ok (.aload_n 0, 1) := by decide +kernel
theorem d_Model_readScan_24 : decode c_Model_readScan 24 = .ok (.getfield 150, 3) := by decide +kernel
theorem d_Model_readScan_27 : decode c_Model_readScan 27 = .ok (.iconst 5, 1) := by decide +kernel
theorem d_Model_readScan_28 : decode c_Model_readScan 28 = .ok (.if_icmp .ge 7, 3) := by decide +kernel
theorem d_Model_readScan_31 : decode c_Model_readScan 31 = .ok (.iconst 1, 1) := by decide +kernel
theorem d_Model_readScan_32 : decode c_Model_readScan 32 = .ok (.goto 4, 3) := by decide +kernel
theorem d_Model_readScan_35 : decode c_Model_readScan 35 = .ok (.iconst 0, 1) := by decide +kernel
theorem d_Model_readScan_36 : decode c_Model_readScan 36 = .ok (.invokevirtual 140, 3) := by decide +kernel
theorem d_Model_readScan_39 : decode c_Model_readScan 39 = .ok (.iconst 0, 1) := by decide +kernel
theorem d_Model_readScan_40 : decode c_Model_readScan 40 = .ok (.istore_n 1, 1) := by decide +kernel
theorem d_Model_readScan_41 : decode c_Model_readScan 41 = .ok (.iconst (-1), 1) := by decide +kernel
theorem d_Model_readScan_42 : decode c_Model_readScan 42 = .ok (.istore_n 2, 1) := by decide +kernel
theorem d_Model_readScan_43 : decode c_Model_readScan 43 = .ok (.iconst 0, 1) := by decide +kernel
theorem d_Model_readScan_44 : decode c_Model_readScan 44 = .ok (.istore_n 3, 1) := by decide +kernel
theorem d_Model_readScan_45 : decode c_Model_readScan 45 = .ok (.iload_n 3, 1) := by decide +kernel
theorem d_Model_readScan_46 : decode c_Model_readScan 46 = .ok (.aload_n 0, 1) := by decide +kernel
theorem d_Model_readScan_47 : decode c_Model_readScan 47 = .ok (.getfield 150, 3) := by decide +kernel
theorem d_Model_readScan_50 : decode c_Model_readScan 50 = .ok (.if_icmp .ge 186, 3) := by decide +kernel
theorem d_Model_readScan_53 : decode c_Model_readScan 53 = .ok (.aload_n 0, 1) := by decide +kernel
theorem d_Model_readScan_54 : decode c_Model_readScan 54 = .ok (.getfield 107, 3) := by decide +kernel
theorem d_Model_readScan_57 : decode c_Model_readScan 57 = .ok (.ifCond .ne 179, 3) := by decide +kernel
theorem d_Model_readScan_60 : decode c_Model_readScan 60 = .ok (.aload_n 0, 1) := by decide +kernel
theorem d_Model_readScan_61 : decode c_Model_readScan 61 = .ok (.getfield 68, 3) := by decide +kernel
theorem d_Model_readScan_64 : decode c_Model_readScan 64 = .ok (.iload_n 3, 1) := by decide +kernel
theorem d_Model_readScan_65 : decode c_Model_readScan 65 = .ok (.aload_n 0, 1) := by decide +kernel
theorem d_Model_readScan_66 : decode c_Model_readScan 66 = .ok (.getfield 113, 3) := by decide +kernel
theorem d_Model_readScan_69 : decode c_Model_readScan 69 = .ok (.iastore, 1) := by decide +kernel
theorem d_Model_readScan_70 : decode c_Model_readScan 70 = .ok (.aload_n 0, 1) := by decide +kernel
theorem d_Model_readScan_71 : decode c_Model_readScan 71 = .ok (.aload_n 0, 1) := by decide +kernel
theorem d_Model_readScan_72 : decode c_Model_readScan 72 = .ok (.invokevirtual 128, 3) := by decide +kernel
theorem d_Model_readScan_75 : decode c_Model_readScan 75 = .ok (.invokevirtual 153, 3) := by decide +kernel
theorem d_Model_readScan_78 : decode c_Model_readScan 78 = .ok (.istore 4, 2) := by decide +kernel
theorem d_Model_readScan_80 : decode c_Model_readScan 80 = .ok (.aload_n 0, 1) := by decide +kernel
theorem d_Model_readScan_81 : decode c_Model_readScan 81 = .ok (.getfield 107, 3) := by decide +kernel
theorem d_Model_readScan_84 : decode c_Model_readScan 84 = .ok (.ifCond .ne 23, 3) := by decide +kernel
theorem d_Model_readScan_87 : decode c_Model_readScan 87 = .ok (.iload 4, 2) := by decide +kernel
theorem d_Model_readScan_89 : decode c_Model_readScan 89 = .ok (.iload_n 2, 1) := by decide +kernel
theorem d_Model_readScan_90 : decode c_Model_readScan 90 = .ok (.if_icmp .gt 17, 3) := by decide +kernel
theorem d_Model_readScan_93 : decode c_Model_readScan 93 = .ok (.aload_n 0, 1) := by decide +kernel
theorem d_Model_readScan_94 : decode c_Model_readScan 94 = .ok (.bipush 7, 2) := by decide +kernel
theorem d_Model_readScan_96 : decode c_Model_readScan 96 = .ok (.aload_n 0, 1) := by decide +kernel
theorem d_Model_readScan_97 : decode c_Model_readScan 97 = .ok (.getfield 68, 3) := by decide +kernel
theorem d_Model_readScan_100 : decode c_Model_readScan 100 = .ok (.iload_n 3, 1) := by decide +kernel
theorem d_Model_readScan_101 : decode c_Model_readScan 101 = .ok (.iaload, 1) := by decide +kernel
theorem d_Model_readScan_102 : decode c_Model_readScan 102 = .ok (.invokevirtual 120, 3) := by decide +kernel
theorem d_Model_readScan_105 : decode c_Model_readScan 105 = .ok (.istore 5, 2) := by decide +kernel
theorem d_Model_readScan_107 : decode c_Model_readScan 107 = .ok (.aload_n 0, 1) := by decide +kernel
theorem d_Model_readScan_108 : decode c_Model_readScan 108 = .ok (.getfield 107, 3) := by decide +kernel
theorem d_Model_readScan_111 : decode c_Model_readScan 111 = .ok (.ifCond .ne 55, 3) := by decide +kernel
theorem d_Model_readScan_114 : decode c_Model_readScan 114 = .ok (.aload_n 0, 1) := by decide +kernel
theorem d_Model_readScan_115 : decode c_Model_readScan 115 = .ok (.getfield 59, 3) := by decide +kernel
theorem d_Model_readScan_118 : decode c_Model_readScan 118 = .ok (.iload_n 3, 1) := by decide +kernel
theorem d_Model_readScan_119 : decode c_Model_readScan 119 = .ok (.iload 4, 2) := by decide +kernel
theorem d_Model_readScan_121 : decode c_Model_readScan 121 = .ok (.iastore, 1) := by decide +kernel
theorem d_Model_readScan_122 : decode c_Model_readScan 122 = .ok (.iload 4, 2) := by decide +kernel
theorem d_Model_readScan_124 : decode c_Model_readScan 124 = .ok (.istore_n 2, 1) := by decide +kernel
theorem d_Model_readScan_125 : decode c_Model_readScan 125 = .ok (.iload_n 1, 1) := by decide +kernel
theorem d_Model_readScan_126 : decode c_Model_readScan 126 = .ok (.aload_n 0, 1) := by decide +kernel
theorem d_Model_readScan_127 : decode c_Model_readScan 127 = .ok (.getfield 24, 3) := by decide +kernel
theorem d_Model_readScan_130 : decode c_Model_readScan 130 = .ok (.iload 4, 2) := by decide +kernel
theorem d_Model_readScan_132 : decode c_Model_readScan 132 = .ok (.iaload, 1) := by decide +kernel
theorem d_Model_readScan_133 : decode c_Model_readScan 133 = .ok (.aload_n 0, 1) := by decide +kernel
theorem d_Model_readScan_134 : decode c_Model_readScan 134 = .ok (.getfield 27, 3) := by decide +kernel
theorem d_Model_readScan_137 : decode c_Model_readScan 137 = .ok (.iload 4, 2) := by decide +kernel
theorem d_Model_readScan_139 : decode c_Model_readScan 139 = .ok (.iaload, 1) := by decide +kernel
theorem d_Model_readScan_140 : decode c_Model_readScan 140 = .ok (.imul, 1) := by decide +kernel
theorem d_Model_readScan_141 : decode c_Model_readScan 141 = .ok (.iadd, 1) := by decide +kernel
theorem d_Model_readScan_142 : decode c_Model_readScan 142 = .ok (.istore_n 1, 1) := by decide +kernel
theorem d_Model_readScan_143 : decode c_Model_readScan 143 = .ok (.aload_n 0, 1) := by decide +kernel
theorem d_Model_readScan_144 : decode c_Model_readScan 144 = .ok (.aload_n 0, 1) := by decide +kernel
theorem d_Model_readScan_145 : decode c_Model_readScan 145 = .ok (.getfield 150, 3) := by decide +kernel
theorem d_Model_readScan_148 : decode c_Model_readScan 148 = .ok (.iconst 1, 1) := by decide +kernel
theorem d_Model_readScan_149 : decode c_Model_readScan 149 = .ok (.if_icmp .eq 9, 3) := by decide +kernel
theorem d_Model_readScan_152 : decode c_Model_readScan 152 = .ok (.iload_n 1, 1) := by decide +kernel
theorem d_Model_readScan_153 : decode c_Model_readScan 153 = .ok (.bipush 10, 2) := by decide +kernel
theorem d_Model_readScan_155 : decode c_Model_readScan 155 = .ok (.if_icmp .gt 7, 3) := by decide +kernel
theorem d_Model_readScan_158 : decode c_Model_readScan 158 = .ok (.iconst 1, 1) := by decide +kernel
theorem d_Model_readScan_159 : decode c_Model_readScan 159 = .ok (.goto 4, 3) := by decide +kernel
theorem d_Model_readScan_162 : decode c_Model_readScan 162 = .ok (.iconst 0, 1) := by decide +kernel
theorem d_Model_readScan_163 : decode c_Model_readScan 163 = .ok (.invokevirtual 140, 3) := by decide +kernel
theorem d_Model_readScan_166 : decode c_Model_readScan 166 = .ok (.aload_n 0, 1) := by decide +kernel
theorem d_Model_readScan_167 : decode c_Model_readScan 167 = .ok (.invokevirtual 128, 3) := by decide +kernel
theorem d_Model_readScan_170 : decode c_Model_readScan 170 = .ok (.istore 5, 2) := by decide +kernel
theorem d_Model_readScan_172 : decode c_Model_readScan 172 = .ok (.aload_n 0, 1) := by decide +kernel
theorem d_Model_readScan_173 : decode c_Model_readScan 173 = .ok (.getfield 62, 3) := by decide +kernel
theorem d_Model_readScan_176 : decode c_Model_readScan 176 = .ok (.iload_n 3, 1) := by decide +kernel
theorem d_Model_readScan_177 : decode c_Model_readScan 177 = .ok (.iload 5, 2) := by decide +kernel
theorem d_Model_readScan_179 : decode c_Model_readScan 179 = .ok (.bipush 16, 2) := by decide +kernel
theorem d_Model_readScan_181 : decode c_Model_readScan 181 = .ok (.idiv, 1) := by decide +kernel
theorem d_Model_readScan_182 : decode c_Model_readScan 182 = .ok (.iastore, 1) := by decide +kernel
theorem d_Model_readScan_183 : decode c_Model_readScan 183 = .ok (.aload_n 0, 1) := by decide +kernel
theorem d_Model_readScan_184 : decode c_Model_readScan 184 = .ok (.getfield 65, 3) := by decide +kernel
theorem d_Model_readScan_187 : decode c_Model_readScan 187 = .ok (.iload_n 3, 1) := by decide +kernel
theorem d_Model_readScan_188 : decode c_Model_readScan 188 = .ok (.iload 5, 2) := by decide +kernel
theorem d_Model_readScan_190 : decode c_Model_readScan 190 = .ok (.bipush 16, 2) := by decide +kernel
theorem d_Model_readScan_192 : decode c_Model_readScan 192 = .ok (.irem, 1) := by decide +kernel
theorem d_Model_readScan_193 : decode c_Model_readScan 193 = .ok (.iastore, 1) := by decide +kernel
theorem d_Model_readScan_194 : decode c_Model_readScan 194 = .ok (.aload_n 0, 1) := by decide +kernel
theorem d_Model_readScan_195 : decode c_Model_readScan 195 = .ok (.aload_n 0, 1) := by decide +kernel
theorem d_Model_readScan_196 : decode c_Model_readScan 196 = .ok (.getfield 107, 3) := by decide +kernel
theorem d_Model_readScan_199 : decode c_Model_readScan 199 = .ok (.ifCond .gt 23, 3) := by decide +kernel
theorem d_Model_readScan_202 : decode c_Model_readScan 202 = .ok (.aload_n 0, 1) := by decide +kernel
theorem d_Model_readScan_203 : decode c_Model_readScan 203 = .ok (.getfield 62, 3) := by decide +kernel
theorem d_Model_readScan_206 : decode c_Model_readScan 206 = .ok (.iload_n 3, 1) := by decide +kernel
theorem d_Model_readScan_207 : decode c_Model_readScan 207 = .ok (.iaload, 1) := by decide +kernel
theorem d_Model_readScan_208 : decode c_Model_readScan 208 = .ok (.iconst 4, 1) := by decide +kernel
theorem d_Model_readScan_209 : decode c_Model_readScan 209 = .ok (.if_icmp .ge 17, 3) := by decide +kernel
theorem d_Model_readScan_212 : decode c_Model_readScan 212 = .ok (.aload_n 0, 1) := by decide +kernel
theorem d_Model_readScan_213 : decode c_Model_readScan 213 = .ok (.getfield 65, 3) := by decide +kernel
theorem d_Model_readScan_216 : decode c_Model_readScan 216 = .ok (.iload_n 3, 1) := by decide +kernel
theorem d_Model_readScan_217 : decode c_Model_readScan 217 = .ok (.iaload, 1) := by decide +kernel
theorem d_Model_readScan_218 : decode c_Model_readScan 218 = .ok (.iconst 4, 1) := by decide +kernel
theorem d_Model_readScan_219 : decode c_Model_readScan 219 = .ok (.if_icmp .ge 7, 3) := by decide +kernel
theorem d_Model_readScan_222 : decode c_Model_readScan 222 = .ok (.iconst 1, 1) := by decide +kernel
theorem d_Model_readScan_223 : decode c_Model_readScan 223 = .ok (.goto 4, 3) := by decide +kernel
theorem d_Model_readScan_226 : decode c_Model_readScan 226 = .ok (.iconst 0, 1) := by decide +kernel
theorem d_Model_readScan_227 : decode c_Model_readScan 227 = .ok (.invokevirtual 140, 3) := by decide +kernel
theorem d_Model_readScan_230 : decode c_Model_readScan 230 = .ok (.iinc 3 1, 3) := by decide +kernel
theorem d_Model_readScan_233 : decode c_Model_readScan 233 = .ok (.goto (-188), 3) := by decide +kernel
theorem d_Model_readScan_236 : decode c_Model_readScan 236 = .ok (.aload_n 0, 1) := by decide +kernel
theorem d_Model_readScan_237 : decode c_Model_readScan 237 = .ok (.getfield 86, 3) := by decide +kernel
theorem d_Model_readScan_240 : decode c_Model_readScan 240 = .ok (.sipush 194, 3) := by decide +kernel
theorem d_Model_readScan_243 : decode c_Model_readScan 243 = .ok (.if_icmp .ne 7, 3) := by decide +kernel
theorem d_Model_readScan_246 : decode c_Model_readScan 246 = .ok (.iconst 1, 1) := by decide +kernel
theorem d_Model_readScan_247 : decode c_Model_readScan 247 = .ok (.goto 4, 3) := by decide +kernel
theorem d_Model_readScan_250 : decode c_Model_readScan 250 = .ok (.iconst 0, 1) := by decide +kernel
theorem d_Model_readScan_251 : decode c_Model_readScan 251 = .ok (.istore_n 3, 1) := by decide +kernel
theorem d_Model_readScan_252 : decode c_Model_readScan 252 = .ok (.aload_n 0, 1) := by decide +kernel
theorem d_Model_readScan_253 : decode c_Model_readScan 253 = .ok (.aload_n 0, 1) := by decide +kernel
theorem d_Model_readScan_254 : decode c_Model_readScan 254 = .ok (.invokevirtual 128, 3) := by decide +kernel
theorem d_Model_readScan_257 : decode c_Model_readScan 257 = .ok (.putfield 156, 3) := by decide +kernel
theorem d_Model_readScan_260 : decode c_Model_readScan 260 = .ok (.aload_n 0, 1) := by decide +kernel
theorem d_Model_readScan_261 : decode c_Model_readScan 261 = .ok (.aload_n 0, 1) := by decide +kernel
theorem d_Model_readScan_262 : decode c_Model_readScan 262 = .ok (.getfield 107, 3) := by decide +kernel
theorem d_Model_readScan_265 : decode c_Model_readScan 265 = .ok (.ifCond .gt 41, 3) := by decide +kernel
theorem d_Model_readScan_268 : decode c_Model_readScan 268 = .ok (.iload_n 3, 1) := by decide +kernel
theorem d_Model_readScan_269 : decode c_Model_readScan 269 = .ok (.ifCond .eq 30, 3) := by decide +kernel
theorem d_Model_readScan_272 : decode c_Model_readScan 272 = .ok (.aload_n 0, 1) := by decide +kernel
theorem d_Model_readScan_273 : decode c_Model_readScan 273 = .ok (.getfield 156, 3) := by decide +kernel
theorem d_Model_readScan_276 : decode c_Model_readScan 276 = .ok (.bipush 64, 2) := by decide +kernel
theorem d_Model_readScan_278 : decode c_Model_readScan 278 = .ok (.if_icmp .ge 32, 3) := by decide +kernel
theorem d_Model_readScan_281 : decode c_Model_readScan 281 = .ok (.aload_n 0, 1) := by decide +kernel
theorem d_Model_readScan_282 : decode c_Model_readScan 282 = .ok (.getfield 156, 3) := by decide +kernel
theorem d_Model_readScan_285 : decode c_Model_readScan 285 = .ok (.ifCond .eq 21, 3) := by decide +kernel
theorem d_Model_readScan_288 : decode c_Model_readScan 288 = .ok (.aload_n 0, 1) := by decide +kernel
theorem d_Model_readScan_289 : decode c_Model_readScan 289 = .ok (.getfield 150, 3) := by decide +kernel
theorem d_Model_readScan_292 : decode c_Model_readScan 292 = .ok (.iconst 1, 1) := by decide +kernel
theorem d_Model_readScan_293 : decode c_Model_readScan 293 = .ok (.if_icmp .ne 17, 3) := by decide +kernel
theorem d_Model_readScan_296 : decode c_Model_readScan 296 = .ok (.goto 10, 3) := by decide +kernel
theorem d_Model_readScan_299 : decode c_Model_readScan 299 = .ok (.aload_n 0, 1) := by decide +kernel
theorem d_Model_readScan_300 : decode c_Model_readScan 300 = .ok (.getfield 156, 3) := by decide +kernel
theorem d_Model_readScan_303 : decode c_Model_readScan 303 = .ok (.ifCond .ne 7, 3) := by decide +kernel
theorem d_Model_readScan_306 : decode c_Model_readScan 306 = .ok (.iconst 1, 1) := by decide +kernel
theorem d_Model_readScan_307 : decode c_Model_readScan 307 = .ok (.goto 4, 3) := by decide +kernel
theorem d_Model_readScan_310 : decode c_Model_readScan 310 = .ok (.iconst 0, 1) := by decide +kernel
theorem d_Model_readScan_311 : decode c_Model_readScan 311 = .ok (.invokevirtual 140, 3) := by decide +kernel
theorem d_Model_readScan_314 : decode c_Model_readScan 314 = .ok (.aload_n 0, 1) := by decide +kernel
theorem d_Model_readScan_315 : decode c_Model_readScan 315 = .ok (.aload_n 0, 1) := by decide +kernel
theorem d_Model_readScan_316 : decode c_Model_readScan 316 = .ok (.invokevirtual 128, 3) := by decide +kernel
theorem d_Model_readScan_319 : decode c_Model_readScan 319 = .ok (.putfield 159, 3) := by decide +kernel
theorem d_Model_readScan_322 : decode c_Model_readScan 322 = .ok (.aload_n 0, 1) := by decide +kernel
theorem d_Model_readScan_323 : decode c_Model_readScan 323 = .ok (.aload_n 0, 1) := by decide +kernel
theorem d_Model_readScan_324 : decode c_Model_readScan 324 = .ok (.getfield 107, 3) := by decide +kernel
theorem d_Model_readScan_327 : decode c_Model_readScan 327 = .ok (.ifCond .gt 56, 3) := by decide +kernel
theorem d_Model_readScan_330 : decode c_Model_readScan 330 = .ok (.iload_n 3, 1) := by decide +kernel
theorem d_Model_readScan_331 : decode c_Model_readScan 331 = .ok (.ifCond .ne 15, 3) := by decide +kernel
theorem d_Model_readScan_334 : decode c_Model_readScan 334 = .ok (.aload_n 0, 1) := by decide +kernel
theorem d_Model_readScan_335 : decode c_Model_readScan 335 = .ok (.getfield 159, 3) := by decide +kernel
theorem d_Model_readScan_338 : decode c_Model_readScan 338 = .ok (.bipush 63, 2) := by decide +kernel
theorem d_Model_readScan_340 : decode c_Model_readScan 340 = .ok (.if_icmp .ne 47, 3) := by decide +kernel
theorem d_Model_readScan_343 : decode c_Model_readScan 343 = .ok (.goto 40, 3) := by decide +kernel
theorem d_Model_readScan_346 : decode c_Model_readScan 346 = .ok (.aload_n 0, 1) := by decide +kernel
theorem d_Model_readScan_347 : decode c_Model_readScan 347 = .ok (.getfield 156, 3) := by decide +kernel
theorem d_Model_readScan_350 : decode c_Model_readScan 350 = .ok (.ifCond .ne 13, 3) := by decide +kernel
theorem d_Model_readScan_353 : decode c_Model_readScan 353 = .ok (.aload_n 0, 1) := by decide +kernel
theorem d_Model_readScan_354 : decode c_Model_readScan 354 = .ok (.getfield 159, 3) := by decide +kernel
theorem d_Model_readScan_357 : decode c_Model_readScan 357 = .ok (.ifCond .ne 30, 3) := by decide +kernel
theorem d_Model_readScan_360 : decode c_Model_readScan 360 = .ok (.goto 23, 3) := by decide +kernel
theorem d_Model_readScan_363 : decode c_Model_readScan 363 = .ok (.aload_n 0, 1) := by decide +kernel
theorem d_Model_readScan_364 : decode c_Model_readScan 364 = .ok (.getfield 159, 3) := by decide +kernel
theorem d_Model_readScan_367 : decode c_Model_readScan 367 = .ok (.aload_n 0, 1) := by decide +kernel
theorem d_Model_readScan_368 : decode c_Model_readScan 368 = .ok (.getfield 156, 3) := by decide +kernel
theorem d_Model_readScan_371 : decode c_Model_readScan 371 = .ok (.if_icmp .lt 16, 3) := by decide +kernel
theorem d_Model_readScan_374 : decode c_Model_readScan 374 = .ok (.aload_n 0, 1) := by decide +kernel
theorem d_Model_readScan_375 : decode c_Model_readScan 375 = .ok (.getfield 159, 3) := by decide +kernel
theorem d_Model_readScan_378 : decode c_Model_readScan 378 = .ok (.bipush 64, 2) := by decide +kernel
theorem d_Model_readScan_380 : decode c_Model_readScan 380 = .ok (.if_icmp .ge 7, 3) := by decide +kernel
theorem d_Model_readScan_383 : decode c_Model_readScan 383 = .ok (.iconst 1, 1) := by decide +kernel
theorem d_Model_readScan_384 : decode c_Model_readScan 384 = .ok (.goto 4, 3) := by decide +kernel
theorem d_Model_readScan_387 : decode c_Model_readScan 387 = .ok (.iconst 0, 1) := by decide +kernel
theorem d_Model_readScan_388 : decode c_Model_readScan 388 = .ok (.invokevirtual 140, 3) := by decide +kernel
theorem d_Model_readScan_391 : decode c_Model_readScan 391 = .ok (.aload_n 0, 1) := by decide +kernel
theorem d_Model_readScan_392 : decode c_Model_readScan 392 = .ok (.invokevirtual 128, 3) := by decide +kernel
theorem d_Model_readScan_395 : decode c_Model_readScan 395 = .ok (.istore 4, 2) := by decide +kernel
theorem d_Model_readScan_397 : decode c_Model_readScan 397 = .ok (.aload_n 0, 1) := by decide +kernel
theorem d_Model_readScan_398 : decode c_Model_readScan 398 = .ok (.iload 4, 2) := by decide +kernel
theorem d_Model_readScan_400 : decode c_Model_readScan 400 = .ok (.bipush 16, 2) := by decide +kernel
theorem d_Model_readScan_402 : decode c_Model_readScan 402 = .ok (.idiv, 1) := by decide +kernel
theorem d_Model_readScan_403 : decode c_Model_readScan 403 = .ok (.putfield 162, 3) := by decide +kernel
theorem d_Model_readScan_406 : decode c_Model_readScan 406 = .ok (.aload_n 0, 1) := by decide +kernel
theorem d_Model_readScan_407 : decode c_Model_readScan 407 = .ok (.iload 4, 2) := by decide +kernel
theorem d_Model_readScan_409 : decode c_Model_readScan 409 = .ok (.bipush 16, 2) := by decide +kernel
theorem d_Model_readScan_411 : decode c_Model_readScan 411 = .ok (.irem, 1) := by decide +kernel
theorem d_Model_readScan_412 : decode c_Model_readScan 412 = .ok (.putfield 165, 3) := by decide +kernel
theorem d_Model_readScan_415 : decode c_Model_readScan 415 = .ok (.aload_n 0, 1) := by decide +kernel
theorem d_Model_readScan_416 : decode c_Model_readScan 416 = .ok (.aload_n 0, 1) := by decide +kernel
theorem d_Model_readScan_417 : decode c_Model_readScan 417 = .ok (.getfield 107, 3) := by decide +kernel
theorem d_Model_readScan_420 : decode c_Model_readScan 420 = .ok (.ifCond .gt 44, 3) := by decide +kernel
theorem d_Model_readScan_423 : decode c_Model_readScan 423 = .ok (.iload_n 3, 1) := by decide +kernel
theorem d_Model_readScan_424 : decode c_Model_readScan 424 = .ok (.ifCond .eq 35, 3) := by decide +kernel
theorem d_Model_readScan_427 : decode c_Model_readScan 427 = .ok (.aload_n 0, 1) := by decide +kernel
theorem d_Model_readScan_428 : decode c_Model_readScan 428 = .ok (.getfield 165, 3) := by decide +kernel
theorem d_Model_readScan_431 : decode c_Model_readScan 431 = .ok (.bipush 13, 2) := by decide +kernel
theorem d_Model_readScan_433 : decode c_Model_readScan 433 = .ok (.if_icmp .gt 35, 3) := by decide +kernel
theorem d_Model_readScan_436 : decode c_Model_readScan 436 = .ok (.aload_n 0, 1) := by decide +kernel
theorem d_Model_readScan_437 : decode c_Model_readScan 437 = .ok (.getfield 162, 3) := by decide +kernel
theorem d_Model_readScan_440 : decode c_Model_readScan 440 = .ok (.ifCond .eq 24, 3) := by decide +kernel
theorem d_Model_readScan_443 : decode c_Model_readScan 443 = .ok (.aload_n 0, 1) := by decide +kernel
theorem d_Model_readScan_444 : decode c_Model_readScan 444 = .ok (.getfield 162, 3) := by decide +kernel
theorem d_Model_readScan_447 : decode c_Model_readScan 447 = .ok (.aload_n 0, 1) := by decide +kernel
theorem d_Model_readScan_448 : decode c_Model_readScan 448 = .ok (.getfield 165, 3) := by decide +kernel
theorem d_Model_readScan_451 : decode c_Model_readScan 451 = .ok (.iconst 1, 1) := by decide +kernel
theorem d_Model_readScan_452 : decode c_Model_readScan 452 = .ok (.iadd, 1) := by decide +kernel
theorem d_Model_readScan_453 : decode c_Model_readScan 453 = .ok (.if_icmp .ne 15, 3) := by decide +kernel
theorem d_Model_readScan_456 : decode c_Model_readScan 456 = .ok (.goto 8, 3) := by decide +kernel
theorem d_Model_readScan_459 : decode c_Model_readScan 459 = .ok (.iload 4, 2) := by decide +kernel
theorem d_Model_readScan_461 : decode c_Model_readScan 461 = .ok (.ifCond .ne 7, 3) := by decide +kernel
theorem d_Model_readScan_464 : decode c_Model_readScan 464 = .ok (.iconst 1, 1) := by decide +kernel
theorem d_Model_readScan_465 : decode c_Model_readScan 465 = .ok (.goto 4, 3) := by decide +kernel
theorem d_Model_readScan_468 : decode c_Model_readScan 468 = .ok (.iconst 0, 1) := by decide +kernel
theorem d_Model_readScan_469 : decode c_Model_readScan 469 = .ok (.invokevirtual 140, 3) := by decide +kernel
theorem d_Model_readScan_472 : decode c_Model_readScan 472 = .ok (.iconst 0, 1) := by decide +kernel
theorem d_Model_readScan_473 : decode c_Model_readScan 473 = .ok (.istore 5, 2) := by decide +kernel
theorem d_Model_readScan_475 : decode c_Model_readScan 475 = .ok (.iload 5, 2) := by decide +kernel
theorem d_Model_readScan_477 : decode c_Model_readScan 477 = .ok (.aload_n 0, 1) := by decide +kernel
theorem d_Model_readScan_478 : decode c_Model_readScan 478 = .ok (.getfield 150, 3) := by decide +kernel
theorem d_Model_readScan_481 : decode c_Model_readScan 481 = .ok (.if_icmp .ge 23, 3) := by decide +kernel
theorem d_Model_readScan_484 : decode c_Model_readScan 484 = .ok (.aload_n 0, 1) := by decide +kernel
theorem d_Model_readScan_485 : decode c_Model_readScan 485 = .ok (.getfield 107, 3) := by decide +kernel
theorem d_Model_readScan_488 : decode c_Model_readScan 488 = .ok (.ifCond .ne 16, 3) := by decide +kernel
theorem d_Model_readScan_491 : decode c_Model_readScan 491 = .ok (.aload_n 0, 1) := by decide +kernel
theorem d_Model_readScan_492 : decode c_Model_readScan 492 = .ok (.iload 5, 2) := by decide +kernel
theorem d_Model_readScan_494 : decode c_Model_readScan 494 = .ok (.iload_n 3, 1) := by decide +kernel
theorem d_Model_readScan_495 : decode c_Model_readScan 495 = .ok (.invokevirtual 168, 3) := by decide +kernel
theorem d_Model_readScan_498 : decode c_Model_readScan 498 = .ok (.iinc 5 1, 3) := by decide +kernel
theorem d_Model_readScan_501 : decode c_Model_readScan 501 = .ok (.goto (-26), 3) := by decide +kernel
theorem d_Model_readScan_504 : decode c_Model_readScan 504 = .ok (.iconst 0, 1) := by decide +kernel
theorem d_Model_readScan_505 : decode c_Model_readScan 505 = .ok (.istore 5, 2) := by decide +kernel
theorem d_Model_readScan_507 : decode c_Model_readScan 507 = .ok (.iload 5, 2) := by decide +kernel
theorem d_Model_readScan_509 : decode c_Model_readScan 509 = .ok (.aload_n 0, 1) := by decide +kernel
theorem d_Model_readScan_510 : decode c_Model_readScan 510 = .ok (.getfield 150, 3) := by decide +kernel
theorem d_Model_readScan_513 : decode c_Model_readScan 513 = .ok (.if_icmp .ge 22, 3) := by decide +kernel
theorem d_Model_readScan_516 : decode c_Model_readScan 516 = .ok (.aload_n 0, 1) := by decide +kernel
theorem d_Model_readScan_517 : decode c_Model_readScan 517 = .ok (.getfield 107, 3) := by decide +kernel
theorem d_Model_readScan_520 : decode c_Model_readScan 520 = .ok (.ifCond .ne 15, 3) := by decide +kernel
theorem d_Model_readScan_523 : decode c_Model_readScan 523 = .ok (.aload_n 0, 1) := by decide +kernel
theorem d_Model_readScan_524 : decode c_Model_readScan 524 = .ok (.iload 5, 2) := by decide +kernel
theorem d_Model_readScan_526 : decode c_Model_readScan 526 = .ok (.invokevirtual 172, 3) := by decide +kernel
theorem d_Model_readScan_529 : decode c_Model_readScan 529 = .ok (.iinc 5 1, 3) := by decide +kernel
theorem d_Model_readScan_532 : decode c_Model_readScan 532 = .ok (.goto (-25), 3) := by decide +kernel
theorem d_Model_readScan_535 : decode c_Model_readScan 535 = .ok (.return_, 1) := by decide +kernel
theorem d_Model_named_0 : decode c_Model_named 0 = .ok (.iconst (-1), 1) := by decide +kernel
theorem d_Model_named_1 : decode c_Model_named 1 = .ok (.istore_n 2, 1) := by decide +kernel
theorem d_Model_named_2 : decode c_Model_named 2 = .ok (.iconst 0, 1) := by decide +kernel
theorem d_Model_named_3 : decode c_Model_named 3 = .ok (.istore_n 3, 1) := by decide +kernel
theorem d_Model_named_4 : decode c_Model_named 4 = .ok (.iload_n 3, 1) := by decide +kernel
theorem d_Model_named_5 : decode c_Model_named 5 = .ok (.aload_n 0, 1) := by decide +kernel
theorem d_Model_named_6 : decode c_Model_named 6 = .ok (.getfield 95, 3) := by decide +kernel
theorem d_Model_named_9 : decode c_Model_named 9 = .ok (.if_icmp .ge 25, 3) := by decide +kernel
theorem d_Model_named_12 : decode c_Model_named 12 = .ok (.aload_n 0, 1) := by decide +kernel
theorem d_Model_named_13 : decode c_Model_named 13 = .ok (.getfield 21, 3) := by decide +kernel
theorem d_Model_named_16 : decode c_Model_named 16 = .ok (.iload_n 3, 1) := by decide +kernel
theorem d_Model_named_17 : decode c_Model_named 17 = .ok (.iaload, 1) := by decide +kernel
theorem d_Model_named_18 : decode c_Model_named 18 = .ok (.iload_n 1, 1) := by decide +kernel
theorem d_Model_named_19 : decode c_Model_named 19 = .ok (.if_icmp .ne 7, 3) := by decide +kernel
theorem d_Model_named_22 : decode c_Model_named 22 = .ok (.iload_n 3, 1) := by decide +kernel
theorem d_Model_named_23 : decode c_Model_named 23 = .ok (.goto 4, 3) := by decide +kernel
theorem d_Model_named_26 : decode c_Model_named 26 = .ok (.iload_n 2, 1) := by decide +kernel
theorem d_Model_named_27 : decode c_Model_named 27 = .ok (.istore_n 2, 1) := by decide +kernel
theorem d_Model_named_28 : decode c_Model_named 28 = .ok (.iinc 3 1, 3) := by decide +kernel
theorem d_Model_named_31 : decode c_Model_named 31 = .ok (.goto (-27), 3) := by decide +kernel
theorem d_Model_named_34 : decode c_Model_named 34 = .ok (.iload_n 2, 1) := by decide +kernel
theorem d_Model_named_35 : decode c_Model_named 35 = .ok (.ireturn, 1) := by decide +kernel
theorem d_Model_order_0 : decode c_Model_order 0 = .ok (.bipush 64, 2) := by decide +kernel
theorem d_Model_order_2 : decode c_Model_order 2 = .ok (.aload_n 0, 1) := by decide +kernel
theorem d_Model_order_3 : decode c_Model_order 3 = .ok (.getfield 59, 3) := by decide +kernel
theorem d_Model_order_6 : decode c_Model_order 6 = .ok (.iload_n 1, 1) := by decide +kernel
theorem d_Model_order_7 : decode c_Model_order 7 = .ok (.iaload, 1) := by decide +kernel
theorem d_Model_order_8 : decode c_Model_order 8 = .ok (.imul, 1) := by decide +kernel
theorem d_Model_order_9 : decode c_Model_order 9 = .ok (.istore_n 3, 1) := by decide +kernel
theorem d_Model_order_10 : decode c_Model_order 10 = .ok (.iload_n 2, 1) := by decide +kernel
theorem d_Model_order_11 : decode c_Model_order 11 = .ok (.ifCond .eq 22, 3) := by decide +kernel
theorem d_Model_order_14 : decode c_Model_order 14 = .ok (.aload_n 0, 1) := by decide +kernel
theorem d_Model_order_15 : decode c_Model_order 15 = .ok (.getfield 156, 3) := by decide +kernel
theorem d_Model_order_18 : decode c_Model_order 18 = .ok (.ifCond .le 38, 3) := by decide +kernel
theorem d_Model_order_21 : decode c_Model_order 21 = .ok (.aload_n 0, 1) := by decide +kernel
theorem d_Model_order_22 : decode c_Model_order 22 = .ok (.getfield 56, 3) := by decide +kernel
theorem d_Model_order_25 : decode c_Model_order 25 = .ok (.iload_n 3, 1) := by decide +kernel
theorem d_Model_order_26 : decode c_Model_order 26 = .ok (.iaload, 1) := by decide +kernel
theorem d_Model_order_27 : decode c_Model_order 27 = .ok (.ifCond .ge 29, 3) := by decide +kernel
theorem d_Model_order_30 : decode c_Model_order 30 = .ok (.goto 12, 3) := by decide +kernel
theorem d_Model_order_33 : decode c_Model_order 33 = .ok (.aload_n 0, 1) := by decide +kernel
theorem d_Model_order_34 : decode c_Model_order 34 = .ok (.getfield 56, 3) := by decide +kernel
theorem d_Model_order_37 : decode c_Model_order 37 = .ok (.iload_n 3, 1) := by decide +kernel
theorem d_Model_order_38 : decode c_Model_order 38 = .ok (.iaload, 1) := by decide +kernel
theorem d_Model_order_39 : decode c_Model_order 39 = .ok (.ifCond .lt 17, 3) := by decide +kernel
theorem d_Model_order_42 : decode c_Model_order 42 = .ok (.aload_n 0, 1) := by decide +kernel
theorem d_Model_order_43 : decode c_Model_order 43 = .ok (.bipush 7, 2) := by decide +kernel
theorem d_Model_order_45 : decode c_Model_order 45 = .ok (.aload_n 0, 1) := by decide +kernel
theorem d_Model_order_46 : decode c_Model_order 46 = .ok (.getfield 68, 3) := by decide +kernel
theorem d_Model_order_49 : decode c_Model_order 49 = .ok (.iload_n 1, 1) := by decide +kernel
theorem d_Model_order_50 : decode c_Model_order 50 = .ok (.iaload, 1) := by decide +kernel
theorem d_Model_order_51 : decode c_Model_order 51 = .ok (.invokevirtual 120, 3) := by decide +kernel
theorem d_Model_order_54 : decode c_Model_order 54 = .ok (.istore 4, 2) := by decide +kernel
theorem d_Model_order_56 : decode c_Model_order 56 = .ok (.aload_n 0, 1) := by decide +kernel
theorem d_Model_order_57 : decode c_Model_order 57 = .ok (.getfield 156, 3) := by decide +kernel
theorem d_Model_order_60 : decode c_Model_order 60 = .ok (.istore 4, 2) := by decide +kernel
theorem d_Model_order_62 : decode c_Model_order 62 = .ok (.iload 4, 2) := by decide +kernel
theorem d_Model_order_64 : decode c_Model_order 64 = .ok (.aload_n 0, 1) := by decide +kernel
theorem d_Model_order_65 : decode c_Model_order 65 = .ok (.getfield 159, 3) := by decide +kernel
theorem d_Model_order_68 : decode c_Model_order 68 = .ok (.if_icmp .gt 95, 3) := by decide +kernel
theorem d_Model_order_71 : decode c_Model_order 71 = .ok (.iload_n 2, 1) := by decide +kernel
theorem d_Model_order_72 : decode c_Model_order 72 = .ok (.ifCond .eq 91, 3) := by decide +kernel
theorem d_Model_order_75 : decode c_Model_order 75 = .ok (.aload_n 0, 1) := by decide +kernel
theorem d_Model_order_76 : decode c_Model_order 76 = .ok (.getfield 56, 3) := by decide +kernel
theorem d_Model_order_79 : decode c_Model_order 79 = .ok (.iload_n 3, 1) := by decide +kernel
theorem d_Model_order_80 : decode c_Model_order 80 = .ok (.iload 4, 2) := by decide +kernel
theorem d_Model_order_82 : decode c_Model_order 82 = .ok (.iadd, 1) := by decide +kernel
theorem d_Model_order_83 : decode c_Model_order 83 = .ok (.iaload, 1) := by decide +kernel
theorem d_Model_order_84 : decode c_Model_order 84 = .ok (.ifCond .ge 18, 3) := by decide +kernel
theorem d_Model_order_87 : decode c_Model_order 87 = .ok (.aload_n 0, 1) := by decide +kernel
theorem d_Model_order_88 : decode c_Model_order 88 = .ok (.getfield 162, 3) := by decide +kernel
theorem d_Model_order_91 : decode c_Model_order 91 = .ok (.ifCond .ne 7, 3) := by decide +kernel
theorem d_Model_order_94 : decode c_Model_order 94 = .ok (.iconst 1, 1) := by decide +kernel
theorem d_Model_order_95 : decode c_Model_order 95 = .ok (.goto 41, 3) := by decide +kernel
theorem d_Model_order_98 : decode c_Model_order 98 = .ok (.iconst 0, 1) := by decide +kernel
theorem d_Model_order_99 : decode c_Model_order 99 = .ok (.goto 37, 3) := by decide +kernel
theorem d_Model_order_102 : decode c_Model_order 102 = .ok (.aload_n 0, 1) := by decide +kernel
theorem d_Model_order_103 : decode c_Model_order 103 = .ok (.getfield 162, 3) := by decide +kernel
theorem d_Model_order_106 : decode c_Model_order 106 = .ok (.aload_n 0, 1) := by decide +kernel
theorem d_Model_order_107 : decode c_Model_order 107 = .ok (.getfield 165, 3) := by decide +kernel
theorem d_Model_order_110 : decode c_Model_order 110 = .ok (.iconst 1, 1) := by decide +kernel
theorem d_Model_order_111 : decode c_Model_order 111 = .ok (.iadd, 1) := by decide +kernel
theorem d_Model_order_112 : decode c_Model_order 112 = .ok (.if_icmp .ne 23, 3) := by decide +kernel
theorem d_Model_order_115 : decode c_Model_order 115 = .ok (.aload_n 0, 1) := by decide +kernel
theorem d_Model_order_116 : decode c_Model_order 116 = .ok (.getfield 56, 3) := by decide +kernel
theorem d_Model_order_119 : decode c_Model_order 119 = .ok (.iload_n 3, 1) := by decide +kernel
theorem d_Model_order_120 : decode c_Model_order 120 = .ok (.iload 4, 2) := by decide +kernel
theorem d_Model_order_122 : decode c_Model_order 122 = .ok (.iadd, 1) := by decide +kernel
theorem d_Model_order_123 : decode c_Model_order 123 = .ok (.iaload, 1) := by decide +kernel
theorem d_Model_order_124 : decode c_Model_order 124 = .ok (.aload_n 0, 1) := by decide +kernel
theorem d_Model_order_125 : decode c_Model_order 125 = .ok (.getfield 162, 3) := by decide +kernel
theorem d_Model_order_128 : decode c_Model_order 128 = .ok (.if_icmp .ne 7, 3) := by decide +kernel
theorem d_Model_order_131 : decode c_Model_order 131 = .ok (.iconst 1, 1) := by decide +kernel
theorem d_Model_order_132 : decode c_Model_order 132 = .ok (.goto 4, 3) := by decide +kernel
theorem d_Model_order_135 : decode c_Model_order 135 = .ok (.iconst 0, 1) := by decide +kernel
theorem d_Model_order_136 : decode c_Model_order 136 = .ok (.istore 5, 2) := by decide +kernel
theorem d_Model_order_138 : decode c_Model_order 138 = .ok (.iload 5, 2) := by decide +kernel
theorem d_Model_order_140 : decode c_Model_order 140 = .ok (.ifCond .ne 17, 3) := by decide +kernel
theorem d_Model_order_143 : decode c_Model_order 143 = .ok (.aload_n 0, 1) := by decide +kernel
theorem d_Model_order_144 : decode c_Model_order 144 = .ok (.bipush 6, 2) := by decide +kernel
theorem d_Model_order_146 : decode c_Model_order 146 = .ok (.aload_n 0, 1) := by decide +kernel
theorem d_Model_order_147 : decode c_Model_order 147 = .ok (.getfield 113, 3) := by decide +kernel
theorem d_Model_order_150 : decode c_Model_order 150 = .ok (.iconst 1, 1) := by decide +kernel
theorem d_Model_order_151 : decode c_Model_order 151 = .ok (.isub, 1) := by decide +kernel
theorem d_Model_order_152 : decode c_Model_order 152 = .ok (.invokevirtual 120, 3) := by decide +kernel
theorem d_Model_order_155 : decode c_Model_order 155 = .ok (.istore 6, 2) := by decide +kernel
theorem d_Model_order_157 : decode c_Model_order 157 = .ok (.iinc 4 1, 3) := by decide +kernel
theorem d_Model_order_160 : decode c_Model_order 160 = .ok (.goto (-98), 3) := by decide +kernel
theorem d_Model_order_163 : decode c_Model_order 163 = .ok (.return_, 1) := by decide +kernel
theorem d_Model_needs_0 : decode c_Model_needs 0 = .ok (.aload_n 0, 1) := by decide +kernel
theorem d_Model_needs_1 : decode c_Model_needs 1 = .ok (.getfield 33, 3) := by decide +kernel
theorem d_Model_needs_4 : decode c_Model_needs 4 = .ok (.aload_n 0, 1) := by decide +kernel
theorem d_Model_needs_5 : decode c_Model_needs 5 = .ok (.getfield 30, 3) := by decide +kernel
theorem d_Model_needs_8 : decode c_Model_needs 8 = .ok (.aload_n 0, 1) := by decide +kernel
theorem d_Model_needs_9 : decode c_Model_needs 9 = .ok (.getfield 59, 3) := by decide +kernel
theorem d_Model_needs_12 : decode c_Model_needs 12 = .ok (.iload_n 1, 1) := by decide +kernel
theorem d_Model_needs_13 : decode c_Model_needs 13 = .ok (.iaload, 1) := by decide +kernel
theorem d_Model_needs_14 : decode c_Model_needs 14 = .ok (.iaload, 1) := by decide +kernel
theorem d_Model_needs_15 : decode c_Model_needs 15 = .ok (.baload, 1) := by decide +kernel
theorem d_Model_needs_16 : decode c_Model_needs 16 = .ok (.ifCond .ne 16, 3) := by decide +kernel
theorem d_Model_needs_19 : decode c_Model_needs 19 = .ok (.aload_n 0, 1) := by decide +kernel
theorem d_Model_needs_20 : decode c_Model_needs 20 = .ok (.bipush 8, 2) := by decide +kernel
theorem d_Model_needs_22 : decode c_Model_needs 22 = .ok (.aload_n 0, 1) := by decide +kernel
theorem d_Model_needs_23 : decode c_Model_needs 23 = .ok (.getfield 68, 3) := by decide +kernel
theorem d_Model_needs_26 : decode c_Model_needs 26 = .ok (.iload_n 1, 1) := by decide +kernel
theorem d_Model_needs_27 : decode c_Model_needs 27 = .ok (.iaload, 1) := by decide +kernel
theorem d_Model_needs_28 : decode c_Model_needs 28 = .ok (.invokevirtual 120, 3) := by decide +kernel
theorem d_Model_needs_31 : decode c_Model_needs 31 = .ok (.istore_n 2, 1) := by decide +kernel
theorem d_Model_needs_32 : decode c_Model_needs 32 = .ok (.aload_n 0, 1) := by decide +kernel
theorem d_Model_needs_33 : decode c_Model_needs 33 = .ok (.getfield 156, 3) := by decide +kernel
theorem d_Model_needs_36 : decode c_Model_needs 36 = .ok (.ifCond .ne 14, 3) := by decide +kernel
theorem d_Model_needs_39 : decode c_Model_needs 39 = .ok (.aload_n 0, 1) := by decide +kernel
theorem d_Model_needs_40 : decode c_Model_needs 40 = .ok (.getfield 162, 3) := by decide +kernel
theorem d_Model_needs_43 : decode c_Model_needs 43 = .ok (.ifCond .ne 7, 3) := by decide +kernel
theorem d_Model_needs_46 : decode c_Model_needs 46 = .ok (.iconst 1, 1) := by decide +kernel
theorem d_Model_needs_47 : decode c_Model_needs 47 = .ok (.goto 4, 3) := by decide +kernel
theorem d_Model_needs_50 : decode c_Model_needs 50 = .ok (.iconst 0, 1) := by decide +kernel
theorem d_Model_needs_51 : decode c_Model_needs 51 = .ok (.istore_n 2, 1) := by decide +kernel
theorem d_Model_needs_52 : decode c_Model_needs 52 = .ok (.iload_n 2, 1) := by decide +kernel
theorem d_Model_needs_53 : decode c_Model_needs 53 = .ok (.ifCond .eq 17, 3) := by decide +kernel
theorem d_Model_needs_56 : decode c_Model_needs 56 = .ok (.aload_n 0, 1) := by decide +kernel
theorem d_Model_needs_57 : decode c_Model_needs 57 = .ok (.getfield 40, 3) := by decide +kernel
theorem d_Model_needs_60 : decode c_Model_needs 60 = .ok (.aload_n 0, 1) := by decide +kernel
theorem d_Model_needs_61 : decode c_Model_needs 61 = .ok (.getfield 62, 3) := by decide +kernel
theorem d_Model_needs_64 : decode c_Model_needs 64 = .ok (.iload_n 1, 1) := by decide +kernel
theorem d_Model_needs_65 : decode c_Model_needs 65 = .ok (.iaload, 1) := by decide +kernel
theorem d_Model_needs_66 : decode c_Model_needs 66 = .ok (.baload, 1) := by decide +kernel
theorem d_Model_needs_67 : decode c_Model_needs 67 = .ok (.ifCond .eq 26, 3) := by decide +kernel
theorem d_Model_needs_70 : decode c_Model_needs 70 = .ok (.aload_n 0, 1) := by decide +kernel
theorem d_Model_needs_71 : decode c_Model_needs 71 = .ok (.getfield 159, 3) := by decide +kernel
theorem d_Model_needs_74 : decode c_Model_needs 74 = .ok (.ifCond .le 34, 3) := by decide +kernel
theorem d_Model_needs_77 : decode c_Model_needs 77 = .ok (.aload_n 0, 1) := by decide +kernel
theorem d_Model_needs_78 : decode c_Model_needs 78 = .ok (.getfield 40, 3) := by decide +kernel
theorem d_Model_needs_81 : decode c_Model_needs 81 = .ok (.iconst 4, 1) := by decide +kernel
theorem d_Model_needs_82 : decode c_Model_needs 82 = .ok (.aload_n 0, 1) := by decide +kernel
theorem d_Model_needs_83 : decode c_Model_needs 83 = .ok (.getfield 65, 3) := by decide +kernel
theorem d_Model_needs_86 : decode c_Model_needs 86 = .ok (.iload_n 1, 1) := by decide +kernel
theorem d_Model_needs_87 : decode c_Model_needs 87 = .ok (.iaload, 1) := by decide +kernel
theorem d_Model_needs_88 : decode c_Model_needs 88 = .ok (.iadd, 1) := by decide +kernel
theorem d_Model_needs_89 : decode c_Model_needs 89 = .ok (.baload, 1) := by decide +kernel
theorem d_Model_needs_90 : decode c_Model_needs 90 = .ok (.ifCond .ne 18, 3) := by decide +kernel
theorem d_Model_needs_93 : decode c_Model_needs 93 = .ok (.aload_n 0, 1) := by decide +kernel
theorem d_Model_needs_94 : decode c_Model_needs 94 = .ok (.bipush 8, 2) := by decide +kernel
theorem d_Model_needs_96 : decode c_Model_needs 96 = .ok (.aload_n 0, 1) := by decide +kernel
theorem d_Model_needs_97 : decode c_Model_needs 97 = .ok (.getfield 68, 3) := by decide +kernel
theorem d_Model_needs_100 : decode c_Model_needs 100 = .ok (.iload_n 1, 1) := by decide +kernel
theorem d_Model_needs_101 : decode c_Model_needs 101 = .ok (.iaload, 1) := by decide +kernel
theorem d_Model_needs_102 : decode c_Model_needs 102 = .ok (.iconst 1, 1) := by decide +kernel
theorem d_Model_needs_103 : decode c_Model_needs 103 = .ok (.iadd, 1) := by decide +kernel
theorem d_Model_needs_104 : decode c_Model_needs 104 = .ok (.invokevirtual 120, 3) := by decide +kernel
theorem d_Model_needs_107 : decode c_Model_needs 107 = .ok (.istore_n 3, 1) := by decide +kernel
theorem d_Model_needs_108 : decode c_Model_needs 108 = .ok (.return_, 1) := by decide +kernel
theorem d_Model_any_0 : decode c_Model_any 0 = .ok (.aload_n 0, 1) := by decide +kernel
theorem d_Model_any_1 : decode c_Model_any 1 = .ok (.getfield 107, 3) := by decide +kernel
theorem d_Model_any_4 : decode c_Model_any 4 = .ok (.ifCond .ne 22, 3) := by decide +kernel
theorem d_Model_any_7 : decode c_Model_any 7 = .ok (.aload_n 0, 1) := by decide +kernel
theorem d_Model_any_8 : decode c_Model_any 8 = .ok (.getfield 113, 3) := by decide +kernel
theorem d_Model_any_11 : decode c_Model_any 11 = .ok (.aload_n 0, 1) := by decide +kernel
theorem d_Model_any_12 : decode c_Model_any 12 = .ok (.getfield 110, 3) := by decide +kernel
theorem d_Model_any_15 : decode c_Model_any 15 = .ok (.if_icmp .ge 11, 3) := by decide +kernel
theorem d_Model_any_18 : decode c_Model_any 18 = .ok (.aload_n 0, 1) := by decide +kernel
theorem d_Model_any_19 : decode c_Model_any 19 = .ok (.invokevirtual 128, 3) := by decide +kernel
theorem d_Model_any_22 : decode c_Model_any 22 = .ok (.istore_n 1, 1) := by decide +kernel
theorem d_Model_any_23 : decode c_Model_any 23 = .ok (.goto (-23), 3) := by decide +kernel
theorem d_Model_any_26 : decode c_Model_any 26 = .ok (.return_, 1) := by decide +kernel
theorem d_Model_close_0 : decode c_Model_close 0 = .ok (.aload_n 0, 1) := by decide +kernel
theorem d_Model_close_1 : decode c_Model_close 1 = .ok (.getfield 107, 3) := by decide +kernel
theorem d_Model_close_4 : decode c_Model_close 4 = .ok (.ifCond .ne 24, 3) := by decide +kernel
theorem d_Model_close_7 : decode c_Model_close 7 = .ok (.aload_n 0, 1) := by decide +kernel
theorem d_Model_close_8 : decode c_Model_close 8 = .ok (.getfield 113, 3) := by decide +kernel
theorem d_Model_close_11 : decode c_Model_close 11 = .ok (.aload_n 0, 1) := by decide +kernel
theorem d_Model_close_12 : decode c_Model_close 12 = .ok (.getfield 110, 3) := by decide +kernel
theorem d_Model_close_15 : decode c_Model_close 15 = .ok (.if_icmp .eq 13, 3) := by decide +kernel
theorem d_Model_close_18 : decode c_Model_close 18 = .ok (.aload_n 0, 1) := by decide +kernel
theorem d_Model_close_19 : decode c_Model_close 19 = .ok (.iconst 5, 1) := by decide +kernel
theorem d_Model_close_20 : decode c_Model_close 20 = .ok (.aload_n 0, 1) := by decide +kernel
theorem d_Model_close_21 : decode c_Model_close 21 = .ok (.getfield 131, 3) := by decide +kernel
theorem d_Model_close_24 : decode c_Model_close 24 = .ok (.invokevirtual 120, 3) := by decide +kernel
theorem d_Model_close_27 : decode c_Model_close 27 = .ok (.istore_n 2, 1) := by decide +kernel
theorem d_Model_close_28 : decode c_Model_close 28 = .ok (.aload_n 0, 1) := by decide +kernel
theorem d_Model_close_29 : decode c_Model_close 29 = .ok (.getfield 107, 3) := by decide +kernel
theorem d_Model_close_32 : decode c_Model_close 32 = .ok (.ifCond .ne 72, 3) := by decide +kernel
theorem d_Model_close_35 : decode c_Model_close 35 = .ok (.iconst 4, 1) := by decide +kernel
theorem d_Model_close_36 : decode c_Model_close 36 = .ok (.aload_n 0, 1) := by decide +kernel
theorem d_Model_close_37 : decode c_Model_close 37 = .ok (.getfield 83, 3) := by decide +kernel
theorem d_Model_close_40 : decode c_Model_close 40 = .ok (.imul, 1) := by decide +kernel
theorem d_Model_close_41 : decode c_Model_close 41 = .ok (.istore_n 2, 1) := by decide +kernel
theorem d_Model_close_42 : decode c_Model_close 42 = .ok (.aload_n 0, 1) := by decide +kernel
theorem d_Model_close_43 : decode c_Model_close 43 = .ok (.getfield 17, 3) := by decide +kernel
theorem d_Model_close_46 : decode c_Model_close 46 = .ok (.iload_n 2, 1) := by decide +kernel
theorem d_Model_close_47 : decode c_Model_close 47 = .ok (.iload_n 1, 1) := by decide +kernel
theorem d_Model_close_48 : decode c_Model_close 48 = .ok (.iastore, 1) := by decide +kernel
theorem d_Model_close_49 : decode c_Model_close 49 = .ok (.aload_n 0, 1) := by decide +kernel
theorem d_Model_close_50 : decode c_Model_close 50 = .ok (.getfield 17, 3) := by decide +kernel
theorem d_Model_close_53 : decode c_Model_close 53 = .ok (.iload_n 2, 1) := by decide +kernel
theorem d_Model_close_54 : decode c_Model_close 54 = .ok (.iconst 1, 1) := by decide +kernel
theorem d_Model_close_55 : decode c_Model_close 55 = .ok (.iadd, 1) := by decide +kernel
theorem d_Model_close_56 : decode c_Model_close 56 = .ok (.aload_n 0, 1) := by decide +kernel
theorem d_Model_close_57 : decode c_Model_close 57 = .ok (.getfield 134, 3) := by decide +kernel
theorem d_Model_close_60 : decode c_Model_close 60 = .ok (.iastore, 1) := by decide +kernel
theorem d_Model_close_61 : decode c_Model_close 61 = .ok (.aload_n 0, 1) := by decide +kernel
theorem d_Model_close_62 : decode c_Model_close 62 = .ok (.getfield 17, 3) := by decide +kernel
theorem d_Model_close_65 : decode c_Model_close 65 = .ok (.iload_n 2, 1) := by decide +kernel
theorem d_Model_close_66 : decode c_Model_close 66 = .ok (.iconst 2, 1) := by decide +kernel
theorem d_Model_close_67 : decode c_Model_close 67 = .ok (.iadd, 1) := by decide +kernel
theorem d_Model_close_68 : decode c_Model_close 68 = .ok (.aload_n 0, 1) := by decide +kernel
theorem d_Model_close_69 : decode c_Model_close 69 = .ok (.getfield 131, 3) := by decide +kernel
theorem d_Model_close_72 : decode c_Model_close 72 = .ok (.iconst 2, 1) := by decide +kernel
theorem d_Model_close_73 : decode c_Model_close 73 = .ok (.iadd, 1) := by decide +kernel
theorem d_Model_close_74 : decode c_Model_close 74 = .ok (.iastore, 1) := by decide +kernel
theorem d_Model_close_75 : decode c_Model_close 75 = .ok (.aload_n 0, 1) := by decide +kernel
theorem d_Model_close_76 : decode c_Model_close 76 = .ok (.getfield 17, 3) := by decide +kernel
theorem d_Model_close_79 : decode c_Model_close 79 = .ok (.iload_n 2, 1) := by decide +kernel
theorem d_Model_close_80 : decode c_Model_close 80 = .ok (.iconst 3, 1) := by decide +kernel
theorem d_Model_close_81 : decode c_Model_close 81 = .ok (.iadd, 1) := by decide +kernel
theorem d_Model_close_82 : decode c_Model_close 82 = .ok (.aload_n 0, 1) := by decide +kernel
theorem d_Model_close_83 : decode c_Model_close 83 = .ok (.getfield 110, 3) := by decide +kernel
theorem d_Model_close_86 : decode c_Model_close 86 = .ok (.aload_n 0, 1) := by decide +kernel
theorem d_Model_close_87 : decode c_Model_close 87 = .ok (.getfield 131, 3) := by decide +kernel
theorem d_Model_close_90 : decode c_Model_close 90 = .ok (.isub, 1) := by decide +kernel
theorem d_Model_close_91 : decode c_Model_close 91 = .ok (.iconst 2, 1) := by decide +kernel
theorem d_Model_close_92 : decode c_Model_close 92 = .ok (.isub, 1) := by decide +kernel
theorem d_Model_close_93 : decode c_Model_close 93 = .ok (.iastore, 1) := by decide +kernel
theorem d_Model_close_94 : decode c_Model_close 94 = .ok (.aload_n 0, 1) := by decide +kernel
theorem d_Model_close_95 : decode c_Model_close 95 = .ok (.dup, 1) := by decide +kernel
theorem d_Model_close_96 : decode c_Model_close 96 = .ok (.getfield 83, 3) := by decide +kernel
theorem d_Model_close_99 : decode c_Model_close 99 = .ok (.iconst 1, 1) := by decide +kernel
theorem d_Model_close_100 : decode c_Model_close 100 = .ok (.iadd, 1) := by decide +kernel
theorem d_Model_close_101 : decode c_Model_close 101 = .ok (.putfield 83, 3) := by decide +kernel
theorem d_Model_close_104 : decode c_Model_close 104 = .ok (.aload_n 0, 1) := by decide +kernel
theorem d_Model_close_105 : decode c_Model_close 105 = .ok (.iconst (-1), 1) := by decide +kernel
theorem d_Model_close_106 : decode c_Model_close 106 = .ok (.putfield 110, 3) := by decide +kernel
theorem d_Model_close_109 : decode c_Model_close 109 = .ok (.return_, 1) := by decide +kernel
theorem d_Model_keepScan_0 : decode c_Model_keepScan 0 = .ok (.bipush 30, 2) := by decide +kernel
theorem d_Model_keepScan_2 : decode c_Model_keepScan 2 = .ok (.aload_n 0, 1) := by decide +kernel
theorem d_Model_keepScan_3 : decode c_Model_keepScan 3 = .ok (.getfield 101, 3) := by decide +kernel
theorem d_Model_keepScan_6 : decode c_Model_keepScan 6 = .ok (.imul, 1) := by decide +kernel
theorem d_Model_keepScan_7 : decode c_Model_keepScan 7 = .ok (.istore_n 1, 1) := by decide +kernel
theorem d_Model_keepScan_8 : decode c_Model_keepScan 8 = .ok (.aload_n 0, 1) := by decide +kernel
theorem d_Model_keepScan_9 : decode c_Model_keepScan 9 = .ok (.getfield 53, 3) := by decide +kernel
theorem d_Model_keepScan_12 : decode c_Model_keepScan 12 = .ok (.iload_n 1, 1) := by decide +kernel
theorem d_Model_keepScan_13 : decode c_Model_keepScan 13 = .ok (.aload_n 0, 1) := by decide +kernel
theorem d_Model_keepScan_14 : decode c_Model_keepScan 14 = .ok (.getfield 150, 3) := by decide +kernel
theorem d_Model_keepScan_17 : decode c_Model_keepScan 17 = .ok (.iastore, 1) := by decide +kernel
theorem d_Model_keepScan_18 : decode c_Model_keepScan 18 = .ok (.aload_n 0, 1) := by decide +kernel
theorem d_Model_keepScan_19 : decode c_Model_keepScan 19 = .ok (.getfield 53, 3) := by decide +kernel
theorem d_Model_keepScan_22 : decode c_Model_keepScan 22 = .ok (.iload_n 1, 1) := by decide +kernel
theorem d_Model_keepScan_23 : decode c_Model_keepScan 23 = .ok (.iconst 1, 1) := by decide +kernel
theorem d_Model_keepScan_24 : decode c_Model_keepScan 24 = .ok (.iadd, 1) := by decide +kernel
theorem d_Model_keepScan_25 : decode c_Model_keepScan 25 = .ok (.aload_n 0, 1) := by decide +kernel
theorem d_Model_keepScan_26 : decode c_Model_keepScan 26 = .ok (.getfield 156, 3) := by decide +kernel
theorem d_Model_keepScan_29 : decode c_Model_keepScan 29 = .ok (.iastore, 1) := by decide +kernel
theorem d_Model_keepScan_30 : decode c_Model_keepScan 30 = .ok (.aload_n 0, 1) := by decide +kernel
theorem d_Model_keepScan_31 : decode c_Model_keepScan 31 = .ok (.getfield 53, 3) := by decide +kernel
theorem d_Model_keepScan_34 : decode c_Model_keepScan 34 = .ok (.iload_n 1, 1) := by decide +kernel
theorem d_Model_keepScan_35 : decode c_Model_keepScan 35 = .ok (.iconst 2, 1) := by decide +kernel
theorem d_Model_keepScan_36 : decode c_Model_keepScan 36 = .ok (.iadd, 1) := by decide +kernel
theorem d_Model_keepScan_37 : decode c_Model_keepScan 37 = .ok (.aload_n 0, 1) := by decide +kernel
theorem d_Model_keepScan_38 : decode c_Model_keepScan 38 = .ok (.getfield 159, 3) := by decide +kernel
theorem d_Model_keepScan_41 : decode c_Model_keepScan 41 = .ok (.iastore, 1) := by decide +kernel
theorem d_Model_keepScan_42 : decode c_Model_keepScan 42 = .ok (.aload_n 0, 1) := by decide +kernel
theorem d_Model_keepScan_43 : decode c_Model_keepScan 43 = .ok (.getfield 53, 3) := by decide +kernel
theorem d_Model_keepScan_46 : decode c_Model_keepScan 46 = .ok (.iload_n 1, 1) := by decide +kernel
theorem d_Model_keepScan_47 : decode c_Model_keepScan 47 = .ok (.iconst 3, 1) := by decide +kernel
theorem d_Model_keepScan_48 : decode c_Model_keepScan 48 = .ok (.iadd, 1) := by decide +kernel
theorem d_Model_keepScan_49 : decode c_Model_keepScan 49 = .ok (.aload_n 0, 1) := by decide +kernel
theorem d_Model_keepScan_50 : decode c_Model_keepScan 50 = .ok (.getfield 162, 3) := by decide +kernel
theorem d_Model_keepScan_53 : decode c_Model_keepScan 53 = .ok (.iastore, 1) := by decide +kernel
theorem d_Model_keepScan_54 : decode c_Model_keepScan 54 = .ok (.aload_n 0, 1) := by decide +kernel
theorem d_Model_keepScan_55 : decode c_Model_keepScan 55 = .ok (.getfield 53, 3) := by decide +kernel
theorem d_Model_keepScan_58 : decode c_Model_keepScan 58 = .ok (.iload_n 1, 1) := by decide +kernel
theorem d_Model_keepScan_59 : decode c_Model_keepScan 59 = .ok (.iconst 4, 1) := by decide +kernel
theorem d_Model_keepScan_60 : decode c_Model_keepScan 60 = .ok (.iadd, 1) := by decide +kernel
theorem d_Model_keepScan_61 : decode c_Model_keepScan 61 = .ok (.aload_n 0, 1) := by decide +kernel
theorem d_Model_keepScan_62 : decode c_Model_keepScan 62 = .ok (.getfield 165, 3) := by decide +kernel
theorem d_Model_keepScan_65 : decode c_Model_keepScan 65 = .ok (.iastore, 1) := by decide +kernel
theorem d_Model_keepScan_66 : decode c_Model_keepScan 66 = .ok (.aload_n 0, 1) := by decide +kernel
theorem d_Model_keepScan_67 : decode c_Model_keepScan 67 = .ok (.getfield 53, 3) := by decide +kernel
theorem d_Model_keepScan_70 : decode c_Model_keepScan 70 = .ok (.iload_n 1, 1) := by decide +kernel
theorem d_Model_keepScan_71 : decode c_Model_keepScan 71 = .ok (.iconst 5, 1) := by decide +kernel
theorem d_Model_keepScan_72 : decode c_Model_keepScan 72 = .ok (.iadd, 1) := by decide +kernel
theorem d_Model_keepScan_73 : decode c_Model_keepScan 73 = .ok (.aload_n 0, 1) := by decide +kernel
theorem d_Model_keepScan_74 : decode c_Model_keepScan 74 = .ok (.getfield 113, 3) := by decide +kernel
theorem d_Model_keepScan_77 : decode c_Model_keepScan 77 = .ok (.iastore, 1) := by decide +kernel
theorem d_Model_keepScan_78 : decode c_Model_keepScan 78 = .ok (.aload_n 0, 1) := by decide +kernel
theorem d_Model_keepScan_79 : decode c_Model_keepScan 79 = .ok (.getfield 53, 3) := by decide +kernel
theorem d_Model_keepScan_82 : decode c_Model_keepScan 82 = .ok (.iload_n 1, 1) := by decide +kernel
theorem d_Model_keepScan_83 : decode c_Model_keepScan 83 = .ok (.bipush 8, 2) := by decide +kernel
theorem d_Model_keepScan_85 : decode c_Model_keepScan 85 = .ok (.iadd, 1) := by decide +kernel
theorem d_Model_keepScan_86 : decode c_Model_keepScan 86 = .ok (.aload_n 0, 1) := by decide +kernel
theorem d_Model_keepScan_87 : decode c_Model_keepScan 87 = .ok (.getfield 98, 3) := by decide +kernel
theorem d_Model_keepScan_90 : decode c_Model_keepScan 90 = .ok (.iastore, 1) := by decide +kernel
theorem d_Model_keepScan_91 : decode c_Model_keepScan 91 = .ok (.iconst 0, 1) := by decide +kernel
theorem d_Model_keepScan_92 : decode c_Model_keepScan 92 = .ok (.istore_n 2, 1) := by decide +kernel
theorem d_Model_keepScan_93 : decode c_Model_keepScan 93 = .ok (.iload_n 2, 1) := by decide +kernel
theorem d_Model_keepScan_94 : decode c_Model_keepScan 94 = .ok (.aload_n 0, 1) := by decide +kernel
theorem d_Model_keepScan_95 : decode c_Model_keepScan 95 = .ok (.getfield 150, 3) := by decide +kernel
theorem d_Model_keepScan_98 : decode c_Model_keepScan 98 = .ok (.if_icmp .ge 105, 3) := by decide +kernel
theorem d_Model_keepScan_101 : decode c_Model_keepScan 101 = .ok (.aload_n 0, 1) := by decide +kernel
theorem d_Model_keepScan_102 : decode c_Model_keepScan 102 = .ok (.getfield 53, 3) := by decide +kernel
theorem d_Model_keepScan_105 : decode c_Model_keepScan 105 = .ok (.iload_n 1, 1) := by decide +kernel
theorem d_Model_keepScan_106 : decode c_Model_keepScan 106 = .ok (.bipush 10, 2) := by decide +kernel
theorem d_Model_keepScan_108 : decode c_Model_keepScan 108 = .ok (.iadd, 1) := by decide +kernel
theorem d_Model_keepScan_109 : decode c_Model_keepScan 109 = .ok (.iconst 4, 1) := by decide +kernel
theorem d_Model_keepScan_110 : decode c_Model_keepScan 110 = .ok (.iload_n 2, 1) := by decide +kernel
theorem d_Model_keepScan_111 : decode c_Model_keepScan 111 = .ok (.imul, 1) := by decide +kernel
theorem d_Model_keepScan_112 : decode c_Model_keepScan 112 = .ok (.iadd, 1) := by decide +kernel
theorem d_Model_keepScan_113 : decode c_Model_keepScan 113 = .ok (.aload_n 0, 1) := by decide +kernel
theorem d_Model_keepScan_114 : decode c_Model_keepScan 114 = .ok (.getfield 59, 3) := by decide +kernel
theorem d_Model_keepScan_117 : decode c_Model_keepScan 117 = .ok (.iload_n 2, 1) := by decide +kernel
theorem d_Model_keepScan_118 : decode c_Model_keepScan 118 = .ok (.iaload, 1) := by decide +kernel
theorem d_Model_keepScan_119 : decode c_Model_keepScan 119 = .ok (.iastore, 1) := by decide +kernel
theorem d_Model_keepScan_120 : decode c_Model_keepScan 120 = .ok (.aload_n 0, 1) := by decide +kernel
theorem d_Model_keepScan_121 : decode c_Model_keepScan 121 = .ok (.getfield 53, 3) := by decide +kernel
theorem d_Model_keepScan_124 : decode c_Model_keepScan 124 = .ok (.iload_n 1, 1) := by decide +kernel
theorem d_Model_keepScan_125 : decode c_Model_keepScan 125 = .ok (.bipush 11, 2) := by decide +kernel
theorem d_Model_keepScan_127 : decode c_Model_keepScan 127 = .ok (.iadd, 1) := by decide +kernel
theorem d_Model_keepScan_128 : decode c_Model_keepScan 128 = .ok (.iconst 4, 1) := by decide +kernel
theorem d_Model_keepScan_129 : decode c_Model_keepScan 129 = .ok (.iload_n 2, 1) := by decide +kernel
theorem d_Model_keepScan_130 : decode c_Model_keepScan 130 = .ok (.imul, 1) := by decide +kernel
theorem d_Model_keepScan_131 : decode c_Model_keepScan 131 = .ok (.iadd, 1) := by decide +kernel
theorem d_Model_keepScan_132 : decode c_Model_keepScan 132 = .ok (.aload_n 0, 1) := by decide +kernel
theorem d_Model_keepScan_133 : decode c_Model_keepScan 133 = .ok (.getfield 62, 3) := by decide +kernel
theorem d_Model_keepScan_136 : decode c_Model_keepScan 136 = .ok (.iload_n 2, 1) := by decide +kernel
theorem d_Model_keepScan_137 : decode c_Model_keepScan 137 = .ok (.iaload, 1) := by decide +kernel
theorem d_Model_keepScan_138 : decode c_Model_keepScan 138 = .ok (.iastore, 1) := by decide +kernel
theorem d_Model_keepScan_139 : decode c_Model_keepScan 139 = .ok (.aload_n 0, 1) := by decide +kernel
theorem d_Model_keepScan_140 : decode c_Model_keepScan 140 = .ok (.getfield 53, 3) := by decide +kernel
theorem d_Model_keepScan_143 : decode c_Model_keepScan 143 = .ok (.iload_n 1, 1) := by decide +kernel
theorem d_Model_keepScan_144 : decode c_Model_keepScan 144 = .ok (.bipush 12, 2) := by decide +kernel
theorem d_Model_keepScan_146 : decode c_Model_keepScan 146 = .ok (.iadd, 1) := by decide +kernel
theorem d_Model_keepScan_147 : decode c_Model_keepScan 147 = .ok (.iconst 4, 1) := by decide +kernel
theorem d_Model_keepScan_148 : decode c_Model_keepScan 148 = .ok (.iload_n 2, 1) := by decide +kernel
theorem d_Model_keepScan_149 : decode c_Model_keepScan 149 = .ok (.imul, 1) := by decide +kernel
theorem d_Model_keepScan_150 : decode c_Model_keepScan 150 = .ok (.iadd, 1) := by decide +kernel
theorem d_Model_keepScan_151 : decode c_Model_keepScan 151 = .ok (.aload_n 0, 1) := by decide +kernel
theorem d_Model_keepScan_152 : decode c_Model_keepScan 152 = .ok (.getfield 65, 3) := by decide +kernel
theorem d_Model_keepScan_155 : decode c_Model_keepScan 155 = .ok (.iload_n 2, 1) := by decide +kernel
theorem d_Model_keepScan_156 : decode c_Model_keepScan 156 = .ok (.iaload, 1) := by decide +kernel
theorem d_Model_keepScan_157 : decode c_Model_keepScan 157 = .ok (.iastore, 1) := by decide +kernel
theorem d_Model_keepScan_158 : decode c_Model_keepScan 158 = .ok (.aload_n 0, 1) := by decide +kernel
theorem d_Model_keepScan_159 : decode c_Model_keepScan 159 = .ok (.getfield 156, 3) := by decide +kernel
theorem d_Model_keepScan_162 : decode c_Model_keepScan 162 = .ok (.istore_n 3, 1) := by decide +kernel
theorem d_Model_keepScan_163 : decode c_Model_keepScan 163 = .ok (.iload_n 3, 1) := by decide +kernel
theorem d_Model_keepScan_164 : decode c_Model_keepScan 164 = .ok (.aload_n 0, 1) := by decide +kernel
theorem d_Model_keepScan_165 : decode c_Model_keepScan 165 = .ok (.getfield 159, 3) := by decide +kernel
theorem d_Model_keepScan_168 : decode c_Model_keepScan 168 = .ok (.if_icmp .gt 29, 3) := by decide +kernel
theorem d_Model_keepScan_171 : decode c_Model_keepScan 171 = .ok (.aload_n 0, 1) := by decide +kernel
theorem d_Model_keepScan_172 : decode c_Model_keepScan 172 = .ok (.getfield 56, 3) := by decide +kernel
theorem d_Model_keepScan_175 : decode c_Model_keepScan 175 = .ok (.bipush 64, 2) := by decide +kernel
theorem d_Model_keepScan_177 : decode c_Model_keepScan 177 = .ok (.aload_n 0, 1) := by decide +kernel
theorem d_Model_keepScan_178 : decode c_Model_keepScan 178 = .ok (.getfield 59, 3) := by decide +kernel
theorem d_Model_keepScan_181 : decode c_Model_keepScan 181 = .ok (.iload_n 2, 1) := by decide +kernel
theorem d_Model_keepScan_182 : decode c_Model_keepScan 182 = .ok (.iaload, 1) := by decide +kernel
end
section
theorem d_Model_keepScan_183 : decode c_Model_keepScan 183 = .ok (.imul, 1) := by decide +kernel
theorem d_Model_keepScan_184 : decode c_Model_keepScan 184 = .ok (.iload_n 3, 1) := by decide +kernel
theorem d_Model_keepScan_185 : decode c_Model_keepScan 185 = .ok (.iadd, 1) := by decide +kernel
theorem d_Model_keepScan_186 : decode c_Model_keepScan 186 = .ok (.aload_n 0, 1) := by decide +kernel
theorem d_Model_keepScan_187 : decode c_Model_keepScan 187 = .ok (.getfield 165, 3) := by decide +kernel
theorem d_Model_keepScan_190 : decode c_Model_keepScan 190 = .ok (.iastore, 1) := by decide +kernel
theorem d_Model_keepScan_191 : decode c_Model_keepScan 191 = .ok (.iinc 3 1, 3) := by decide +kernel
theorem d_Model_keepScan_194 : decode c_Model_keepScan 194 = .ok (.goto (-31), 3) := by decide +kernel
theorem d_Model_keepScan_197 : decode c_Model_keepScan 197 = .ok (.iinc 2 1, 3) := by decide +kernel
theorem d_Model_keepScan_200 : decode c_Model_keepScan 200 = .ok (.goto (-107), 3) := by decide +kernel
theorem d_Model_keepScan_203 : decode c_Model_keepScan 203 = .ok (.aload_n 0, 1) := by decide +kernel
theorem d_Model_keepScan_204 : decode c_Model_keepScan 204 = .ok (.iload_n 1, 1) := by decide +kernel
theorem d_Model_keepScan_205 : decode c_Model_keepScan 205 = .ok (.invokevirtual 175, 3) := by decide +kernel
theorem d_Model_keepScan_208 : decode c_Model_keepScan 208 = .ok (.return_, 1) := by decide +kernel
theorem d_Model_readData_0 : decode c_Model_readData 0 = .ok (.iconst 0, 1) := by decide +kernel
theorem d_Model_readData_1 : decode c_Model_readData 1 = .ok (.istore_n 2, 1) := by decide +kernel
theorem d_Model_readData_2 : decode c_Model_readData 2 = .ok (.iconst 1, 1) := by decide +kernel
theorem d_Model_readData_3 : decode c_Model_readData 3 = .ok (.istore_n 3, 1) := by decide +kernel
theorem d_Model_readData_4 : decode c_Model_readData 4 = .ok (.iload_n 3, 1) := by decide +kernel
theorem d_Model_readData_5 : decode c_Model_readData 5 = .ok (.ifCond .eq 137, 3) := by decide +kernel
theorem d_Model_readData_8 : decode c_Model_readData 8 = .ok (.aload_n 0, 1) := by decide +kernel
theorem d_Model_readData_9 : decode c_Model_readData 9 = .ok (.getfield 107, 3) := by decide +kernel
theorem d_Model_readData_12 : decode c_Model_readData 12 = .ok (.ifCond .ne 130, 3) := by decide +kernel
theorem d_Model_readData_15 : decode c_Model_readData 15 = .ok (.aload_n 0, 1) := by decide +kernel
theorem d_Model_readData_16 : decode c_Model_readData 16 = .ok (.invokevirtual 128, 3) := by decide +kernel
theorem d_Model_readData_19 : decode c_Model_readData 19 = .ok (.istore 4, 2) := by decide +kernel
theorem d_Model_readData_21 : decode c_Model_readData 21 = .ok (.aload_n 0, 1) := by decide +kernel
theorem d_Model_readData_22 : decode c_Model_readData 22 = .ok (.getfield 107, 3) := by decide +kernel
theorem d_Model_readData_25 : decode c_Model_readData 25 = .ok (.ifCond .ne 114, 3) := by decide +kernel
theorem d_Model_readData_28 : decode c_Model_readData 28 = .ok (.iload 4, 2) := by decide +kernel
theorem d_Model_readData_30 : decode c_Model_readData 30 = .ok (.sipush 255, 3) := by decide +kernel
theorem d_Model_readData_33 : decode c_Model_readData 33 = .ok (.if_icmp .ne 106, 3) := by decide +kernel
theorem d_Model_readData_36 : decode c_Model_readData 36 = .ok (.aload_n 0, 1) := by decide +kernel
theorem d_Model_readData_37 : decode c_Model_readData 37 = .ok (.invokevirtual 128, 3) := by decide +kernel
theorem d_Model_readData_40 : decode c_Model_readData 40 = .ok (.istore 5, 2) := by decide +kernel
theorem d_Model_readData_42 : decode c_Model_readData 42 = .ok (.iload 5, 2) := by decide +kernel
theorem d_Model_readData_44 : decode c_Model_readData 44 = .ok (.sipush 208, 3) := by decide +kernel
theorem d_Model_readData_47 : decode c_Model_readData 47 = .ok (.if_icmp .lt 15, 3) := by decide +kernel
theorem d_Model_readData_50 : decode c_Model_readData 50 = .ok (.iload 5, 2) := by decide +kernel
theorem d_Model_readData_52 : decode c_Model_readData 52 = .ok (.sipush 215, 3) := by decide +kernel
theorem d_Model_readData_55 : decode c_Model_readData 55 = .ok (.if_icmp .gt 7, 3) := by decide +kernel
theorem d_Model_readData_58 : decode c_Model_readData 58 = .ok (.iconst 1, 1) := by decide +kernel
theorem d_Model_readData_59 : decode c_Model_readData 59 = .ok (.goto 4, 3) := by decide +kernel
theorem d_Model_readData_62 : decode c_Model_readData 62 = .ok (.iconst 0, 1) := by decide +kernel
theorem d_Model_readData_63 : decode c_Model_readData 63 = .ok (.istore 6, 2) := by decide +kernel
theorem d_Model_readData_65 : decode c_Model_readData 65 = .ok (.aload_n 0, 1) := by decide +kernel
theorem d_Model_readData_66 : decode c_Model_readData 66 = .ok (.getfield 107, 3) := by decide +kernel
theorem d_Model_readData_69 : decode c_Model_readData 69 = .ok (.ifCond .ne 41, 3) := by decide +kernel
theorem d_Model_readData_72 : decode c_Model_readData 72 = .ok (.iload 6, 2) := by decide +kernel
theorem d_Model_readData_74 : decode c_Model_readData 74 = .ok (.ifCond .eq 36, 3) := by decide +kernel
theorem d_Model_readData_77 : decode c_Model_readData 77 = .ok (.aload_n 0, 1) := by decide +kernel
theorem d_Model_readData_78 : decode c_Model_readData 78 = .ok (.getfield 98, 3) := by decide +kernel
theorem d_Model_readData_81 : decode c_Model_readData 81 = .ok (.ifCond .eq 16, 3) := by decide +kernel
theorem d_Model_readData_84 : decode c_Model_readData 84 = .ok (.iload 5, 2) := by decide +kernel
theorem d_Model_readData_86 : decode c_Model_readData 86 = .ok (.sipush 208, 3) := by decide +kernel
theorem d_Model_readData_89 : decode c_Model_readData 89 = .ok (.iload_n 2, 1) := by decide +kernel
theorem d_Model_readData_90 : decode c_Model_readData 90 = .ok (.bipush 8, 2) := by decide +kernel
theorem d_Model_readData_92 : decode c_Model_readData 92 = .ok (.irem, 1) := by decide +kernel
theorem d_Model_readData_93 : decode c_Model_readData 93 = .ok (.iadd, 1) := by decide +kernel
theorem d_Model_readData_94 : decode c_Model_readData 94 = .ok (.if_icmp .eq 16, 3) := by decide +kernel
theorem d_Model_readData_97 : decode c_Model_readData 97 = .ok (.aload_n 0, 1) := by decide +kernel
theorem d_Model_readData_98 : decode c_Model_readData 98 = .ok (.iconst 4, 1) := by decide +kernel
theorem d_Model_readData_99 : decode c_Model_readData 99 = .ok (.aload_n 0, 1) := by decide +kernel
theorem d_Model_readData_100 : decode c_Model_readData 100 = .ok (.getfield 113, 3) := by decide +kernel
theorem d_Model_readData_103 : decode c_Model_readData 103 = .ok (.iconst 1, 1) := by decide +kernel
theorem d_Model_readData_104 : decode c_Model_readData 104 = .ok (.isub, 1) := by decide +kernel
theorem d_Model_readData_105 : decode c_Model_readData 105 = .ok (.invokevirtual 120, 3) := by decide +kernel
theorem d_Model_readData_108 : decode c_Model_readData 108 = .ok (.istore 7, 2) := by decide +kernel
theorem d_Model_readData_110 : decode c_Model_readData 110 = .ok (.iload_n 2, 1) := by decide +kernel
theorem d_Model_readData_111 : decode c_Model_readData 111 = .ok (.iload 6, 2) := by decide +kernel
theorem d_Model_readData_113 : decode c_Model_readData 113 = .ok (.ifCond .eq 7, 3) := by decide +kernel
theorem d_Model_readData_116 : decode c_Model_readData 116 = .ok (.iconst 1, 1) := by decide +kernel
theorem d_Model_readData_117 : decode c_Model_readData 117 = .ok (.goto 4, 3) := by decide +kernel
theorem d_Model_readData_120 : decode c_Model_readData 120 = .ok (.iconst 0, 1) := by decide +kernel
theorem d_Model_readData_121 : decode c_Model_readData 121 = .ok (.iadd, 1) := by decide +kernel
theorem d_Model_readData_122 : decode c_Model_readData 122 = .ok (.istore_n 2, 1) := by decide +kernel
theorem d_Model_readData_123 : decode c_Model_readData 123 = .ok (.iload 5, 2) := by decide +kernel
theorem d_Model_readData_125 : decode c_Model_readData 125 = .ok (.ifCond .eq 8, 3) := by decide +kernel
theorem d_Model_readData_128 : decode c_Model_readData 128 = .ok (.iload 6, 2) := by decide +kernel
theorem d_Model_readData_130 : decode c_Model_readData 130 = .ok (.ifCond .eq 7, 3) := by decide +kernel
theorem d_Model_readData_133 : decode c_Model_readData 133 = .ok (.iconst 1, 1) := by decide +kernel
theorem d_Model_readData_134 : decode c_Model_readData 134 = .ok (.goto 4, 3) := by decide +kernel
theorem d_Model_readData_137 : decode c_Model_readData 137 = .ok (.iconst 0, 1) := by decide +kernel
theorem d_Model_readData_138 : decode c_Model_readData 138 = .ok (.istore_n 3, 1) := by decide +kernel
theorem d_Model_readData_139 : decode c_Model_readData 139 = .ok (.goto (-135), 3) := by decide +kernel
theorem d_Model_readData_142 : decode c_Model_readData 142 = .ok (.aload_n 0, 1) := by decide +kernel
theorem d_Model_readData_143 : decode c_Model_readData 143 = .ok (.aload_n 0, 1) := by decide +kernel
theorem d_Model_readData_144 : decode c_Model_readData 144 = .ok (.getfield 107, 3) := by decide +kernel
theorem d_Model_readData_147 : decode c_Model_readData 147 = .ok (.ifCond .ne 12, 3) := by decide +kernel
theorem d_Model_readData_150 : decode c_Model_readData 150 = .ok (.aload_n 0, 1) := by decide +kernel
theorem d_Model_readData_151 : decode c_Model_readData 151 = .ok (.getfield 113, 3) := by decide +kernel
theorem d_Model_readData_154 : decode c_Model_readData 154 = .ok (.iconst 2, 1) := by decide +kernel
theorem d_Model_readData_155 : decode c_Model_readData 155 = .ok (.isub, 1) := by decide +kernel
theorem d_Model_readData_156 : decode c_Model_readData 156 = .ok (.goto 7, 3) := by decide +kernel
theorem d_Model_readData_159 : decode c_Model_readData 159 = .ok (.aload_n 0, 1) := by decide +kernel
theorem d_Model_readData_160 : decode c_Model_readData 160 = .ok (.getfield 113, 3) := by decide +kernel
theorem d_Model_readData_163 : decode c_Model_readData 163 = .ok (.putfield 113, 3) := by decide +kernel
theorem d_Model_readData_166 : decode c_Model_readData 166 = .ok (.aload_n 0, 1) := by decide +kernel
theorem d_Model_readData_167 : decode c_Model_readData 167 = .ok (.getfield 53, 3) := by decide +kernel
theorem d_Model_readData_170 : decode c_Model_readData 170 = .ok (.iload_n 1, 1) := by decide +kernel
theorem d_Model_readData_171 : decode c_Model_readData 171 = .ok (.bipush 6, 2) := by decide +kernel
theorem d_Model_readData_173 : decode c_Model_readData 173 = .ok (.iadd, 1) := by decide +kernel
theorem d_Model_readData_174 : decode c_Model_readData 174 = .ok (.aload_n 0, 1) := by decide +kernel
theorem d_Model_readData_175 : decode c_Model_readData 175 = .ok (.getfield 113, 3) := by decide +kernel
theorem d_Model_readData_178 : decode c_Model_readData 178 = .ok (.aload_n 0, 1) := by decide +kernel
theorem d_Model_readData_179 : decode c_Model_readData 179 = .ok (.getfield 53, 3) := by decide +kernel
theorem d_Model_readData_182 : decode c_Model_readData 182 = .ok (.iload_n 1, 1) := by decide +kernel
theorem d_Model_readData_183 : decode c_Model_readData 183 = .ok (.iconst 5, 1) := by decide +kernel
theorem d_Model_readData_184 : decode c_Model_readData 184 = .ok (.iadd, 1) := by decide +kernel
theorem d_Model_readData_185 : decode c_Model_readData 185 = .ok (.iaload, 1) := by decide +kernel
theorem d_Model_readData_186 : decode c_Model_readData 186 = .ok (.isub, 1) := by decide +kernel
theorem d_Model_readData_187 : decode c_Model_readData 187 = .ok (.iastore, 1) := by decide +kernel
theorem d_Model_readData_188 : decode c_Model_readData 188 = .ok (.aload_n 0, 1) := by decide +kernel
theorem d_Model_readData_189 : decode c_Model_readData 189 = .ok (.getfield 53, 3) := by decide +kernel
theorem d_Model_readData_192 : decode c_Model_readData 192 = .ok (.iload_n 1, 1) := by decide +kernel
theorem d_Model_readData_193 : decode c_Model_readData 193 = .ok (.bipush 7, 2) := by decide +kernel
theorem d_Model_readData_195 : decode c_Model_readData 195 = .ok (.iadd, 1) := by decide +kernel
theorem d_Model_readData_196 : decode c_Model_readData 196 = .ok (.iload_n 2, 1) := by decide +kernel
theorem d_Model_readData_197 : decode c_Model_readData 197 = .ok (.iastore, 1) := by decide +kernel
theorem d_Model_readData_198 : decode c_Model_readData 198 = .ok (.aload_n 0, 1) := by decide +kernel
theorem d_Model_readData_199 : decode c_Model_readData 199 = .ok (.dup, 1) := by decide +kernel
theorem d_Model_readData_200 : decode c_Model_readData 200 = .ok (.getfield 101, 3) := by decide +kernel
theorem d_Model_readData_203 : decode c_Model_readData 203 = .ok (.iconst 1, 1) := by decide +kernel
theorem d_Model_readData_204 : decode c_Model_readData 204 = .ok (.iadd, 1) := by decide +kernel
theorem d_Model_readData_205 : decode c_Model_readData 205 = .ok (.putfield 101, 3) := by decide +kernel
theorem d_Model_readData_208 : decode c_Model_readData 208 = .ok (.return_, 1) := by decide +kernel
theorem d_Model_segment_0 : decode c_Model_segment 0 = .ok (.aload_n 0, 1) := by decide +kernel
theorem d_Model_segment_1 : decode c_Model_segment 1 = .ok (.iconst 0, 1) := by decide +kernel
theorem d_Model_segment_2 : decode c_Model_segment 2 = .ok (.putfield 77, 3) := by decide +kernel
theorem d_Model_segment_5 : decode c_Model_segment 5 = .ok (.iload_n 1, 1) := by decide +kernel
theorem d_Model_segment_6 : decode c_Model_segment 6 = .ok (.ifCond .lt 20, 3) := by decide +kernel
theorem d_Model_segment_9 : decode c_Model_segment 9 = .ok (.iload_n 1, 1) := by decide +kernel
theorem d_Model_segment_10 : decode c_Model_segment 10 = .ok (.aload_n 0, 1) := by decide +kernel
theorem d_Model_segment_11 : decode c_Model_segment 11 = .ok (.getfield 83, 3) := by decide +kernel
theorem d_Model_segment_14 : decode c_Model_segment 14 = .ok (.if_icmp .ge 12, 3) := by decide +kernel
theorem d_Model_segment_17 : decode c_Model_segment 17 = .ok (.iload_n 2, 1) := by decide +kernel
theorem d_Model_segment_18 : decode c_Model_segment 18 = .ok (.ifCond .lt 8, 3) := by decide +kernel
theorem d_Model_segment_21 : decode c_Model_segment 21 = .ok (.iload_n 2, 1) := by decide +kernel
theorem d_Model_segment_22 : decode c_Model_segment 22 = .ok (.iconst 3, 1) := by decide +kernel
theorem d_Model_segment_23 : decode c_Model_segment 23 = .ok (.if_icmp .le 7, 3) := by decide +kernel
theorem d_Model_segment_26 : decode c_Model_segment 26 = .ok (.iconst (-1), 1) := by decide +kernel
theorem d_Model_segment_27 : decode c_Model_segment 27 = .ok (.goto 13, 3) := by decide +kernel
theorem d_Model_segment_30 : decode c_Model_segment 30 = .ok (.aload_n 0, 1) := by decide +kernel
theorem d_Model_segment_31 : decode c_Model_segment 31 = .ok (.getfield 17, 3) := by decide +kernel
theorem d_Model_segment_34 : decode c_Model_segment 34 = .ok (.iconst 4, 1) := by decide +kernel
theorem d_Model_segment_35 : decode c_Model_segment 35 = .ok (.iload_n 1, 1) := by decide +kernel
theorem d_Model_segment_36 : decode c_Model_segment 36 = .ok (.imul, 1) := by decide +kernel
theorem d_Model_segment_37 : decode c_Model_segment 37 = .ok (.iload_n 2, 1) := by decide +kernel
theorem d_Model_segment_38 : decode c_Model_segment 38 = .ok (.iadd, 1) := by decide +kernel
theorem d_Model_segment_39 : decode c_Model_segment 39 = .ok (.iaload, 1) := by decide +kernel
theorem d_Model_segment_40 : decode c_Model_segment 40 = .ok (.ireturn, 1) := by decide +kernel
theorem d_Model_frame_0 : decode c_Model_frame 0 = .ok (.aload_n 0, 1) := by decide +kernel
theorem d_Model_frame_1 : decode c_Model_frame 1 = .ok (.iconst 0, 1) := by decide +kernel
theorem d_Model_frame_2 : decode c_Model_frame 2 = .ok (.putfield 77, 3) := by decide +kernel
theorem d_Model_frame_5 : decode c_Model_frame 5 = .ok (.aload_n 0, 1) := by decide +kernel
theorem d_Model_frame_6 : decode c_Model_frame 6 = .ok (.getfield 86, 3) := by decide +kernel
theorem d_Model_frame_9 : decode c_Model_frame 9 = .ok (.ifCond .ne 5, 3) := by decide +kernel
theorem d_Model_frame_12 : decode c_Model_frame 12 = .ok (.iconst (-1), 1) := by decide +kernel
theorem d_Model_frame_13 : decode c_Model_frame 13 = .ok (.ireturn, 1) := by decide +kernel
theorem d_Model_frame_14 : decode c_Model_frame 14 = .ok (.iconst 0, 1) := by decide +kernel
theorem d_Model_frame_15 : decode c_Model_frame 15 = .ok (.istore_n 2, 1) := by decide +kernel
theorem d_Model_frame_16 : decode c_Model_frame 16 = .ok (.iconst 0, 1) := by decide +kernel
theorem d_Model_frame_17 : decode c_Model_frame 17 = .ok (.istore_n 3, 1) := by decide +kernel
theorem d_Model_frame_18 : decode c_Model_frame 18 = .ok (.iconst 0, 1) := by decide +kernel
theorem d_Model_frame_19 : decode c_Model_frame 19 = .ok (.istore 4, 2) := by decide +kernel
theorem d_Model_frame_21 : decode c_Model_frame 21 = .ok (.iload 4, 2) := by decide +kernel
theorem d_Model_frame_23 : decode c_Model_frame 23 = .ok (.aload_n 0, 1) := by decide +kernel
theorem d_Model_frame_24 : decode c_Model_frame 24 = .ok (.getfield 95, 3) := by decide +kernel
theorem d_Model_frame_27 : decode c_Model_frame 27 = .ok (.if_icmp .ge 55, 3) := by decide +kernel
theorem d_Model_frame_30 : decode c_Model_frame 30 = .ok (.aload_n 0, 1) := by decide +kernel
theorem d_Model_frame_31 : decode c_Model_frame 31 = .ok (.getfield 24, 3) := by decide +kernel
theorem d_Model_frame_34 : decode c_Model_frame 34 = .ok (.iload 4, 2) := by decide +kernel
theorem d_Model_frame_36 : decode c_Model_frame 36 = .ok (.iaload, 1) := by decide +kernel
theorem d_Model_frame_37 : decode c_Model_frame 37 = .ok (.iload_n 2, 1) := by decide +kernel
theorem d_Model_frame_38 : decode c_Model_frame 38 = .ok (.if_icmp .le 13, 3) := by decide +kernel
theorem d_Model_frame_41 : decode c_Model_frame 41 = .ok (.aload_n 0, 1) := by decide +kernel
theorem d_Model_frame_42 : decode c_Model_frame 42 = .ok (.getfield 24, 3) := by decide +kernel
theorem d_Model_frame_45 : decode c_Model_frame 45 = .ok (.iload 4, 2) := by decide +kernel
theorem d_Model_frame_47 : decode c_Model_frame 47 = .ok (.iaload, 1) := by decide +kernel
theorem d_Model_frame_48 : decode c_Model_frame 48 = .ok (.goto 4, 3) := by decide +kernel
theorem d_Model_frame_51 : decode c_Model_frame 51 = .ok (.iload_n 2, 1) := by decide +kernel
theorem d_Model_frame_52 : decode c_Model_frame 52 = .ok (.istore_n 2, 1) := by decide +kernel
theorem d_Model_frame_53 : decode c_Model_frame 53 = .ok (.aload_n 0, 1) := by decide +kernel
theorem d_Model_frame_54 : decode c_Model_frame 54 = .ok (.getfield 27, 3) := by decide +kernel
theorem d_Model_frame_57 : decode c_Model_frame 57 = .ok (.iload 4, 2) := by decide +kernel
theorem d_Model_frame_59 : decode c_Model_frame 59 = .ok (.iaload, 1) := by decide +kernel
theorem d_Model_frame_60 : decode c_Model_frame 60 = .ok (.iload_n 3, 1) := by decide +kernel
theorem d_Model_frame_61 : decode c_Model_frame 61 = .ok (.if_icmp .le 13, 3) := by decide +kernel
theorem d_Model_frame_64 : decode c_Model_frame 64 = .ok (.aload_n 0, 1) := by decide +kernel
theorem d_Model_frame_65 : decode c_Model_frame 65 = .ok (.getfield 27, 3) := by decide +kernel
theorem d_Model_frame_68 : decode c_Model_frame 68 = .ok (.iload 4, 2) := by decide +kernel
theorem d_Model_frame_70 : decode c_Model_frame 70 = .ok (.iaload, 1) := by decide +kernel
theorem d_Model_frame_71 : decode c_Model_frame 71 = .ok (.goto 4, 3) := by decide +kernel
theorem d_Model_frame_74 : decode c_Model_frame 74 = .ok (.iload_n 3, 1) := by decide +kernel
theorem d_Model_frame_75 : decode c_Model_frame 75 = .ok (.istore_n 3, 1) := by decide +kernel
theorem d_Model_frame_76 : decode c_Model_frame 76 = .ok (.iinc 4 1, 3) := by decide +kernel
theorem d_Model_frame_79 : decode c_Model_frame 79 = .ok (.goto (-58), 3) := by decide +kernel
theorem d_Model_frame_82 : decode c_Model_frame 82 = .ok (.iload_n 1, 1) := by decide +kernel
theorem d_Model_frame_83 : decode c_Model_frame 83 = .ok (.ifCond .ne 10, 3) := by decide +kernel
theorem d_Model_frame_86 : decode c_Model_frame 86 = .ok (.aload_n 0, 1) := by decide +kernel
theorem d_Model_frame_87 : decode c_Model_frame 87 = .ok (.getfield 86, 3) := by decide +kernel
theorem d_Model_frame_90 : decode c_Model_frame 90 = .ok (.goto 58, 3) := by decide +kernel
theorem d_Model_frame_93 : decode c_Model_frame 93 = .ok (.iload_n 1, 1) := by decide +kernel
theorem d_Model_frame_94 : decode c_Model_frame 94 = .ok (.iconst 1, 1) := by decide +kernel
theorem d_Model_frame_95 : decode c_Model_frame 95 = .ok (.if_icmp .ne 10, 3) := by decide +kernel
theorem d_Model_frame_98 : decode c_Model_frame 98 = .ok (.aload_n 0, 1) := by decide +kernel
theorem d_Model_frame_99 : decode c_Model_frame 99 = .ok (.getfield 89, 3) := by decide +kernel
theorem d_Model_frame_102 : decode c_Model_frame 102 = .ok (.goto 46, 3) := by decide +kernel
theorem d_Model_frame_105 : decode c_Model_frame 105 = .ok (.iload_n 1, 1) := by decide +kernel
theorem d_Model_frame_106 : decode c_Model_frame 106 = .ok (.iconst 2, 1) := by decide +kernel
theorem d_Model_frame_107 : decode c_Model_frame 107 = .ok (.if_icmp .ne 10, 3) := by decide +kernel
theorem d_Model_frame_110 : decode c_Model_frame 110 = .ok (.aload_n 0, 1) := by decide +kernel
theorem d_Model_frame_111 : decode c_Model_frame 111 = .ok (.getfield 92, 3) := by decide +kernel
theorem d_Model_frame_114 : decode c_Model_frame 114 = .ok (.goto 34, 3) := by decide +kernel
theorem d_Model_frame_117 : decode c_Model_frame 117 = .ok (.iload_n 1, 1) := by decide +kernel
theorem d_Model_frame_118 : decode c_Model_frame 118 = .ok (.iconst 3, 1) := by decide +kernel
theorem d_Model_frame_119 : decode c_Model_frame 119 = .ok (.if_icmp .ne 10, 3) := by decide +kernel
theorem d_Model_frame_122 : decode c_Model_frame 122 = .ok (.aload_n 0, 1) := by decide +kernel
theorem d_Model_frame_123 : decode c_Model_frame 123 = .ok (.getfield 95, 3) := by decide +kernel
theorem d_Model_frame_126 : decode c_Model_frame 126 = .ok (.goto 22, 3) := by decide +kernel
theorem d_Model_frame_129 : decode c_Model_frame 129 = .ok (.iload_n 1, 1) := by decide +kernel
theorem d_Model_frame_130 : decode c_Model_frame 130 = .ok (.iconst 4, 1) := by decide +kernel
theorem d_Model_frame_131 : decode c_Model_frame 131 = .ok (.if_icmp .ne 7, 3) := by decide +kernel
theorem d_Model_frame_134 : decode c_Model_frame 134 = .ok (.iload_n 2, 1) := by decide +kernel
theorem d_Model_frame_135 : decode c_Model_frame 135 = .ok (.goto 13, 3) := by decide +kernel
theorem d_Model_frame_138 : decode c_Model_frame 138 = .ok (.iload_n 1, 1) := by decide +kernel
theorem d_Model_frame_139 : decode c_Model_frame 139 = .ok (.iconst 5, 1) := by decide +kernel
theorem d_Model_frame_140 : decode c_Model_frame 140 = .ok (.if_icmp .ne 7, 3) := by decide +kernel
theorem d_Model_frame_143 : decode c_Model_frame 143 = .ok (.iload_n 3, 1) := by decide +kernel
theorem d_Model_frame_144 : decode c_Model_frame 144 = .ok (.goto 4, 3) := by decide +kernel
theorem d_Model_frame_147 : decode c_Model_frame 147 = .ok (.iconst (-1), 1) := by decide +kernel
theorem d_Model_frame_148 : decode c_Model_frame 148 = .ok (.ireturn, 1) := by decide +kernel
theorem d_Model_component_0 : decode c_Model_component 0 = .ok (.aload_n 0, 1) := by decide +kernel
theorem d_Model_component_1 : decode c_Model_component 1 = .ok (.iconst 0, 1) := by decide +kernel
theorem d_Model_component_2 : decode c_Model_component 2 = .ok (.putfield 77, 3) := by decide +kernel
theorem d_Model_component_5 : decode c_Model_component 5 = .ok (.iload_n 1, 1) := by decide +kernel
theorem d_Model_component_6 : decode c_Model_component 6 = .ok (.ifCond .lt 11, 3) := by decide +kernel
theorem d_Model_component_9 : decode c_Model_component 9 = .ok (.iload_n 1, 1) := by decide +kernel
theorem d_Model_component_10 : decode c_Model_component 10 = .ok (.aload_n 0, 1) := by decide +kernel
theorem d_Model_component_11 : decode c_Model_component 11 = .ok (.getfield 95, 3) := by decide +kernel
theorem d_Model_component_14 : decode c_Model_component 14 = .ok (.if_icmp .lt 5, 3) := by decide +kernel
theorem d_Model_component_17 : decode c_Model_component 17 = .ok (.iconst (-1), 1) := by decide +kernel
theorem d_Model_component_18 : decode c_Model_component 18 = .ok (.ireturn, 1) := by decide +kernel
theorem d_Model_component_19 : decode c_Model_component 19 = .ok (.iload_n 2, 1) := by decide +kernel
theorem d_Model_component_20 : decode c_Model_component 20 = .ok (.ifCond .ne 12, 3) := by decide +kernel
theorem d_Model_component_23 : decode c_Model_component 23 = .ok (.aload_n 0, 1) := by decide +kernel
theorem d_Model_component_24 : decode c_Model_component 24 = .ok (.getfield 21, 3) := by decide +kernel
theorem d_Model_component_27 : decode c_Model_component 27 = .ok (.iload_n 1, 1) := by decide +kernel
theorem d_Model_component_28 : decode c_Model_component 28 = .ok (.iaload, 1) := by decide +kernel
theorem d_Model_component_29 : decode c_Model_component 29 = .ok (.goto 46, 3) := by decide +kernel
theorem d_Model_component_32 : decode c_Model_component 32 = .ok (.iload_n 2, 1) := by decide +kernel
theorem d_Model_component_33 : decode c_Model_component 33 = .ok (.iconst 1, 1) := by decide +kernel
theorem d_Model_component_34 : decode c_Model_component 34 = .ok (.if_icmp .ne 12, 3) := by decide +kernel
theorem d_Model_component_37 : decode c_Model_component 37 = .ok (.aload_n 0, 1) := by decide +kernel
theorem d_Model_component_38 : decode c_Model_component 38 = .ok (.getfield 24, 3) := by decide +kernel
theorem d_Model_component_41 : decode c_Model_component 41 = .ok (.iload_n 1, 1) := by decide +kernel
theorem d_Model_component_42 : decode c_Model_component 42 = .ok (.iaload, 1) := by decide +kernel
theorem d_Model_component_43 : decode c_Model_component 43 = .ok (.goto 32, 3) := by decide +kernel
theorem d_Model_component_46 : decode c_Model_component 46 = .ok (.iload_n 2, 1) := by decide +kernel
theorem d_Model_component_47 : decode c_Model_component 47 = .ok (.iconst 2, 1) := by decide +kernel
theorem d_Model_component_48 : decode c_Model_component 48 = .ok (.if_icmp .ne 12, 3) := by decide +kernel
theorem d_Model_component_51 : decode c_Model_component 51 = .ok (.aload_n 0, 1) := by decide +kernel
theorem d_Model_component_52 : decode c_Model_component 52 = .ok (.getfield 27, 3) := by decide +kernel
theorem d_Model_component_55 : decode c_Model_component 55 = .ok (.iload_n 1, 1) := by decide +kernel
theorem d_Model_component_56 : decode c_Model_component 56 = .ok (.iaload, 1) := by decide +kernel
theorem d_Model_component_57 : decode c_Model_component 57 = .ok (.goto 18, 3) := by decide +kernel
theorem d_Model_component_60 : decode c_Model_component 60 = .ok (.iload_n 2, 1) := by decide +kernel
theorem d_Model_component_61 : decode c_Model_component 61 = .ok (.iconst 3, 1) := by decide +kernel
theorem d_Model_component_62 : decode c_Model_component 62 = .ok (.if_icmp .ne 12, 3) := by decide +kernel
theorem d_Model_component_65 : decode c_Model_component 65 = .ok (.aload_n 0, 1) := by decide +kernel
theorem d_Model_component_66 : decode c_Model_component 66 = .ok (.getfield 30, 3) := by decide +kernel
theorem d_Model_component_69 : decode c_Model_component 69 = .ok (.iload_n 1, 1) := by decide +kernel
theorem d_Model_component_70 : decode c_Model_component 70 = .ok (.iaload, 1) := by decide +kernel
theorem d_Model_component_71 : decode c_Model_component 71 = .ok (.goto 4, 3) := by decide +kernel
theorem d_Model_component_74 : decode c_Model_component 74 = .ok (.iconst (-1), 1) := by decide +kernel
theorem d_Model_component_75 : decode c_Model_component 75 = .ok (.ireturn, 1) := by decide +kernel
theorem d_Model_scan_0 : decode c_Model_scan 0 = .ok (.aload_n 0, 1) := by decide +kernel
theorem d_Model_scan_1 : decode c_Model_scan 1 = .ok (.iconst 0, 1) := by decide +kernel
theorem d_Model_scan_2 : decode c_Model_scan 2 = .ok (.putfield 77, 3) := by decide +kernel
theorem d_Model_scan_5 : decode c_Model_scan 5 = .ok (.iload_n 1, 1) := by decide +kernel
theorem d_Model_scan_6 : decode c_Model_scan 6 = .ok (.ifCond .lt 15, 3) := by decide +kernel
theorem d_Model_scan_9 : decode c_Model_scan 9 = .ok (.iload_n 1, 1) := by decide +kernel
theorem d_Model_scan_10 : decode c_Model_scan 10 = .ok (.aload_n 0, 1) := by decide +kernel
theorem d_Model_scan_11 : decode c_Model_scan 11 = .ok (.getfield 101, 3) := by decide +kernel
theorem d_Model_scan_14 : decode c_Model_scan 14 = .ok (.if_icmp .ge 7, 3) := by decide +kernel
theorem d_Model_scan_17 : decode c_Model_scan 17 = .ok (.iload_n 2, 1) := by decide +kernel
theorem d_Model_scan_18 : decode c_Model_scan 18 = .ok (.ifCond .ge 5, 3) := by decide +kernel
theorem d_Model_scan_21 : decode c_Model_scan 21 = .ok (.iconst (-1), 1) := by decide +kernel
theorem d_Model_scan_22 : decode c_Model_scan 22 = .ok (.ireturn, 1) := by decide +kernel
theorem d_Model_scan_23 : decode c_Model_scan 23 = .ok (.iload_n 2, 1) := by decide +kernel
theorem d_Model_scan_24 : decode c_Model_scan 24 = .ok (.bipush 9, 2) := by decide +kernel
theorem d_Model_scan_26 : decode c_Model_scan 26 = .ok (.if_icmp .ge 15, 3) := by decide +kernel
theorem d_Model_scan_29 : decode c_Model_scan 29 = .ok (.aload_n 0, 1) := by decide +kernel
theorem d_Model_scan_30 : decode c_Model_scan 30 = .ok (.getfield 53, 3) := by decide +kernel
theorem d_Model_scan_33 : decode c_Model_scan 33 = .ok (.bipush 30, 2) := by decide +kernel
theorem d_Model_scan_35 : decode c_Model_scan 35 = .ok (.iload_n 1, 1) := by decide +kernel
theorem d_Model_scan_36 : decode c_Model_scan 36 = .ok (.imul, 1) := by decide +kernel
theorem d_Model_scan_37 : decode c_Model_scan 37 = .ok (.iload_n 2, 1) := by decide +kernel
theorem d_Model_scan_38 : decode c_Model_scan 38 = .ok (.iadd, 1) := by decide +kernel
theorem d_Model_scan_39 : decode c_Model_scan 39 = .ok (.iaload, 1) := by decide +kernel
theorem d_Model_scan_40 : decode c_Model_scan 40 = .ok (.ireturn, 1) := by decide +kernel
theorem d_Model_scan_41 : decode c_Model_scan 41 = .ok (.iload_n 2, 1) := by decide +kernel
theorem d_Model_scan_42 : decode c_Model_scan 42 = .ok (.bipush 16, 2) := by decide +kernel
theorem d_Model_scan_44 : decode c_Model_scan 44 = .ok (.if_icmp .lt 32, 3) := by decide +kernel
theorem d_Model_scan_47 : decode c_Model_scan 47 = .ok (.iload_n 2, 1) := by decide +kernel
theorem d_Model_scan_48 : decode c_Model_scan 48 = .ok (.bipush 16, 2) := by decide +kernel
theorem d_Model_scan_50 : decode c_Model_scan 50 = .ok (.isub, 1) := by decide +kernel
theorem d_Model_scan_51 : decode c_Model_scan 51 = .ok (.iconst 4, 1) := by decide +kernel
theorem d_Model_scan_52 : decode c_Model_scan 52 = .ok (.idiv, 1) := by decide +kernel
theorem d_Model_scan_53 : decode c_Model_scan 53 = .ok (.aload_n 0, 1) := by decide +kernel
theorem d_Model_scan_54 : decode c_Model_scan 54 = .ok (.getfield 53, 3) := by decide +kernel
theorem d_Model_scan_57 : decode c_Model_scan 57 = .ok (.bipush 30, 2) := by decide +kernel
theorem d_Model_scan_59 : decode c_Model_scan 59 = .ok (.iload_n 1, 1) := by decide +kernel
theorem d_Model_scan_60 : decode c_Model_scan 60 = .ok (.imul, 1) := by decide +kernel
theorem d_Model_scan_61 : decode c_Model_scan 61 = .ok (.iaload, 1) := by decide +kernel
theorem d_Model_scan_62 : decode c_Model_scan 62 = .ok (.if_icmp .ge 14, 3) := by decide +kernel
theorem d_Model_scan_65 : decode c_Model_scan 65 = .ok (.iload_n 2, 1) := by decide +kernel
theorem d_Model_scan_66 : decode c_Model_scan 66 = .ok (.iconst 4, 1) := by decide +kernel
theorem d_Model_scan_67 : decode c_Model_scan 67 = .ok (.irem, 1) := by decide +kernel
theorem d_Model_scan_68 : decode c_Model_scan 68 = .ok (.iconst 3, 1) := by decide +kernel
theorem d_Model_scan_69 : decode c_Model_scan 69 = .ok (.if_icmp .ge 7, 3) := by decide +kernel
theorem d_Model_scan_72 : decode c_Model_scan 72 = .ok (.iconst 1, 1) := by decide +kernel
theorem d_Model_scan_73 : decode c_Model_scan 73 = .ok (.goto 4, 3) := by decide +kernel
theorem d_Model_scan_76 : decode c_Model_scan 76 = .ok (.iconst 0, 1) := by decide +kernel
theorem d_Model_scan_77 : decode c_Model_scan 77 = .ok (.istore_n 3, 1) := by decide +kernel
theorem d_Model_scan_78 : decode c_Model_scan 78 = .ok (.iload_n 3, 1) := by decide +kernel
theorem d_Model_scan_79 : decode c_Model_scan 79 = .ok (.ifCond .eq 23, 3) := by decide +kernel
theorem d_Model_scan_82 : decode c_Model_scan 82 = .ok (.aload_n 0, 1) := by decide +kernel
theorem d_Model_scan_83 : decode c_Model_scan 83 = .ok (.getfield 53, 3) := by decide +kernel
theorem d_Model_scan_86 : decode c_Model_scan 86 = .ok (.bipush 30, 2) := by decide +kernel
theorem d_Model_scan_88 : decode c_Model_scan 88 = .ok (.iload_n 1, 1) := by decide +kernel
theorem d_Model_scan_89 : decode c_Model_scan 89 = .ok (.imul, 1) := by decide +kernel
theorem d_Model_scan_90 : decode c_Model_scan 90 = .ok (.bipush 10, 2) := by decide +kernel
theorem d_Model_scan_92 : decode c_Model_scan 92 = .ok (.iadd, 1) := by decide +kernel
theorem d_Model_scan_93 : decode c_Model_scan 93 = .ok (.iload_n 2, 1) := by decide +kernel
theorem d_Model_scan_94 : decode c_Model_scan 94 = .ok (.iadd, 1) := by decide +kernel
theorem d_Model_scan_95 : decode c_Model_scan 95 = .ok (.bipush 16, 2) := by decide +kernel
theorem d_Model_scan_97 : decode c_Model_scan 97 = .ok (.isub, 1) := by decide +kernel
theorem d_Model_scan_98 : decode c_Model_scan 98 = .ok (.iaload, 1) := by decide +kernel
theorem d_Model_scan_99 : decode c_Model_scan 99 = .ok (.goto 4, 3) := by decide +kernel
theorem d_Model_scan_102 : decode c_Model_scan 102 = .ok (.iconst (-1), 1) := by decide +kernel
theorem d_Model_scan_103 : decode c_Model_scan 103 = .ok (.ireturn, 1) := by decide +kernel
theorem d_Model_data_0 : decode c_Model_data 0 = .ok (.aload_n 0, 1) := by decide +kernel
theorem d_Model_data_1 : decode c_Model_data 1 = .ok (.iconst 0, 1) := by decide +kernel
theorem d_Model_data_2 : decode c_Model_data 2 = .ok (.putfield 77, 3) := by decide +kernel
theorem d_Model_data_5 : decode c_Model_data 5 = .ok (.iload_n 1, 1) := by decide +kernel
theorem d_Model_data_6 : decode c_Model_data 6 = .ok (.ifCond .lt 15, 3) := by decide +kernel
theorem d_Model_data_9 : decode c_Model_data 9 = .ok (.iload_n 1, 1) := by decide +kernel
theorem d_Model_data_10 : decode c_Model_data 10 = .ok (.aload_n 0, 1) := by decide +kernel
theorem d_Model_data_11 : decode c_Model_data 11 = .ok (.getfield 101, 3) := by decide +kernel
theorem d_Model_data_14 : decode c_Model_data 14 = .ok (.if_icmp .ge 7, 3) := by decide +kernel
theorem d_Model_data_17 : decode c_Model_data 17 = .ok (.iload_n 2, 1) := by decide +kernel
theorem d_Model_data_18 : decode c_Model_data 18 = .ok (.ifCond .ge 5, 3) := by decide +kernel
theorem d_Model_data_21 : decode c_Model_data 21 = .ok (.iconst (-1), 1) := by decide +kernel
theorem d_Model_data_22 : decode c_Model_data 22 = .ok (.ireturn, 1) := by decide +kernel
theorem d_Model_data_23 : decode c_Model_data 23 = .ok (.aload_n 0, 1) := by decide +kernel
theorem d_Model_data_24 : decode c_Model_data 24 = .ok (.getfield 53, 3) := by decide +kernel
theorem d_Model_data_27 : decode c_Model_data 27 = .ok (.bipush 30, 2) := by decide +kernel
theorem d_Model_data_29 : decode c_Model_data 29 = .ok (.iload_n 1, 1) := by decide +kernel
theorem d_Model_data_30 : decode c_Model_data 30 = .ok (.imul, 1) := by decide +kernel
theorem d_Model_data_31 : decode c_Model_data 31 = .ok (.iconst 5, 1) := by decide +kernel
theorem d_Model_data_32 : decode c_Model_data 32 = .ok (.iadd, 1) := by decide +kernel
theorem d_Model_data_33 : decode c_Model_data 33 = .ok (.iaload, 1) := by decide +kernel
theorem d_Model_data_34 : decode c_Model_data 34 = .ok (.istore_n 3, 1) := by decide +kernel
theorem d_Model_data_35 : decode c_Model_data 35 = .ok (.iload_n 3, 1) := by decide +kernel
theorem d_Model_data_36 : decode c_Model_data 36 = .ok (.aload_n 0, 1) := by decide +kernel
theorem d_Model_data_37 : decode c_Model_data 37 = .ok (.getfield 53, 3) := by decide +kernel
theorem d_Model_data_40 : decode c_Model_data 40 = .ok (.bipush 30, 2) := by decide +kernel
theorem d_Model_data_42 : decode c_Model_data 42 = .ok (.iload_n 1, 1) := by decide +kernel
theorem d_Model_data_43 : decode c_Model_data 43 = .ok (.imul, 1) := by decide +kernel
theorem d_Model_data_44 : decode c_Model_data 44 = .ok (.bipush 6, 2) := by decide +kernel
theorem d_Model_data_46 : decode c_Model_data 46 = .ok (.iadd, 1) := by decide +kernel
theorem d_Model_data_47 : decode c_Model_data 47 = .ok (.iaload, 1) := by decide +kernel
theorem d_Model_data_48 : decode c_Model_data 48 = .ok (.iadd, 1) := by decide +kernel
theorem d_Model_data_49 : decode c_Model_data 49 = .ok (.istore 4, 2) := by decide +kernel
theorem d_Model_data_51 : decode c_Model_data 51 = .ok (.iload_n 2, 1) := by decide +kernel
theorem d_Model_data_52 : decode c_Model_data 52 = .ok (.istore 5, 2) := by decide +kernel
theorem d_Model_data_54 : decode c_Model_data 54 = .ok (.iload_n 3, 1) := by decide +kernel
theorem d_Model_data_55 : decode c_Model_data 55 = .ok (.iload 4, 2) := by decide +kernel
theorem d_Model_data_57 : decode c_Model_data 57 = .ok (.if_icmp .ge 78, 3) := by decide +kernel
theorem d_Model_data_60 : decode c_Model_data 60 = .ok (.aload_n 0, 1) := by decide +kernel
theorem d_Model_data_61 : decode c_Model_data 61 = .ok (.iload_n 3, 1) := by decide +kernel
theorem d_Model_data_62 : decode c_Model_data 62 = .ok (.invokevirtual 124, 3) := by decide +kernel
theorem d_Model_data_65 : decode c_Model_data 65 = .ok (.sipush 255, 3) := by decide +kernel
theorem d_Model_data_68 : decode c_Model_data 68 = .ok (.if_icmp .ne 7, 3) := by decide +kernel
theorem d_Model_data_71 : decode c_Model_data 71 = .ok (.iconst 1, 1) := by decide +kernel
theorem d_Model_data_72 : decode c_Model_data 72 = .ok (.goto 4, 3) := by decide +kernel
theorem d_Model_data_75 : decode c_Model_data 75 = .ok (.iconst 0, 1) := by decide +kernel
theorem d_Model_data_76 : decode c_Model_data 76 = .ok (.istore 6, 2) := by decide +kernel
theorem d_Model_data_78 : decode c_Model_data 78 = .ok (.iload 6, 2) := by decide +kernel
theorem d_Model_data_80 : decode c_Model_data 80 = .ok (.ifCond .eq 17, 3) := by decide +kernel
theorem d_Model_data_83 : decode c_Model_data 83 = .ok (.aload_n 0, 1) := by decide +kernel
theorem d_Model_data_84 : decode c_Model_data 84 = .ok (.iload_n 3, 1) := by decide +kernel
theorem d_Model_data_85 : decode c_Model_data 85 = .ok (.iconst 1, 1) := by decide +kernel
theorem d_Model_data_86 : decode c_Model_data 86 = .ok (.iadd, 1) := by decide +kernel
theorem d_Model_data_87 : decode c_Model_data 87 = .ok (.invokevirtual 124, 3) := by decide +kernel
theorem d_Model_data_90 : decode c_Model_data 90 = .ok (.ifCond .le 7, 3) := by decide +kernel
theorem d_Model_data_93 : decode c_Model_data 93 = .ok (.iconst 1, 1) := by decide +kernel
theorem d_Model_data_94 : decode c_Model_data 94 = .ok (.goto 4, 3) := by decide +kernel
theorem d_Model_data_97 : decode c_Model_data 97 = .ok (.iconst 0, 1) := by decide +kernel
theorem d_Model_data_98 : decode c_Model_data 98 = .ok (.istore 7, 2) := by decide +kernel
theorem d_Model_data_100 : decode c_Model_data 100 = .ok (.iload 7, 2) := by decide +kernel
theorem d_Model_data_102 : decode c_Model_data 102 = .ok (.ifCond .ne 17, 3) := by decide +kernel
theorem d_Model_data_105 : decode c_Model_data 105 = .ok (.iload 5, 2) := by decide +kernel
theorem d_Model_data_107 : decode c_Model_data 107 = .ok (.ifCond .ne 9, 3) := by decide +kernel
theorem d_Model_data_110 : decode c_Model_data 110 = .ok (.aload_n 0, 1) := by decide +kernel
theorem d_Model_data_111 : decode c_Model_data 111 = .ok (.iload_n 3, 1) := by decide +kernel
theorem d_Model_data_112 : decode c_Model_data 112 = .ok (.invokevirtual 124, 3) := by decide +kernel
theorem d_Model_data_115 : decode c_Model_data 115 = .ok (.ireturn, 1) := by decide +kernel
theorem d_Model_data_116 : decode c_Model_data 116 = .ok (.iinc 5 (-1), 3) := by decide +kernel
theorem d_Model_data_119 : decode c_Model_data 119 = .ok (.iload_n 3, 1) := by decide +kernel
theorem d_Model_data_120 : decode c_Model_data 120 = .ok (.iload 6, 2) := by decide +kernel
theorem d_Model_data_122 : decode c_Model_data 122 = .ok (.ifCond .eq 7, 3) := by decide +kernel
theorem d_Model_data_125 : decode c_Model_data 125 = .ok (.iconst 2, 1) := by decide +kernel
theorem d_Model_data_126 : decode c_Model_data 126 = .ok (.goto 4, 3) := by decide +kernel
theorem d_Model_data_129 : decode c_Model_data 129 = .ok (.iconst 1, 1) := by decide +kernel
theorem d_Model_data_130 : decode c_Model_data 130 = .ok (.iadd, 1) := by decide +kernel
theorem d_Model_data_131 : decode c_Model_data 131 = .ok (.istore_n 3, 1) := by decide +kernel
theorem d_Model_data_132 : decode c_Model_data 132 = .ok (.goto (-78), 3) := by decide +kernel
theorem d_Model_data_135 : decode c_Model_data 135 = .ok (.iconst (-1), 1) := by decide +kernel
theorem d_Model_data_136 : decode c_Model_data 136 = .ok (.ireturn, 1) := by decide +kernel
theorem d_Model_quantiser_0 : decode c_Model_quantiser 0 = .ok (.aload_n 0, 1) := by decide +kernel
theorem d_Model_quantiser_1 : decode c_Model_quantiser 1 = .ok (.iconst 0, 1) := by decide +kernel
theorem d_Model_quantiser_2 : decode c_Model_quantiser 2 = .ok (.putfield 77, 3) := by decide +kernel
theorem d_Model_quantiser_5 : decode c_Model_quantiser 5 = .ok (.iload_n 1, 1) := by decide +kernel
theorem d_Model_quantiser_6 : decode c_Model_quantiser 6 = .ok (.ifCond .lt 33, 3) := by decide +kernel
theorem d_Model_quantiser_9 : decode c_Model_quantiser 9 = .ok (.iload_n 1, 1) := by decide +kernel
theorem d_Model_quantiser_10 : decode c_Model_quantiser 10 = .ok (.iconst 4, 1) := by decide +kernel
theorem d_Model_quantiser_11 : decode c_Model_quantiser 11 = .ok (.if_icmp .ge 28, 3) := by decide +kernel
theorem d_Model_quantiser_14 : decode c_Model_quantiser 14 = .ok (.iload_n 2, 1) := by decide +kernel
theorem d_Model_quantiser_15 : decode c_Model_quantiser 15 = .ok (.ifCond .lt 24, 3) := by decide +kernel
theorem d_Model_quantiser_18 : decode c_Model_quantiser 18 = .ok (.iload_n 2, 1) := by decide +kernel
theorem d_Model_quantiser_19 : decode c_Model_quantiser 19 = .ok (.bipush 64, 2) := by decide +kernel
theorem d_Model_quantiser_21 : decode c_Model_quantiser 21 = .ok (.if_icmp .ge 18, 3) := by decide +kernel
theorem d_Model_quantiser_24 : decode c_Model_quantiser 24 = .ok (.aload_n 0, 1) := by decide +kernel
theorem d_Model_quantiser_25 : decode c_Model_quantiser 25 = .ok (.getfield 33, 3) := by decide +kernel
theorem d_Model_quantiser_28 : decode c_Model_quantiser 28 = .ok (.iload_n 1, 1) := by decide +kernel
theorem d_Model_quantiser_29 : decode c_Model_quantiser 29 = .ok (.iconst 3, 1) := by decide +kernel
theorem d_Model_quantiser_30 : decode c_Model_quantiser 30 = .ok (.iand, 1) := by decide +kernel
theorem d_Model_quantiser_31 : decode c_Model_quantiser 31 = .ok (.baload, 1) := by decide +kernel
theorem d_Model_quantiser_32 : decode c_Model_quantiser 32 = .ok (.ifCond .eq 7, 3) := by decide +kernel
theorem d_Model_quantiser_35 : decode c_Model_quantiser 35 = .ok (.iconst 1, 1) := by decide +kernel
theorem d_Model_quantiser_36 : decode c_Model_quantiser 36 = .ok (.goto 4, 3) := by decide +kernel
theorem d_Model_quantiser_39 : decode c_Model_quantiser 39 = .ok (.iconst 0, 1) := by decide +kernel
theorem d_Model_quantiser_40 : decode c_Model_quantiser 40 = .ok (.istore_n 3, 1) := by decide +kernel
theorem d_Model_quantiser_41 : decode c_Model_quantiser 41 = .ok (.iload_n 3, 1) := by decide +kernel
theorem d_Model_quantiser_42 : decode c_Model_quantiser 42 = .ok (.ifCond .eq 17, 3) := by decide +kernel
theorem d_Model_quantiser_45 : decode c_Model_quantiser 45 = .ok (.aload_n 0, 1) := by decide +kernel
theorem d_Model_quantiser_46 : decode c_Model_quantiser 46 = .ok (.getfield 37, 3) := by decide +kernel
theorem d_Model_quantiser_49 : decode c_Model_quantiser 49 = .ok (.bipush 64, 2) := by decide +kernel
theorem d_Model_quantiser_51 : decode c_Model_quantiser 51 = .ok (.iload_n 1, 1) := by decide +kernel
theorem d_Model_quantiser_52 : decode c_Model_quantiser 52 = .ok (.imul, 1) := by decide +kernel
theorem d_Model_quantiser_53 : decode c_Model_quantiser 53 = .ok (.iload_n 2, 1) := by decide +kernel
theorem d_Model_quantiser_54 : decode c_Model_quantiser 54 = .ok (.iadd, 1) := by decide +kernel
theorem d_Model_quantiser_55 : decode c_Model_quantiser 55 = .ok (.iaload, 1) := by decide +kernel
theorem d_Model_quantiser_56 : decode c_Model_quantiser 56 = .ok (.goto 4, 3) := by decide +kernel
theorem d_Model_quantiser_59 : decode c_Model_quantiser 59 = .ok (.iconst (-1), 1) := by decide +kernel
theorem d_Model_quantiser_60 : decode c_Model_quantiser 60 = .ok (.ireturn, 1) := by decide +kernel
theorem d_Model_word_0 : decode c_Model_word 0 = .ok (.aload_n 0, 1) := by decide +kernel
theorem d_Model_word_1 : decode c_Model_word 1 = .ok (.iconst 0, 1) := by decide +kernel
theorem d_Model_word_2 : decode c_Model_word 2 = .ok (.putfield 77, 3) := by decide +kernel
theorem d_Model_word_5 : decode c_Model_word 5 = .ok (.iload_n 1, 1) := by decide +kernel
theorem d_Model_word_6 : decode c_Model_word 6 = .ok (.ifCond .lt 8, 3) := by decide +kernel
theorem d_Model_word_9 : decode c_Model_word 9 = .ok (.iload_n 1, 1) := by decide +kernel
theorem d_Model_word_10 : decode c_Model_word 10 = .ok (.iconst 4, 1) := by decide +kernel
theorem d_Model_word_11 : decode c_Model_word 11 = .ok (.if_icmp .lt 15, 3) := by decide +kernel
theorem d_Model_word_14 : decode c_Model_word 14 = .ok (.iload_n 1, 1) := by decide +kernel
theorem d_Model_word_15 : decode c_Model_word 15 = .ok (.bipush 16, 2) := by decide +kernel
theorem d_Model_word_17 : decode c_Model_word 17 = .ok (.if_icmp .lt 13, 3) := by decide +kernel
theorem d_Model_word_20 : decode c_Model_word 20 = .ok (.iload_n 1, 1) := by decide +kernel
theorem d_Model_word_21 : decode c_Model_word 21 = .ok (.bipush 20, 2) := by decide +kernel
theorem d_Model_word_23 : decode c_Model_word 23 = .ok (.if_icmp .ge 7, 3) := by decide +kernel
theorem d_Model_word_26 : decode c_Model_word 26 = .ok (.iconst 1, 1) := by decide +kernel
theorem d_Model_word_27 : decode c_Model_word 27 = .ok (.goto 4, 3) := by decide +kernel
theorem d_Model_word_30 : decode c_Model_word 30 = .ok (.iconst 0, 1) := by decide +kernel
theorem d_Model_word_31 : decode c_Model_word 31 = .ok (.istore 4, 2) := by decide +kernel
theorem d_Model_word_33 : decode c_Model_word 33 = .ok (.iload 4, 2) := by decide +kernel
theorem d_Model_word_35 : decode c_Model_word 35 = .ok (.ifCond .ne 7, 3) := by decide +kernel
theorem d_Model_word_38 : decode c_Model_word 38 = .ok (.iconst 0, 1) := by decide +kernel
theorem d_Model_word_39 : decode c_Model_word 39 = .ok (.goto 16, 3) := by decide +kernel
theorem d_Model_word_42 : decode c_Model_word 42 = .ok (.iload_n 1, 1) := by decide +kernel
theorem d_Model_word_43 : decode c_Model_word 43 = .ok (.iconst 4, 1) := by decide +kernel
theorem d_Model_word_44 : decode c_Model_word 44 = .ok (.if_icmp .ge 7, 3) := by decide +kernel
theorem d_Model_word_47 : decode c_Model_word 47 = .ok (.iload_n 1, 1) := by decide +kernel
theorem d_Model_word_48 : decode c_Model_word 48 = .ok (.goto 7, 3) := by decide +kernel
theorem d_Model_word_51 : decode c_Model_word 51 = .ok (.iload_n 1, 1) := by decide +kernel
theorem d_Model_word_52 : decode c_Model_word 52 = .ok (.bipush 12, 2) := by decide +kernel
theorem d_Model_word_54 : decode c_Model_word 54 = .ok (.isub, 1) := by decide +kernel
theorem d_Model_word_55 : decode c_Model_word 55 = .ok (.istore 5, 2) := by decide +kernel
theorem d_Model_word_57 : decode c_Model_word 57 = .ok (.iload 4, 2) := by decide +kernel
theorem d_Model_word_59 : decode c_Model_word 59 = .ok (.ifCond .eq 13, 3) := by decide +kernel
theorem d_Model_word_62 : decode c_Model_word 62 = .ok (.aload_n 0, 1) := by decide +kernel
theorem d_Model_word_63 : decode c_Model_word 63 = .ok (.getfield 40, 3) := by decide +kernel
theorem d_Model_word_66 : decode c_Model_word 66 = .ok (.iload 5, 2) := by decide +kernel
theorem d_Model_word_68 : decode c_Model_word 68 = .ok (.baload, 1) := by decide +kernel
theorem d_Model_word_69 : decode c_Model_word 69 = .ok (.ifCond .ne 5, 3) := by decide +kernel
theorem d_Model_word_72 : decode c_Model_word 72 = .ok (.iconst (-1), 1) := by decide +kernel
theorem d_Model_word_73 : decode c_Model_word 73 = .ok (.ireturn, 1) := by decide +kernel
theorem d_Model_word_74 : decode c_Model_word 74 = .ok (.iload_n 2, 1) := by decide +kernel
theorem d_Model_word_75 : decode c_Model_word 75 = .ok (.ifCond .ne 31, 3) := by decide +kernel
theorem d_Model_word_78 : decode c_Model_word 78 = .ok (.iload_n 3, 1) := by decide +kernel
theorem d_Model_word_79 : decode c_Model_word 79 = .ok (.iconst 1, 1) := by decide +kernel
theorem d_Model_word_80 : decode c_Model_word 80 = .ok (.if_icmp .lt 24, 3) := by decide +kernel
theorem d_Model_word_83 : decode c_Model_word 83 = .ok (.iload_n 3, 1) := by decide +kernel
theorem d_Model_word_84 : decode c_Model_word 84 = .ok (.bipush 16, 2) := by decide +kernel
theorem d_Model_word_86 : decode c_Model_word 86 = .ok (.if_icmp .gt 18, 3) := by decide +kernel
theorem d_Model_word_89 : decode c_Model_word 89 = .ok (.aload_n 0, 1) := by decide +kernel
theorem d_Model_word_90 : decode c_Model_word 90 = .ok (.getfield 43, 3) := by decide +kernel
theorem d_Model_word_93 : decode c_Model_word 93 = .ok (.bipush 17, 2) := by decide +kernel
theorem d_Model_word_95 : decode c_Model_word 95 = .ok (.iload 5, 2) := by decide +kernel
theorem d_Model_word_97 : decode c_Model_word 97 = .ok (.imul, 1) := by decide +kernel
theorem d_Model_word_98 : decode c_Model_word 98 = .ok (.iload_n 3, 1) := by decide +kernel
theorem d_Model_word_99 : decode c_Model_word 99 = .ok (.iadd, 1) := by decide +kernel
theorem d_Model_word_100 : decode c_Model_word 100 = .ok (.iaload, 1) := by decide +kernel
theorem d_Model_word_101 : decode c_Model_word 101 = .ok (.goto 4, 3) := by decide +kernel
theorem d_Model_word_104 : decode c_Model_word 104 = .ok (.iconst (-1), 1) := by decide +kernel
theorem d_Model_word_105 : decode c_Model_word 105 = .ok (.ireturn, 1) := by decide +kernel
theorem d_Model_word_106 : decode c_Model_word 106 = .ok (.iload_n 2, 1) := by decide +kernel
theorem d_Model_word_107 : decode c_Model_word 107 = .ok (.iconst 1, 1) := by decide +kernel
theorem d_Model_word_108 : decode c_Model_word 108 = .ok (.if_icmp .ne 34, 3) := by decide +kernel
theorem d_Model_word_111 : decode c_Model_word 111 = .ok (.iload_n 3, 1) := by decide +kernel
theorem d_Model_word_112 : decode c_Model_word 112 = .ok (.ifCond .lt 30, 3) := by decide +kernel
theorem d_Model_word_115 : decode c_Model_word 115 = .ok (.iload_n 3, 1) := by decide +kernel
theorem d_Model_word_116 : decode c_Model_word 116 = .ok (.aload_n 0, 1) := by decide +kernel
theorem d_Model_word_117 : decode c_Model_word 117 = .ok (.getfield 49, 3) := by decide +kernel
theorem d_Model_word_120 : decode c_Model_word 120 = .ok (.iload 5, 2) := by decide +kernel
theorem d_Model_word_122 : decode c_Model_word 122 = .ok (.iaload, 1) := by decide +kernel
theorem d_Model_word_123 : decode c_Model_word 123 = .ok (.if_icmp .ge 19, 3) := by decide +kernel
theorem d_Model_word_126 : decode c_Model_word 126 = .ok (.aload_n 0, 1) := by decide +kernel
theorem d_Model_word_127 : decode c_Model_word 127 = .ok (.getfield 46, 3) := by decide +kernel
theorem d_Model_word_130 : decode c_Model_word 130 = .ok (.sipush 256, 3) := by decide +kernel
theorem d_Model_word_133 : decode c_Model_word 133 = .ok (.iload 5, 2) := by decide +kernel
theorem d_Model_word_135 : decode c_Model_word 135 = .ok (.imul, 1) := by decide +kernel
theorem d_Model_word_136 : decode c_Model_word 136 = .ok (.iload_n 3, 1) := by decide +kernel
theorem d_Model_word_137 : decode c_Model_word 137 = .ok (.iadd, 1) := by decide +kernel
theorem d_Model_word_138 : decode c_Model_word 138 = .ok (.iaload, 1) := by decide +kernel
theorem d_Model_word_139 : decode c_Model_word 139 = .ok (.goto 4, 3) := by decide +kernel
theorem d_Model_word_142 : decode c_Model_word 142 = .ok (.iconst (-1), 1) := by decide +kernel
theorem d_Model_word_143 : decode c_Model_word 143 = .ok (.ireturn, 1) := by decide +kernel
theorem d_Model_look_0 : decode c_Model_look 0 = .ok (.aload_n 0, 1) := by decide +kernel
theorem d_Model_look_1 : decode c_Model_look 1 = .ok (.iconst 0, 1) := by decide +kernel
theorem d_Model_look_2 : decode c_Model_look 2 = .ok (.putfield 77, 3) := by decide +kernel
theorem d_Model_look_5 : decode c_Model_look 5 = .ok (.iload_n 1, 1) := by decide +kernel
theorem d_Model_look_6 : decode c_Model_look 6 = .ok (.tableswitch 77 0 6 #[42, 47, 52, 57, 62, 67, 72], 42) := by decide +kernel
theorem d_Model_look_48 : decode c_Model_look 48 = .ok (.aload_n 0, 1) := by decide +kernel
theorem d_Model_look_49 : decode c_Model_look 49 = .ok (.getfield 104, 3) := by decide +kernel
theorem d_Model_look_52 : decode c_Model_look 52 = .ok (.ireturn, 1) := by decide +kernel
theorem d_Model_look_53 : decode c_Model_look 53 = .ok (.aload_n 0, 1) := by decide +kernel
theorem d_Model_look_54 : decode c_Model_look 54 = .ok (.getfield 107, 3) := by decide +kernel
theorem d_Model_look_57 : decode c_Model_look 57 = .ok (.ireturn, 1) := by decide +kernel
theorem d_Model_look_58 : decode c_Model_look 58 = .ok (.aload_n 0, 1) := by decide +kernel
theorem d_Model_look_59 : decode c_Model_look 59 = .ok (.getfield 13, 3) := by decide +kernel
theorem d_Model_look_62 : decode c_Model_look 62 = .ok (.ireturn, 1) := by decide +kernel
theorem d_Model_look_63 : decode c_Model_look 63 = .ok (.aload_n 0, 1) := by decide +kernel
theorem d_Model_look_64 : decode c_Model_look 64 = .ok (.getfield 83, 3) := by decide +kernel
theorem d_Model_look_67 : decode c_Model_look 67 = .ok (.ireturn, 1) := by decide +kernel
theorem d_Model_look_68 : decode c_Model_look 68 = .ok (.aload_n 0, 1) := by decide +kernel
theorem d_Model_look_69 : decode c_Model_look 69 = .ok (.getfield 101, 3) := by decide +kernel
theorem d_Model_look_72 : decode c_Model_look 72 = .ok (.ireturn, 1) := by decide +kernel
theorem d_Model_look_73 : decode c_Model_look 73 = .ok (.aload_n 0, 1) := by decide +kernel
theorem d_Model_look_74 : decode c_Model_look 74 = .ok (.getfield 98, 3) := by decide +kernel
theorem d_Model_look_77 : decode c_Model_look 77 = .ok (.ireturn, 1) := by decide +kernel
theorem d_Model_look_78 : decode c_Model_look 78 = .ok (.aload_n 0, 1) := by decide +kernel
theorem d_Model_look_79 : decode c_Model_look 79 = .ok (.getfield 80, 3) := by decide +kernel
theorem d_Model_look_82 : decode c_Model_look 82 = .ok (.ireturn, 1) := by decide +kernel
theorem d_Model_look_83 : decode c_Model_look 83 = .ok (.iconst (-1), 1) := by decide +kernel
theorem d_Model_look_84 : decode c_Model_look 84 = .ok (.ireturn, 1) := by decide +kernel
theorem d_Law_law_0 : decode code 0 = .ok (.new 7, 3) := by decide +kernel
theorem d_Law_law_3 : decode code 3 = .ok (.dup, 1) := by decide +kernel
theorem d_Law_law_4 : decode code 4 = .ok (.invokespecial 9, 3) := by decide +kernel
theorem d_Law_law_7 : decode code 7 = .ok (.astore_n 1, 1) := by decide +kernel
theorem d_Law_law_8 : decode code 8 = .ok (.new 10, 3) := by decide +kernel
theorem d_Law_law_11 : decode code 11 = .ok (.dup, 1) := by decide +kernel
theorem d_Law_law_12 : decode code 12 = .ok (.invokespecial 12, 3) := by decide +kernel
theorem d_Law_law_15 : decode code 15 = .ok (.astore_n 2, 1) := by decide +kernel
theorem d_Law_law_16 : decode code 16 = .ok (.iconst 0, 1) := by decide +kernel
theorem d_Law_law_17 : decode code 17 = .ok (.istore_n 3, 1) := by decide +kernel
theorem d_Law_law_18 : decode code 18 = .ok (.iload_n 3, 1) := by decide +kernel
theorem d_Law_law_19 : decode code 19 = .ok (.aload_n 0, 1) := by decide +kernel
theorem d_Law_law_20 : decode code 20 = .ok (.arraylength, 1) := by decide +kernel
theorem d_Law_law_21 : decode code 21 = .ok (.iconst 4, 1) := by decide +kernel
theorem d_Law_law_22 : decode code 22 = .ok (.isub, 1) := by decide +kernel
theorem d_Law_law_23 : decode code 23 = .ok (.if_icmp .gt 416, 3) := by decide +kernel
theorem d_Law_law_26 : decode code 26 = .ok (.aload_n 0, 1) := by decide +kernel
theorem d_Law_law_27 : decode code 27 = .ok (.iload_n 3, 1) := by decide +kernel
theorem d_Law_law_28 : decode code 28 = .ok (.iaload, 1) := by decide +kernel
theorem d_Law_law_29 : decode code 29 = .ok (.bipush 15, 2) := by decide +kernel
theorem d_Law_law_31 : decode code 31 = .ok (.iand, 1) := by decide +kernel
theorem d_Law_law_32 : decode code 32 = .ok (.tableswitch 401 0 10 #[60, 123, 134, 147, 180, 203, 236, 269, 302, 335, 378], 60) := by decide +kernel
theorem d_Law_law_92 : decode code 92 = .ok (.aload_n 1, 1) := by decide +kernel
theorem d_Law_law_93 : decode code 93 = .ok (.aload_n 0, 1) := by decide +kernel
theorem d_Law_law_94 : decode code 94 = .ok (.iload_n 3, 1) := by decide +kernel
theorem d_Law_law_95 : decode code 95 = .ok (.iconst 1, 1) := by decide +kernel
theorem d_Law_law_96 : decode code 96 = .ok (.iadd, 1) := by decide +kernel
theorem d_Law_law_97 : decode code 97 = .ok (.iaload, 1) := by decide +kernel
theorem d_Law_law_98 : decode code 98 = .ok (.i2l, 1) := by decide +kernel
theorem d_Law_law_99 : decode code 99 = .ok (.bipush 32, 2) := by decide +kernel
theorem d_Law_law_101 : decode code 101 = .ok (.lshl, 1) := by decide +kernel
theorem d_Law_law_102 : decode code 102 = .ok (.aload_n 0, 1) := by decide +kernel
theorem d_Law_law_103 : decode code 103 = .ok (.iload_n 3, 1) := by decide +kernel
theorem d_Law_law_104 : decode code 104 = .ok (.iconst 2, 1) := by decide +kernel
theorem d_Law_law_105 : decode code 105 = .ok (.iadd, 1) := by decide +kernel
theorem d_Law_law_106 : decode code 106 = .ok (.iaload, 1) := by decide +kernel
theorem d_Law_law_107 : decode code 107 = .ok (.i2l, 1) := by decide +kernel
theorem d_Law_law_108 : decode code 108 = .ok (.ldc2_w 13, 3) := by decide +kernel
theorem d_Law_law_111 : decode code 111 = .ok (.land, 1) := by decide +kernel
theorem d_Law_law_112 : decode code 112 = .ok (.lor, 1) := by decide +kernel
theorem d_Law_law_113 : decode code 113 = .ok (.aload_n 0, 1) := by decide +kernel
theorem d_Law_law_114 : decode code 114 = .ok (.iload_n 3, 1) := by decide +kernel
theorem d_Law_law_115 : decode code 115 = .ok (.iconst 3, 1) := by decide +kernel
theorem d_Law_law_116 : decode code 116 = .ok (.iadd, 1) := by decide +kernel
theorem d_Law_law_117 : decode code 117 = .ok (.iaload, 1) := by decide +kernel
theorem d_Law_law_118 : decode code 118 = .ok (.invokevirtual 15, 3) := by decide +kernel
theorem d_Law_law_121 : decode code 121 = .ok (.aload_n 2, 1) := by decide +kernel
theorem d_Law_law_122 : decode code 122 = .ok (.aload_n 0, 1) := by decide +kernel
theorem d_Law_law_123 : decode code 123 = .ok (.iload_n 3, 1) := by decide +kernel
theorem d_Law_law_124 : decode code 124 = .ok (.iconst 1, 1) := by decide +kernel
theorem d_Law_law_125 : decode code 125 = .ok (.iadd, 1) := by decide +kernel
theorem d_Law_law_126 : decode code 126 = .ok (.iaload, 1) := by decide +kernel
theorem d_Law_law_127 : decode code 127 = .ok (.i2l, 1) := by decide +kernel
theorem d_Law_law_128 : decode code 128 = .ok (.bipush 32, 2) := by decide +kernel
theorem d_Law_law_130 : decode code 130 = .ok (.lshl, 1) := by decide +kernel
theorem d_Law_law_131 : decode code 131 = .ok (.aload_n 0, 1) := by decide +kernel
theorem d_Law_law_132 : decode code 132 = .ok (.iload_n 3, 1) := by decide +kernel
theorem d_Law_law_133 : decode code 133 = .ok (.iconst 2, 1) := by decide +kernel
theorem d_Law_law_134 : decode code 134 = .ok (.iadd, 1) := by decide +kernel
theorem d_Law_law_135 : decode code 135 = .ok (.iaload, 1) := by decide +kernel
theorem d_Law_law_136 : decode code 136 = .ok (.i2l, 1) := by decide +kernel
theorem d_Law_law_137 : decode code 137 = .ok (.ldc2_w 13, 3) := by decide +kernel
theorem d_Law_law_140 : decode code 140 = .ok (.land, 1) := by decide +kernel
theorem d_Law_law_141 : decode code 141 = .ok (.lor, 1) := by decide +kernel
theorem d_Law_law_142 : decode code 142 = .ok (.aload_n 0, 1) := by decide +kernel
theorem d_Law_law_143 : decode code 143 = .ok (.iload_n 3, 1) := by decide +kernel
theorem d_Law_law_144 : decode code 144 = .ok (.iconst 3, 1) := by decide +kernel
theorem d_Law_law_145 : decode code 145 = .ok (.iadd, 1) := by decide +kernel
theorem d_Law_law_146 : decode code 146 = .ok (.iaload, 1) := by decide +kernel
theorem d_Law_law_147 : decode code 147 = .ok (.invokevirtual 19, 3) := by decide +kernel
theorem d_Law_law_150 : decode code 150 = .ok (.if_icmp .eq 283, 3) := by decide +kernel
theorem d_Law_law_153 : decode code 153 = .ok (.iconst 0, 1) := by decide +kernel
theorem d_Law_law_154 : decode code 154 = .ok (.ireturn, 1) := by decide +kernel
theorem d_Law_law_155 : decode code 155 = .ok (.aload_n 1, 1) := by decide +kernel
theorem d_Law_law_156 : decode code 156 = .ok (.invokevirtual 20, 3) := by decide +kernel
theorem d_Law_law_159 : decode code 159 = .ok (.aload_n 2, 1) := by decide +kernel
theorem d_Law_law_160 : decode code 160 = .ok (.invokevirtual 23, 3) := by decide +kernel
theorem d_Law_law_163 : decode code 163 = .ok (.goto 270, 3) := by decide +kernel
theorem d_Law_law_166 : decode code 166 = .ok (.aload_n 1, 1) := by decide +kernel
theorem d_Law_law_167 : decode code 167 = .ok (.invokevirtual 24, 3) := by decide +kernel
theorem d_Law_law_170 : decode code 170 = .ok (.aload_n 2, 1) := by decide +kernel
theorem d_Law_law_171 : decode code 171 = .ok (.invokevirtual 28, 3) := by decide +kernel
theorem d_Law_law_174 : decode code 174 = .ok (.if_icmp .eq 259, 3) := by decide +kernel
theorem d_Law_law_177 : decode code 177 = .ok (.iconst 0, 1) := by decide +kernel
theorem d_Law_law_178 : decode code 178 = .ok (.ireturn, 1) := by decide +kernel
theorem d_Law_law_179 : decode code 179 = .ok (.aload_n 1, 1) := by decide +kernel
theorem d_Law_law_180 : decode code 180 = .ok (.aload_n 0, 1) := by decide +kernel
theorem d_Law_law_181 : decode code 181 = .ok (.iload_n 3, 1) := by decide +kernel
theorem d_Law_law_182 : decode code 182 = .ok (.iconst 1, 1) := by decide +kernel
theorem d_Law_law_183 : decode code 183 = .ok (.iadd, 1) := by decide +kernel
theorem d_Law_law_184 : decode code 184 = .ok (.iaload, 1) := by decide +kernel
theorem d_Law_law_185 : decode code 185 = .ok (.aload_n 0, 1) := by decide +kernel
theorem d_Law_law_186 : decode code 186 = .ok (.iload_n 3, 1) := by decide +kernel
theorem d_Law_law_187 : decode code 187 = .ok (.iconst 2, 1) := by decide +kernel
theorem d_Law_law_188 : decode code 188 = .ok (.iadd, 1) := by decide +kernel
theorem d_Law_law_189 : decode code 189 = .ok (.iaload, 1) := by decide +kernel
theorem d_Law_law_190 : decode code 190 = .ok (.invokevirtual 29, 3) := by decide +kernel
theorem d_Law_law_193 : decode code 193 = .ok (.aload_n 2, 1) := by decide +kernel
theorem d_Law_law_194 : decode code 194 = .ok (.aload_n 0, 1) := by decide +kernel
theorem d_Law_law_195 : decode code 195 = .ok (.iload_n 3, 1) := by decide +kernel
theorem d_Law_law_196 : decode code 196 = .ok (.iconst 1, 1) := by decide +kernel
theorem d_Law_law_197 : decode code 197 = .ok (.iadd, 1) := by decide +kernel
theorem d_Law_law_198 : decode code 198 = .ok (.iaload, 1) := by decide +kernel
theorem d_Law_law_199 : decode code 199 = .ok (.aload_n 0, 1) := by decide +kernel
theorem d_Law_law_200 : decode code 200 = .ok (.iload_n 3, 1) := by decide +kernel
theorem d_Law_law_201 : decode code 201 = .ok (.iconst 2, 1) := by decide +kernel
theorem d_Law_law_202 : decode code 202 = .ok (.iadd, 1) := by decide +kernel
theorem d_Law_law_203 : decode code 203 = .ok (.iaload, 1) := by decide +kernel
theorem d_Law_law_204 : decode code 204 = .ok (.invokevirtual 33, 3) := by decide +kernel
theorem d_Law_law_207 : decode code 207 = .ok (.if_icmp .eq 226, 3) := by decide +kernel
theorem d_Law_law_210 : decode code 210 = .ok (.iconst 0, 1) := by decide +kernel
theorem d_Law_law_211 : decode code 211 = .ok (.ireturn, 1) := by decide +kernel
theorem d_Law_law_212 : decode code 212 = .ok (.aload_n 1, 1) := by decide +kernel
theorem d_Law_law_213 : decode code 213 = .ok (.aload_n 0, 1) := by decide +kernel
theorem d_Law_law_214 : decode code 214 = .ok (.iload_n 3, 1) := by decide +kernel
theorem d_Law_law_215 : decode code 215 = .ok (.iconst 1, 1) := by decide +kernel
theorem d_Law_law_216 : decode code 216 = .ok (.iadd, 1) := by decide +kernel
theorem d_Law_law_217 : decode code 217 = .ok (.iaload, 1) := by decide +kernel
theorem d_Law_law_218 : decode code 218 = .ok (.invokevirtual 34, 3) := by decide +kernel
theorem d_Law_law_221 : decode code 221 = .ok (.aload_n 2, 1) := by decide +kernel
theorem d_Law_law_222 : decode code 222 = .ok (.aload_n 0, 1) := by decide +kernel
theorem d_Law_law_223 : decode code 223 = .ok (.iload_n 3, 1) := by decide +kernel
theorem d_Law_law_224 : decode code 224 = .ok (.iconst 1, 1) := by decide +kernel
theorem d_Law_law_225 : decode code 225 = .ok (.iadd, 1) := by decide +kernel
theorem d_Law_law_226 : decode code 226 = .ok (.iaload, 1) := by decide +kernel
theorem d_Law_law_227 : decode code 227 = .ok (.invokevirtual 38, 3) := by decide +kernel
theorem d_Law_law_230 : decode code 230 = .ok (.if_icmp .eq 203, 3) := by decide +kernel
theorem d_Law_law_233 : decode code 233 = .ok (.iconst 0, 1) := by decide +kernel
theorem d_Law_law_234 : decode code 234 = .ok (.ireturn, 1) := by decide +kernel
theorem d_Law_law_235 : decode code 235 = .ok (.aload_n 1, 1) := by decide +kernel
theorem d_Law_law_236 : decode code 236 = .ok (.aload_n 0, 1) := by decide +kernel
theorem d_Law_law_237 : decode code 237 = .ok (.iload_n 3, 1) := by decide +kernel
theorem d_Law_law_238 : decode code 238 = .ok (.iconst 1, 1) := by decide +kernel
end
section
theorem d_Law_law_239 : decode code 239 = .ok (.iadd, 1) := by decide +kernel
theorem d_Law_law_240 : decode code 240 = .ok (.iaload, 1) := by decide +kernel
theorem d_Law_law_241 : decode code 241 = .ok (.aload_n 0, 1) := by decide +kernel
theorem d_Law_law_242 : decode code 242 = .ok (.iload_n 3, 1) := by decide +kernel
theorem d_Law_law_243 : decode code 243 = .ok (.iconst 2, 1) := by decide +kernel
theorem d_Law_law_244 : decode code 244 = .ok (.iadd, 1) := by decide +kernel
theorem d_Law_law_245 : decode code 245 = .ok (.iaload, 1) := by decide +kernel
theorem d_Law_law_246 : decode code 246 = .ok (.invokevirtual 39, 3) := by decide +kernel
theorem d_Law_law_249 : decode code 249 = .ok (.aload_n 2, 1) := by decide +kernel
theorem d_Law_law_250 : decode code 250 = .ok (.aload_n 0, 1) := by decide +kernel
theorem d_Law_law_251 : decode code 251 = .ok (.iload_n 3, 1) := by decide +kernel
theorem d_Law_law_252 : decode code 252 = .ok (.iconst 1, 1) := by decide +kernel
theorem d_Law_law_253 : decode code 253 = .ok (.iadd, 1) := by decide +kernel
theorem d_Law_law_254 : decode code 254 = .ok (.iaload, 1) := by decide +kernel
theorem d_Law_law_255 : decode code 255 = .ok (.aload_n 0, 1) := by decide +kernel
theorem d_Law_law_256 : decode code 256 = .ok (.iload_n 3, 1) := by decide +kernel
theorem d_Law_law_257 : decode code 257 = .ok (.iconst 2, 1) := by decide +kernel
theorem d_Law_law_258 : decode code 258 = .ok (.iadd, 1) := by decide +kernel
theorem d_Law_law_259 : decode code 259 = .ok (.iaload, 1) := by decide +kernel
theorem d_Law_law_260 : decode code 260 = .ok (.invokevirtual 42, 3) := by decide +kernel
theorem d_Law_law_263 : decode code 263 = .ok (.if_icmp .eq 170, 3) := by decide +kernel
theorem d_Law_law_266 : decode code 266 = .ok (.iconst 0, 1) := by decide +kernel
theorem d_Law_law_267 : decode code 267 = .ok (.ireturn, 1) := by decide +kernel
theorem d_Law_law_268 : decode code 268 = .ok (.aload_n 1, 1) := by decide +kernel
theorem d_Law_law_269 : decode code 269 = .ok (.aload_n 0, 1) := by decide +kernel
theorem d_Law_law_270 : decode code 270 = .ok (.iload_n 3, 1) := by decide +kernel
theorem d_Law_law_271 : decode code 271 = .ok (.iconst 1, 1) := by decide +kernel
theorem d_Law_law_272 : decode code 272 = .ok (.iadd, 1) := by decide +kernel
theorem d_Law_law_273 : decode code 273 = .ok (.iaload, 1) := by decide +kernel
theorem d_Law_law_274 : decode code 274 = .ok (.aload_n 0, 1) := by decide +kernel
theorem d_Law_law_275 : decode code 275 = .ok (.iload_n 3, 1) := by decide +kernel
theorem d_Law_law_276 : decode code 276 = .ok (.iconst 2, 1) := by decide +kernel
theorem d_Law_law_277 : decode code 277 = .ok (.iadd, 1) := by decide +kernel
theorem d_Law_law_278 : decode code 278 = .ok (.iaload, 1) := by decide +kernel
theorem d_Law_law_279 : decode code 279 = .ok (.invokevirtual 43, 3) := by decide +kernel
theorem d_Law_law_282 : decode code 282 = .ok (.aload_n 2, 1) := by decide +kernel
theorem d_Law_law_283 : decode code 283 = .ok (.aload_n 0, 1) := by decide +kernel
theorem d_Law_law_284 : decode code 284 = .ok (.iload_n 3, 1) := by decide +kernel
theorem d_Law_law_285 : decode code 285 = .ok (.iconst 1, 1) := by decide +kernel
theorem d_Law_law_286 : decode code 286 = .ok (.iadd, 1) := by decide +kernel
theorem d_Law_law_287 : decode code 287 = .ok (.iaload, 1) := by decide +kernel
theorem d_Law_law_288 : decode code 288 = .ok (.aload_n 0, 1) := by decide +kernel
theorem d_Law_law_289 : decode code 289 = .ok (.iload_n 3, 1) := by decide +kernel
theorem d_Law_law_290 : decode code 290 = .ok (.iconst 2, 1) := by decide +kernel
theorem d_Law_law_291 : decode code 291 = .ok (.iadd, 1) := by decide +kernel
theorem d_Law_law_292 : decode code 292 = .ok (.iaload, 1) := by decide +kernel
theorem d_Law_law_293 : decode code 293 = .ok (.invokevirtual 46, 3) := by decide +kernel
theorem d_Law_law_296 : decode code 296 = .ok (.if_icmp .eq 137, 3) := by decide +kernel
theorem d_Law_law_299 : decode code 299 = .ok (.iconst 0, 1) := by decide +kernel
theorem d_Law_law_300 : decode code 300 = .ok (.ireturn, 1) := by decide +kernel
theorem d_Law_law_301 : decode code 301 = .ok (.aload_n 1, 1) := by decide +kernel
theorem d_Law_law_302 : decode code 302 = .ok (.aload_n 0, 1) := by decide +kernel
theorem d_Law_law_303 : decode code 303 = .ok (.iload_n 3, 1) := by decide +kernel
theorem d_Law_law_304 : decode code 304 = .ok (.iconst 1, 1) := by decide +kernel
theorem d_Law_law_305 : decode code 305 = .ok (.iadd, 1) := by decide +kernel
theorem d_Law_law_306 : decode code 306 = .ok (.iaload, 1) := by decide +kernel
theorem d_Law_law_307 : decode code 307 = .ok (.aload_n 0, 1) := by decide +kernel
theorem d_Law_law_308 : decode code 308 = .ok (.iload_n 3, 1) := by decide +kernel
theorem d_Law_law_309 : decode code 309 = .ok (.iconst 2, 1) := by decide +kernel
theorem d_Law_law_310 : decode code 310 = .ok (.iadd, 1) := by decide +kernel
theorem d_Law_law_311 : decode code 311 = .ok (.iaload, 1) := by decide +kernel
theorem d_Law_law_312 : decode code 312 = .ok (.invokevirtual 47, 3) := by decide +kernel
theorem d_Law_law_315 : decode code 315 = .ok (.aload_n 2, 1) := by decide +kernel
theorem d_Law_law_316 : decode code 316 = .ok (.aload_n 0, 1) := by decide +kernel
theorem d_Law_law_317 : decode code 317 = .ok (.iload_n 3, 1) := by decide +kernel
theorem d_Law_law_318 : decode code 318 = .ok (.iconst 1, 1) := by decide +kernel
theorem d_Law_law_319 : decode code 319 = .ok (.iadd, 1) := by decide +kernel
theorem d_Law_law_320 : decode code 320 = .ok (.iaload, 1) := by decide +kernel
theorem d_Law_law_321 : decode code 321 = .ok (.aload_n 0, 1) := by decide +kernel
theorem d_Law_law_322 : decode code 322 = .ok (.iload_n 3, 1) := by decide +kernel
theorem d_Law_law_323 : decode code 323 = .ok (.iconst 2, 1) := by decide +kernel
theorem d_Law_law_324 : decode code 324 = .ok (.iadd, 1) := by decide +kernel
theorem d_Law_law_325 : decode code 325 = .ok (.iaload, 1) := by decide +kernel
theorem d_Law_law_326 : decode code 326 = .ok (.invokevirtual 50, 3) := by decide +kernel
theorem d_Law_law_329 : decode code 329 = .ok (.if_icmp .eq 104, 3) := by decide +kernel
theorem d_Law_law_332 : decode code 332 = .ok (.iconst 0, 1) := by decide +kernel
theorem d_Law_law_333 : decode code 333 = .ok (.ireturn, 1) := by decide +kernel
theorem d_Law_law_334 : decode code 334 = .ok (.aload_n 1, 1) := by decide +kernel
theorem d_Law_law_335 : decode code 335 = .ok (.aload_n 0, 1) := by decide +kernel
theorem d_Law_law_336 : decode code 336 = .ok (.iload_n 3, 1) := by decide +kernel
theorem d_Law_law_337 : decode code 337 = .ok (.iconst 1, 1) := by decide +kernel
theorem d_Law_law_338 : decode code 338 = .ok (.iadd, 1) := by decide +kernel
theorem d_Law_law_339 : decode code 339 = .ok (.iaload, 1) := by decide +kernel
theorem d_Law_law_340 : decode code 340 = .ok (.aload_n 0, 1) := by decide +kernel
theorem d_Law_law_341 : decode code 341 = .ok (.iload_n 3, 1) := by decide +kernel
theorem d_Law_law_342 : decode code 342 = .ok (.iconst 2, 1) := by decide +kernel
theorem d_Law_law_343 : decode code 343 = .ok (.iadd, 1) := by decide +kernel
theorem d_Law_law_344 : decode code 344 = .ok (.iaload, 1) := by decide +kernel
theorem d_Law_law_345 : decode code 345 = .ok (.invokevirtual 51, 3) := by decide +kernel
theorem d_Law_law_348 : decode code 348 = .ok (.aload_n 2, 1) := by decide +kernel
theorem d_Law_law_349 : decode code 349 = .ok (.aload_n 0, 1) := by decide +kernel
theorem d_Law_law_350 : decode code 350 = .ok (.iload_n 3, 1) := by decide +kernel
theorem d_Law_law_351 : decode code 351 = .ok (.iconst 1, 1) := by decide +kernel
theorem d_Law_law_352 : decode code 352 = .ok (.iadd, 1) := by decide +kernel
theorem d_Law_law_353 : decode code 353 = .ok (.iaload, 1) := by decide +kernel
theorem d_Law_law_354 : decode code 354 = .ok (.aload_n 0, 1) := by decide +kernel
theorem d_Law_law_355 : decode code 355 = .ok (.iload_n 3, 1) := by decide +kernel
theorem d_Law_law_356 : decode code 356 = .ok (.iconst 2, 1) := by decide +kernel
theorem d_Law_law_357 : decode code 357 = .ok (.iadd, 1) := by decide +kernel
theorem d_Law_law_358 : decode code 358 = .ok (.iaload, 1) := by decide +kernel
theorem d_Law_law_359 : decode code 359 = .ok (.invokevirtual 54, 3) := by decide +kernel
theorem d_Law_law_362 : decode code 362 = .ok (.if_icmp .eq 71, 3) := by decide +kernel
theorem d_Law_law_365 : decode code 365 = .ok (.iconst 0, 1) := by decide +kernel
theorem d_Law_law_366 : decode code 366 = .ok (.ireturn, 1) := by decide +kernel
theorem d_Law_law_367 : decode code 367 = .ok (.aload_n 1, 1) := by decide +kernel
theorem d_Law_law_368 : decode code 368 = .ok (.aload_n 0, 1) := by decide +kernel
theorem d_Law_law_369 : decode code 369 = .ok (.iload_n 3, 1) := by decide +kernel
theorem d_Law_law_370 : decode code 370 = .ok (.iconst 1, 1) := by decide +kernel
theorem d_Law_law_371 : decode code 371 = .ok (.iadd, 1) := by decide +kernel
theorem d_Law_law_372 : decode code 372 = .ok (.iaload, 1) := by decide +kernel
theorem d_Law_law_373 : decode code 373 = .ok (.aload_n 0, 1) := by decide +kernel
theorem d_Law_law_374 : decode code 374 = .ok (.iload_n 3, 1) := by decide +kernel
theorem d_Law_law_375 : decode code 375 = .ok (.iconst 2, 1) := by decide +kernel
theorem d_Law_law_376 : decode code 376 = .ok (.iadd, 1) := by decide +kernel
theorem d_Law_law_377 : decode code 377 = .ok (.iaload, 1) := by decide +kernel
theorem d_Law_law_378 : decode code 378 = .ok (.aload_n 0, 1) := by decide +kernel
theorem d_Law_law_379 : decode code 379 = .ok (.iload_n 3, 1) := by decide +kernel
theorem d_Law_law_380 : decode code 380 = .ok (.iconst 3, 1) := by decide +kernel
theorem d_Law_law_381 : decode code 381 = .ok (.iadd, 1) := by decide +kernel
theorem d_Law_law_382 : decode code 382 = .ok (.iaload, 1) := by decide +kernel
theorem d_Law_law_383 : decode code 383 = .ok (.invokevirtual 55, 3) := by decide +kernel
theorem d_Law_law_386 : decode code 386 = .ok (.aload_n 2, 1) := by decide +kernel
theorem d_Law_law_387 : decode code 387 = .ok (.aload_n 0, 1) := by decide +kernel
theorem d_Law_law_388 : decode code 388 = .ok (.iload_n 3, 1) := by decide +kernel
theorem d_Law_law_389 : decode code 389 = .ok (.iconst 1, 1) := by decide +kernel
theorem d_Law_law_390 : decode code 390 = .ok (.iadd, 1) := by decide +kernel
theorem d_Law_law_391 : decode code 391 = .ok (.iaload, 1) := by decide +kernel
theorem d_Law_law_392 : decode code 392 = .ok (.aload_n 0, 1) := by decide +kernel
theorem d_Law_law_393 : decode code 393 = .ok (.iload_n 3, 1) := by decide +kernel
theorem d_Law_law_394 : decode code 394 = .ok (.iconst 2, 1) := by decide +kernel
theorem d_Law_law_395 : decode code 395 = .ok (.iadd, 1) := by decide +kernel
theorem d_Law_law_396 : decode code 396 = .ok (.iaload, 1) := by decide +kernel
theorem d_Law_law_397 : decode code 397 = .ok (.aload_n 0, 1) := by decide +kernel
theorem d_Law_law_398 : decode code 398 = .ok (.iload_n 3, 1) := by decide +kernel
theorem d_Law_law_399 : decode code 399 = .ok (.iconst 3, 1) := by decide +kernel
theorem d_Law_law_400 : decode code 400 = .ok (.iadd, 1) := by decide +kernel
theorem d_Law_law_401 : decode code 401 = .ok (.iaload, 1) := by decide +kernel
theorem d_Law_law_402 : decode code 402 = .ok (.invokevirtual 59, 3) := by decide +kernel
theorem d_Law_law_405 : decode code 405 = .ok (.if_icmp .eq 28, 3) := by decide +kernel
theorem d_Law_law_408 : decode code 408 = .ok (.iconst 0, 1) := by decide +kernel
theorem d_Law_law_409 : decode code 409 = .ok (.ireturn, 1) := by decide +kernel
theorem d_Law_law_410 : decode code 410 = .ok (.aload_n 1, 1) := by decide +kernel
theorem d_Law_law_411 : decode code 411 = .ok (.aload_n 0, 1) := by decide +kernel
theorem d_Law_law_412 : decode code 412 = .ok (.iload_n 3, 1) := by decide +kernel
theorem d_Law_law_413 : decode code 413 = .ok (.iconst 1, 1) := by decide +kernel
theorem d_Law_law_414 : decode code 414 = .ok (.iadd, 1) := by decide +kernel
theorem d_Law_law_415 : decode code 415 = .ok (.iaload, 1) := by decide +kernel
theorem d_Law_law_416 : decode code 416 = .ok (.invokevirtual 60, 3) := by decide +kernel
theorem d_Law_law_419 : decode code 419 = .ok (.aload_n 2, 1) := by decide +kernel
theorem d_Law_law_420 : decode code 420 = .ok (.aload_n 0, 1) := by decide +kernel
theorem d_Law_law_421 : decode code 421 = .ok (.iload_n 3, 1) := by decide +kernel
theorem d_Law_law_422 : decode code 422 = .ok (.iconst 1, 1) := by decide +kernel
theorem d_Law_law_423 : decode code 423 = .ok (.iadd, 1) := by decide +kernel
theorem d_Law_law_424 : decode code 424 = .ok (.iaload, 1) := by decide +kernel
theorem d_Law_law_425 : decode code 425 = .ok (.invokevirtual 63, 3) := by decide +kernel
theorem d_Law_law_428 : decode code 428 = .ok (.if_icmp .eq 5, 3) := by decide +kernel
theorem d_Law_law_431 : decode code 431 = .ok (.iconst 0, 1) := by decide +kernel
theorem d_Law_law_432 : decode code 432 = .ok (.ireturn, 1) := by decide +kernel
theorem d_Law_law_433 : decode code 433 = .ok (.iinc 3 4, 3) := by decide +kernel
theorem d_Law_law_436 : decode code 436 = .ok (.goto (-418), 3) := by decide +kernel
theorem d_Law_law_439 : decode code 439 = .ok (.iconst 1, 1) := by decide +kernel
theorem d_Law_law_440 : decode code 440 = .ok (.ireturn, 1) := by decide +kernel
end
section
/-! the states of the two systems, and the cells that hold them -/
abbrev St : Type := (Nat → Int32) × (Nat → Nat → Int32) × (Nat → Nat → Int64) × (Nat → Nat)
def sG (t : St) (k : Nat) (v : Int32) : St := (upd t.1 k v, t.2)
def sH (t : St) (k i : Nat) (v : Int32) : St := (t.1, va_up t.2.1 k (upd (t.2.1 k) i v), t.2.2)
def sL (t : St) (k i : Nat) (v : Int64) : St := (t.1, t.2.1, va_up t.2.2.1 k (vp_updL (t.2.2.1 k) i v), t.2.2.2)
def sA (t : St) (k n : Nat) (f : Nat → Int32) : St := (t.1, va_up t.2.1 k f, t.2.2.1, va_up t.2.2.2 k n)
abbrev tyA (cI cB cJ cZ : ClassId) : List (ClassId × FieldType) := [(cI, .int), (cB, .byte), (cJ, .long), (cZ, .boolean)]
def aU (a : Nat → Nat) (u : Nat × Nat × Nat) : Nat → Nat := fun k => if k = 2 then u.1 else if k = 5 then u.2.1 else if k = 7 then u.2.2 else a k
def wO (cI cB cJ cZ : ClassId) (a : Nat → Nat) (t : St) : va_W := [(a 0, .inr (5, [.ref (a 1), .ref (a 3), .ref (a 11)])),
  (a 1, .inr (0, [.ref (a 2), .int (t.1 0)])),
  (a 2, .inl (cB, t.2.2.2 0, .inl (t.2.1 0))),
  (a 3, .inr (3, [.ref (a 1), .ref (a 4), .ref (a 6), .ref (a 8), .ref (a 9), .ref (a 10), .int (t.1 1), .int (t.1 2), .int (t.1 3), .int (t.1 4), .int (t.1 5), .int (t.1 6)])),
  (a 4, .inr (1, [.ref (a 5), .int (t.1 7)])),
  (a 5, .inl (cI, t.2.2.2 1, .inl (t.2.1 1))),
  (a 6, .inr (1, [.ref (a 7), .int (t.1 8)])),
  (a 7, .inl (cI, t.2.2.2 2, .inl (t.2.1 2))),
  (a 8, .inl (cI, 16, .inl (t.2.1 3))),
  (a 9, .inl (cI, 4, .inl (t.2.1 4))),
  (a 10, .inl (cI, 8, .inl (t.2.1 5))),
  (a 11, .inr (2, [.ref (a 1), .ref (a 3), .ref (a 12), .ref (a 14), .ref (a 15), .int (t.1 9), .int (t.1 10), .int (t.1 11), .int (t.1 12), .int (t.1 13), .int (t.1 14)])),
  (a 12, .inr (4, [.int (t.1 15), .int (t.1 16), .int (t.1 17), .int (t.1 18), .int (t.1 19), .int (t.1 20), .ref (a 13)])),
  (a 13, .inl (cI, 4, .inl (t.2.1 6))),
  (a 14, .inl (cI, 256, .inl (t.2.1 7))),
  (a 15, .inl (cJ, 4, .inr (.inl (t.2.2.1 0))))]
def isO : List Nat := [0, 1, 2, 3, 4, 5, 6, 7, 8, 9, 10, 11, 12, 13, 14, 15]
theorem hCO (cI cB cJ cZ : ClassId) (a : Nat → Nat) (t : St) : isO.map (fun i => (wO cI cB cJ cZ a t)[i]?) = (wO cI cB cJ cZ a t).map some := rfl
theorem hDO (cI cB cJ cZ : ClassId) (a : Nat → Nat) (t : St) : isO.filterMap (fun i => (wO cI cB cJ cZ a t)[i]?) = wO cI cB cJ cZ a t := rfl
def wM (cI cB cJ cZ : ClassId) (a : Nat → Nat) (t : St) : va_W := [(a 0, .inr (6, [.int (t.1 0), .ref (a 1), .int (t.1 1), .int (t.1 2), .int (t.1 3), .int (t.1 4), .int (t.1 5), .int (t.1 6), .int (t.1 7), .int (t.1 8), .ref (a 2), .int (t.1 9), .int (t.1 10), .int (t.1 11), .int (t.1 12), .ref (a 3), .ref (a 4), .ref (a 5), .ref (a 6), .int (t.1 13), .ref (a 7), .ref (a 8), .ref (a 9), .ref (a 10), .ref (a 11), .ref (a 12), .int (t.1 14), .ref (a 13), .ref (a 14), .int (t.1 15), .ref (a 15), .ref (a 16), .ref (a 17), .ref (a 18), .ref (a 19), .int (t.1 16), .int (t.1 17), .int (t.1 18), .int (t.1 19), .int (t.1 20)])),
  (a 1, .inl (cB, 16384, .inl (t.2.1 0))),
  (a 2, .inl (cI, 16384, .inl (t.2.1 1))),
  (a 3, .inl (cI, 4, .inl (t.2.1 2))),
  (a 4, .inl (cI, 4, .inl (t.2.1 3))),
  (a 5, .inl (cI, 4, .inl (t.2.1 4))),
  (a 6, .inl (cI, 4, .inl (t.2.1 5))),
  (a 7, .inl (cZ, 4, .inl (t.2.1 6))),
  (a 8, .inl (cI, 256, .inl (t.2.1 7))),
  (a 9, .inl (cZ, 8, .inl (t.2.1 8))),
  (a 10, .inl (cI, 136, .inl (t.2.1 9))),
  (a 11, .inl (cI, 2048, .inl (t.2.1 10))),
  (a 12, .inl (cI, 8, .inl (t.2.1 11))),
  (a 13, .inl (cI, 61440, .inl (t.2.1 12))),
  (a 14, .inl (cI, 256, .inl (t.2.1 13))),
  (a 15, .inl (cI, 4, .inl (t.2.1 14))),
  (a 16, .inl (cI, 4, .inl (t.2.1 15))),
  (a 17, .inl (cI, 4, .inl (t.2.1 16))),
  (a 18, .inl (cI, 4, .inl (t.2.1 17))),
  (a 19, .inl (cZ, 256, .inl (t.2.1 18)))]
def isM : List Nat := [0, 1, 2, 3, 4, 5, 6, 7, 8, 9, 10, 11, 12, 13, 14, 15, 16, 17, 18, 19]
theorem hCM (cI cB cJ cZ : ClassId) (a : Nat → Nat) (t : St) : isM.map (fun i => (wM cI cB cJ cZ a t)[i]?) = (wM cI cB cJ cZ a t).map some := rfl
theorem hDM (cI cB cJ cZ : ClassId) (a : Nat → Nat) (t : St) : isM.filterMap (fun i => (wM cI cB cJ cZ a t)[i]?) = wM cI cB cJ cZ a t := rfl
end
