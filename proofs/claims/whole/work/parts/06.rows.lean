section AWR1
variable {E : gE} {y : MethodName} {cc : ByteArray} {ret : Option FieldType} {nL d : Nat} {r : Option Value} {h0 hf h : hp} {pc pc' : Nat} {lv lv' : List (Nat × Value)} {st st' : List Value}
theorem a_iconst {n : Int} {v : Int32} (hdg : decode cc pc = .ok (.iconst n, 1)) (hv : Int32.ofInt n = v) (k : AW E y cc ret nL d r h0 hf (pc + 1) lv (.int v :: st) h) : AW E y cc ret nL d r h0 hf pc lv (st) h :=
  AW.lift (fun p l e R s m args below meth c H locs cells slots Q C ls hl0 kk0 => lv_iconst C.1 C.2.1 hdg hv (kk0 ls hl0)) k

theorem a_bipush {n : Int} {v : Int32} (hdg : decode cc pc = .ok (.bipush n, 2)) (hv : (Int8.ofInt n).toInt32 = v) (k : AW E y cc ret nL d r h0 hf (pc + 2) lv (.int v :: st) h) : AW E y cc ret nL d r h0 hf pc lv (st) h :=
  AW.lift (fun p l e R s m args below meth c H locs cells slots Q C ls hl0 kk0 => lv_bipush C.1 C.2.1 hdg hv (kk0 ls hl0)) k

theorem a_sipush {n : Int} {v : Int32} (hdg : decode cc pc = .ok (.sipush n, 3)) (hv : (Int16.ofInt n).toInt32 = v) (k : AW E y cc ret nL d r h0 hf (pc + 3) lv (.int v :: st) h) : AW E y cc ret nL d r h0 hf pc lv (st) h :=
  AW.lift (fun p l e R s m args below meth c H locs cells slots Q C ls hl0 kk0 => lv_sipush C.1 C.2.1 hdg hv (kk0 ls hl0)) k

theorem a_lconst {n : Fin 2} {v : Int64} (hdg : decode cc pc = .ok (.lconst n, 1)) (hv : Int64.ofNat (n : Nat) = v) (k : AW E y cc ret nL d r h0 hf (pc + 1) lv (.long v :: st) h) : AW E y cc ret nL d r h0 hf pc lv (st) h :=
  AW.lift (fun p l e R s m args below meth c H locs cells slots Q C ls hl0 kk0 => lv_lconst C.1 C.2.1 hdg hv (kk0 ls hl0)) k

theorem a_fconst0 (hdg : decode cc pc = .ok (.fconst 0, 1)) (k : AW E y cc ret nL d r h0 hf (pc + 1) lv (.float FP.fconst0 :: st) h) : AW E y cc ret nL d r h0 hf pc lv (st) h :=
  AW.lift (fun p l e R s m args below meth c H locs cells slots Q C ls hl0 kk0 => lv_fconst0 C.1 C.2.1 hdg (kk0 ls hl0)) k

theorem a_fconst1 (hdg : decode cc pc = .ok (.fconst 1, 1)) (k : AW E y cc ret nL d r h0 hf (pc + 1) lv (.float FP.fconst1 :: st) h) : AW E y cc ret nL d r h0 hf pc lv (st) h :=
  AW.lift (fun p l e R s m args below meth c H locs cells slots Q C ls hl0 kk0 => lv_fconst1 C.1 C.2.1 hdg (kk0 ls hl0)) k

theorem a_fconst2 (hdg : decode cc pc = .ok (.fconst 2, 1)) (k : AW E y cc ret nL d r h0 hf (pc + 1) lv (.float FP.fconst2 :: st) h) : AW E y cc ret nL d r h0 hf pc lv (st) h :=
  AW.lift (fun p l e R s m args below meth c H locs cells slots Q C ls hl0 kk0 => lv_fconst2 C.1 C.2.1 hdg (kk0 ls hl0)) k

theorem a_dconst0 (hdg : decode cc pc = .ok (.dconst 0, 1)) (k : AW E y cc ret nL d r h0 hf (pc + 1) lv (.double FP.dconst0 :: st) h) : AW E y cc ret nL d r h0 hf pc lv (st) h :=
  AW.lift (fun p l e R s m args below meth c H locs cells slots Q C ls hl0 kk0 => lv_dconst0 C.1 C.2.1 hdg (kk0 ls hl0)) k

theorem a_dconst1 (hdg : decode cc pc = .ok (.dconst 1, 1)) (k : AW E y cc ret nL d r h0 hf (pc + 1) lv (.double FP.dconst1 :: st) h) : AW E y cc ret nL d r h0 hf pc lv (st) h :=
  AW.lift (fun p l e R s m args below meth c H locs cells slots Q C ls hl0 kk0 => lv_dconst1 C.1 C.2.1 hdg (kk0 ls hl0)) k

theorem a_iload_n {kf : Fin 4} {i : Nat} {x : Int32} (hdg : decode cc pc = .ok (.iload_n kf, 1)) (hi : (kf : Nat) = i) {q : Nat} (hl : lv[q]? = some (i, .int x)) (k : AW E y cc ret nL d r h0 hf (pc + 1) lv (.int x :: st) h) : AW E y cc ret nL d r h0 hf pc lv (st) h :=
  AW.lift (fun p l e R s m args below meth c H locs cells slots Q C ls hl0 kk0 => lv_iload_n C.1 C.2.1 hdg hi (lva hl0 hl) (kk0 ls hl0)) k

theorem a_iload {i : Nat} {x : Int32} (hdg : decode cc pc = .ok (.iload i, 2)) {q : Nat} (hl : lv[q]? = some (i, .int x)) (k : AW E y cc ret nL d r h0 hf (pc + 2) lv (.int x :: st) h) : AW E y cc ret nL d r h0 hf pc lv (st) h :=
  AW.lift (fun p l e R s m args below meth c H locs cells slots Q C ls hl0 kk0 => lv_iload C.1 C.2.1 hdg (lva hl0 hl) (kk0 ls hl0)) k

theorem a_lload_n {kf : Fin 4} {i : Nat} {x : Int64} (hdg : decode cc pc = .ok (.lload_n kf, 1)) (hi : (kf : Nat) = i) {q : Nat} (hl : lv[q]? = some (i, .long x)) (k : AW E y cc ret nL d r h0 hf (pc + 1) lv (.long x :: st) h) : AW E y cc ret nL d r h0 hf pc lv (st) h :=
  AW.lift (fun p l e R s m args below meth c H locs cells slots Q C ls hl0 kk0 => lv_lload_n C.1 C.2.1 hdg hi (lva hl0 hl) (kk0 ls hl0)) k

theorem a_lload {i : Nat} {x : Int64} (hdg : decode cc pc = .ok (.lload i, 2)) {q : Nat} (hl : lv[q]? = some (i, .long x)) (k : AW E y cc ret nL d r h0 hf (pc + 2) lv (.long x :: st) h) : AW E y cc ret nL d r h0 hf pc lv (st) h :=
  AW.lift (fun p l e R s m args below meth c H locs cells slots Q C ls hl0 kk0 => lv_lload C.1 C.2.1 hdg (lva hl0 hl) (kk0 ls hl0)) k

theorem a_fload_n {kf : Fin 4} {i : Nat} {x : UInt32} (hdg : decode cc pc = .ok (.fload_n kf, 1)) (hi : (kf : Nat) = i) {q : Nat} (hl : lv[q]? = some (i, .float x)) (k : AW E y cc ret nL d r h0 hf (pc + 1) lv (.float x :: st) h) : AW E y cc ret nL d r h0 hf pc lv (st) h :=
  AW.lift (fun p l e R s m args below meth c H locs cells slots Q C ls hl0 kk0 => lv_fload_n C.1 C.2.1 hdg hi (lva hl0 hl) (kk0 ls hl0)) k

theorem a_fload {i : Nat} {x : UInt32} (hdg : decode cc pc = .ok (.fload i, 2)) {q : Nat} (hl : lv[q]? = some (i, .float x)) (k : AW E y cc ret nL d r h0 hf (pc + 2) lv (.float x :: st) h) : AW E y cc ret nL d r h0 hf pc lv (st) h :=
  AW.lift (fun p l e R s m args below meth c H locs cells slots Q C ls hl0 kk0 => lv_fload C.1 C.2.1 hdg (lva hl0 hl) (kk0 ls hl0)) k

theorem a_dload_n {kf : Fin 4} {i : Nat} {x : UInt64} (hdg : decode cc pc = .ok (.dload_n kf, 1)) (hi : (kf : Nat) = i) {q : Nat} (hl : lv[q]? = some (i, .double x)) (k : AW E y cc ret nL d r h0 hf (pc + 1) lv (.double x :: st) h) : AW E y cc ret nL d r h0 hf pc lv (st) h :=
  AW.lift (fun p l e R s m args below meth c H locs cells slots Q C ls hl0 kk0 => lv_dload_n C.1 C.2.1 hdg hi (lva hl0 hl) (kk0 ls hl0)) k

theorem a_dload {i : Nat} {x : UInt64} (hdg : decode cc pc = .ok (.dload i, 2)) {q : Nat} (hl : lv[q]? = some (i, .double x)) (k : AW E y cc ret nL d r h0 hf (pc + 2) lv (.double x :: st) h) : AW E y cc ret nL d r h0 hf pc lv (st) h :=
  AW.lift (fun p l e R s m args below meth c H locs cells slots Q C ls hl0 kk0 => lv_dload C.1 C.2.1 hdg (lva hl0 hl) (kk0 ls hl0)) k

theorem a_istore_n {kf : Fin 4} {i : Nat} {x : Int32} (hdg : decode cc pc = .ok (.istore_n kf, 1)) (hi : (kf : Nat) = i) (hn : i < nL) {lv1 : List (Nat × Value)} (hl : (i, Value.int x) :: lv.filter (fun q => !(q.1 == i) && !(q.1 + 1 == i && q.2.category == 2)) = lv1) (k : AW E y cc ret nL d r h0 hf (pc + 1) lv1 (st) h) : AW E y cc ret nL d r h0 hf pc lv (.int x :: st) h :=
  AW.lift (fun p l e R s m args below meth c H locs cells slots Q C ls hl0 kk0 => lv_istore_n C.1 C.2.1 hdg hi hl0 hn (lvs hl) kk0) k

theorem a_istore {i : Nat} {x : Int32} (hdg : decode cc pc = .ok (.istore i, 2)) (hn : i < nL) {lv1 : List (Nat × Value)} (hl : (i, Value.int x) :: lv.filter (fun q => !(q.1 == i) && !(q.1 + 1 == i && q.2.category == 2)) = lv1) (k : AW E y cc ret nL d r h0 hf (pc + 2) lv1 (st) h) : AW E y cc ret nL d r h0 hf pc lv (.int x :: st) h :=
  AW.lift (fun p l e R s m args below meth c H locs cells slots Q C ls hl0 kk0 => lv_istore C.1 C.2.1 hdg hl0 hn (lvs hl) kk0) k

theorem a_lstore_n {kf : Fin 4} {i : Nat} {x : Int64} (hdg : decode cc pc = .ok (.lstore_n kf, 1)) (hi : (kf : Nat) = i) (hn : i + 1 < nL) {lv1 : List (Nat × Value)} (hl : (i, Value.long x) :: lv.filter (fun q => !(q.1 == i) && (!(q.1 == i + 1) && !(q.1 + 1 == i && q.2.category == 2))) = lv1) (k : AW E y cc ret nL d r h0 hf (pc + 1) lv1 (st) h) : AW E y cc ret nL d r h0 hf pc lv (.long x :: st) h :=
  AW.lift (fun p l e R s m args below meth c H locs cells slots Q C ls hl0 kk0 => lv_lstore_n C.1 C.2.1 hdg hi hl0 hn (lvs2 hl) kk0) k

theorem a_lstore {i : Nat} {x : Int64} (hdg : decode cc pc = .ok (.lstore i, 2)) (hn : i + 1 < nL) {lv1 : List (Nat × Value)} (hl : (i, Value.long x) :: lv.filter (fun q => !(q.1 == i) && (!(q.1 == i + 1) && !(q.1 + 1 == i && q.2.category == 2))) = lv1) (k : AW E y cc ret nL d r h0 hf (pc + 2) lv1 (st) h) : AW E y cc ret nL d r h0 hf pc lv (.long x :: st) h :=
  AW.lift (fun p l e R s m args below meth c H locs cells slots Q C ls hl0 kk0 => lv_lstore C.1 C.2.1 hdg hl0 hn (lvs2 hl) kk0) k

theorem a_fstore_n {kf : Fin 4} {i : Nat} {x : UInt32} (hdg : decode cc pc = .ok (.fstore_n kf, 1)) (hi : (kf : Nat) = i) (hn : i < nL) {lv1 : List (Nat × Value)} (hl : (i, Value.float x) :: lv.filter (fun q => !(q.1 == i) && !(q.1 + 1 == i && q.2.category == 2)) = lv1) (k : AW E y cc ret nL d r h0 hf (pc + 1) lv1 (st) h) : AW E y cc ret nL d r h0 hf pc lv (.float x :: st) h :=
  AW.lift (fun p l e R s m args below meth c H locs cells slots Q C ls hl0 kk0 => lv_fstore_n C.1 C.2.1 hdg hi hl0 hn (lvs hl) kk0) k

theorem a_fstore {i : Nat} {x : UInt32} (hdg : decode cc pc = .ok (.fstore i, 2)) (hn : i < nL) {lv1 : List (Nat × Value)} (hl : (i, Value.float x) :: lv.filter (fun q => !(q.1 == i) && !(q.1 + 1 == i && q.2.category == 2)) = lv1) (k : AW E y cc ret nL d r h0 hf (pc + 2) lv1 (st) h) : AW E y cc ret nL d r h0 hf pc lv (.float x :: st) h :=
  AW.lift (fun p l e R s m args below meth c H locs cells slots Q C ls hl0 kk0 => lv_fstore C.1 C.2.1 hdg hl0 hn (lvs hl) kk0) k

theorem a_dstore_n {kf : Fin 4} {i : Nat} {x : UInt64} (hdg : decode cc pc = .ok (.dstore_n kf, 1)) (hi : (kf : Nat) = i) (hn : i + 1 < nL) {lv1 : List (Nat × Value)} (hl : (i, Value.double x) :: lv.filter (fun q => !(q.1 == i) && (!(q.1 == i + 1) && !(q.1 + 1 == i && q.2.category == 2))) = lv1) (k : AW E y cc ret nL d r h0 hf (pc + 1) lv1 (st) h) : AW E y cc ret nL d r h0 hf pc lv (.double x :: st) h :=
  AW.lift (fun p l e R s m args below meth c H locs cells slots Q C ls hl0 kk0 => lv_dstore_n C.1 C.2.1 hdg hi hl0 hn (lvs2 hl) kk0) k

theorem a_dstore {i : Nat} {x : UInt64} (hdg : decode cc pc = .ok (.dstore i, 2)) (hn : i + 1 < nL) {lv1 : List (Nat × Value)} (hl : (i, Value.double x) :: lv.filter (fun q => !(q.1 == i) && (!(q.1 == i + 1) && !(q.1 + 1 == i && q.2.category == 2))) = lv1) (k : AW E y cc ret nL d r h0 hf (pc + 2) lv1 (st) h) : AW E y cc ret nL d r h0 hf pc lv (.double x :: st) h :=
  AW.lift (fun p l e R s m args below meth c H locs cells slots Q C ls hl0 kk0 => lv_dstore C.1 C.2.1 hdg hl0 hn (lvs2 hl) kk0) k

theorem a_iadd {x y0 : Int32} (hdg : decode cc pc = .ok (.iadd, 1)) (k : AW E y cc ret nL d r h0 hf (pc + 1) lv (.int (x + y0) :: st) h) : AW E y cc ret nL d r h0 hf pc lv (.int y0 :: .int x :: st) h :=
  AW.lift (fun p l e R s m args below meth c H locs cells slots Q C ls hl0 kk0 => lv_iadd C.1 C.2.1 hdg (kk0 ls hl0)) k

theorem a_isub {x y0 : Int32} (hdg : decode cc pc = .ok (.isub, 1)) (k : AW E y cc ret nL d r h0 hf (pc + 1) lv (.int (x - y0) :: st) h) : AW E y cc ret nL d r h0 hf pc lv (.int y0 :: .int x :: st) h :=
  AW.lift (fun p l e R s m args below meth c H locs cells slots Q C ls hl0 kk0 => lv_isub C.1 C.2.1 hdg (kk0 ls hl0)) k

theorem a_imul {x y0 : Int32} (hdg : decode cc pc = .ok (.imul, 1)) (k : AW E y cc ret nL d r h0 hf (pc + 1) lv (.int (x * y0) :: st) h) : AW E y cc ret nL d r h0 hf pc lv (.int y0 :: .int x :: st) h :=
  AW.lift (fun p l e R s m args below meth c H locs cells slots Q C ls hl0 kk0 => lv_imul C.1 C.2.1 hdg (kk0 ls hl0)) k

theorem a_iand {x y0 : Int32} (hdg : decode cc pc = .ok (.iand, 1)) (k : AW E y cc ret nL d r h0 hf (pc + 1) lv (.int (x &&& y0) :: st) h) : AW E y cc ret nL d r h0 hf pc lv (.int y0 :: .int x :: st) h :=
  AW.lift (fun p l e R s m args below meth c H locs cells slots Q C ls hl0 kk0 => lv_iand C.1 C.2.1 hdg (kk0 ls hl0)) k

theorem a_ior {x y0 : Int32} (hdg : decode cc pc = .ok (.ior, 1)) (k : AW E y cc ret nL d r h0 hf (pc + 1) lv (.int (x ||| y0) :: st) h) : AW E y cc ret nL d r h0 hf pc lv (.int y0 :: .int x :: st) h :=
  AW.lift (fun p l e R s m args below meth c H locs cells slots Q C ls hl0 kk0 => lv_ior C.1 C.2.1 hdg (kk0 ls hl0)) k

theorem a_idiv {x y0 : Int32} (hdg : decode cc pc = .ok (.idiv, 1)) (hne : ¬ y0 = 0) (k : AW E y cc ret nL d r h0 hf (pc + 1) lv (.int (x / y0) :: st) h) : AW E y cc ret nL d r h0 hf pc lv (.int y0 :: .int x :: st) h :=
  AW.lift (fun p l e R s m args below meth c H locs cells slots Q C ls hl0 kk0 => lv_idiv C.1 C.2.1 hdg hne (kk0 ls hl0)) k

theorem a_irem {x y0 : Int32} (hdg : decode cc pc = .ok (.irem, 1)) (hne : ¬ y0 = 0) (k : AW E y cc ret nL d r h0 hf (pc + 1) lv (.int (x - x / y0 * y0) :: st) h) : AW E y cc ret nL d r h0 hf pc lv (.int y0 :: .int x :: st) h :=
  AW.lift (fun p l e R s m args below meth c H locs cells slots Q C ls hl0 kk0 => lv_irem C.1 C.2.1 hdg hne (kk0 ls hl0)) k

theorem a_ineg {x : Int32} (hdg : decode cc pc = .ok (.ineg, 1)) (k : AW E y cc ret nL d r h0 hf (pc + 1) lv (.int (-x) :: st) h) : AW E y cc ret nL d r h0 hf pc lv (.int x :: st) h :=
  AW.lift (fun p l e R s m args below meth c H locs cells slots Q C ls hl0 kk0 => lv_ineg C.1 C.2.1 hdg (kk0 ls hl0)) k

theorem a_ladd {x y0 : Int64} (hdg : decode cc pc = .ok (.ladd, 1)) (k : AW E y cc ret nL d r h0 hf (pc + 1) lv (.long (x + y0) :: st) h) : AW E y cc ret nL d r h0 hf pc lv (.long y0 :: .long x :: st) h :=
  AW.lift (fun p l e R s m args below meth c H locs cells slots Q C ls hl0 kk0 => lv_ladd C.1 C.2.1 hdg (kk0 ls hl0)) k

theorem a_lsub {x y0 : Int64} (hdg : decode cc pc = .ok (.lsub, 1)) (k : AW E y cc ret nL d r h0 hf (pc + 1) lv (.long (x - y0) :: st) h) : AW E y cc ret nL d r h0 hf pc lv (.long y0 :: .long x :: st) h :=
  AW.lift (fun p l e R s m args below meth c H locs cells slots Q C ls hl0 kk0 => lv_lsub C.1 C.2.1 hdg (kk0 ls hl0)) k

theorem a_lmul {x y0 : Int64} (hdg : decode cc pc = .ok (.lmul, 1)) (k : AW E y cc ret nL d r h0 hf (pc + 1) lv (.long (x * y0) :: st) h) : AW E y cc ret nL d r h0 hf pc lv (.long y0 :: .long x :: st) h :=
  AW.lift (fun p l e R s m args below meth c H locs cells slots Q C ls hl0 kk0 => lv_lmul C.1 C.2.1 hdg (kk0 ls hl0)) k

theorem a_land {x y0 : Int64} (hdg : decode cc pc = .ok (.land, 1)) (k : AW E y cc ret nL d r h0 hf (pc + 1) lv (.long (x &&& y0) :: st) h) : AW E y cc ret nL d r h0 hf pc lv (.long y0 :: .long x :: st) h :=
  AW.lift (fun p l e R s m args below meth c H locs cells slots Q C ls hl0 kk0 => lv_land C.1 C.2.1 hdg (kk0 ls hl0)) k

theorem a_lor {x y0 : Int64} (hdg : decode cc pc = .ok (.lor, 1)) (k : AW E y cc ret nL d r h0 hf (pc + 1) lv (.long (x ||| y0) :: st) h) : AW E y cc ret nL d r h0 hf pc lv (.long y0 :: .long x :: st) h :=
  AW.lift (fun p l e R s m args below meth c H locs cells slots Q C ls hl0 kk0 => lv_lor C.1 C.2.1 hdg (kk0 ls hl0)) k

theorem a_ishl {x y0 : Int32} (hdg : decode cc pc = .ok (.ishl, 1)) (k : AW E y cc ret nL d r h0 hf (pc + 1) lv (.int (x <<< (y0 &&& 31)) :: st) h) : AW E y cc ret nL d r h0 hf pc lv (.int y0 :: .int x :: st) h :=
  AW.lift (fun p l e R s m args below meth c H locs cells slots Q C ls hl0 kk0 => lv_ishl C.1 C.2.1 hdg (kk0 ls hl0)) k

theorem a_ishr {x y0 : Int32} (hdg : decode cc pc = .ok (.ishr, 1)) (k : AW E y cc ret nL d r h0 hf (pc + 1) lv (.int (x >>> (y0 &&& 31)) :: st) h) : AW E y cc ret nL d r h0 hf pc lv (.int y0 :: .int x :: st) h :=
  AW.lift (fun p l e R s m args below meth c H locs cells slots Q C ls hl0 kk0 => lv_ishr C.1 C.2.1 hdg (kk0 ls hl0)) k

theorem a_i2l {x : Int32} {v : Int64} (hdg : decode cc pc = .ok (.i2l, 1)) (hv : x.toInt64 = v) (k : AW E y cc ret nL d r h0 hf (pc + 1) lv (.long v :: st) h) : AW E y cc ret nL d r h0 hf pc lv (.int x :: st) h :=
  AW.lift (fun p l e R s m args below meth c H locs cells slots Q C ls hl0 kk0 => lv_i2l C.1 C.2.1 hdg hv (kk0 ls hl0)) k

theorem a_l2i {x : Int64} {v : Int32} (hdg : decode cc pc = .ok (.l2i, 1)) (hv : x.toInt32 = v) (k : AW E y cc ret nL d r h0 hf (pc + 1) lv (.int v :: st) h) : AW E y cc ret nL d r h0 hf pc lv (.long x :: st) h :=
  AW.lift (fun p l e R s m args below meth c H locs cells slots Q C ls hl0 kk0 => lv_l2i C.1 C.2.1 hdg hv (kk0 ls hl0)) k

theorem a_i2b {x : Int32} {v : Int32} (hdg : decode cc pc = .ok (.i2b, 1)) (hv : x.toInt8.toInt32 = v) (k : AW E y cc ret nL d r h0 hf (pc + 1) lv (.int v :: st) h) : AW E y cc ret nL d r h0 hf pc lv (.int x :: st) h :=
  AW.lift (fun p l e R s m args below meth c H locs cells slots Q C ls hl0 kk0 => lv_i2b C.1 C.2.1 hdg hv (kk0 ls hl0)) k

theorem a_lshl {x v : Int64} {y0 : Int32} (hdg : decode cc pc = .ok (.lshl, 1)) (hv : x <<< (y0.toInt64 &&& 63) = v) (k : AW E y cc ret nL d r h0 hf (pc + 1) lv (.long v :: st) h) : AW E y cc ret nL d r h0 hf pc lv (.int y0 :: .long x :: st) h :=
  AW.lift (fun p l e R s m args below meth c H locs cells slots Q C ls hl0 kk0 => lv_lshl C.1 C.2.1 hdg hv (kk0 ls hl0)) k

theorem a_lshr {x v : Int64} {y0 : Int32} (hdg : decode cc pc = .ok (.lshr, 1)) (hv : x >>> (y0.toInt64 &&& 63) = v) (k : AW E y cc ret nL d r h0 hf (pc + 1) lv (.long v :: st) h) : AW E y cc ret nL d r h0 hf pc lv (.int y0 :: .long x :: st) h :=
  AW.lift (fun p l e R s m args below meth c H locs cells slots Q C ls hl0 kk0 => lv_lshr C.1 C.2.1 hdg hv (kk0 ls hl0)) k

theorem a_fadd {x y0 : UInt32} (hdg : decode cc pc = .ok (.fadd, 1)) (hne : vf_n32 (FP.fadd x y0)) (k : AW E y cc ret nL d r h0 hf (pc + 1) lv (.float (FP.fadd x y0) :: st) h) : AW E y cc ret nL d r h0 hf pc lv (.float y0 :: .float x :: st) h :=
  AW.lift (fun p l e R s m args below meth c H locs cells slots Q C ls hl0 kk0 => lv_fadd C.1 C.2.1 hdg hne (kk0 ls hl0)) k

theorem a_fsub {x y0 : UInt32} (hdg : decode cc pc = .ok (.fsub, 1)) (hne : vf_n32 (FP.fsub x y0)) (k : AW E y cc ret nL d r h0 hf (pc + 1) lv (.float (FP.fsub x y0) :: st) h) : AW E y cc ret nL d r h0 hf pc lv (.float y0 :: .float x :: st) h :=
  AW.lift (fun p l e R s m args below meth c H locs cells slots Q C ls hl0 kk0 => lv_fsub C.1 C.2.1 hdg hne (kk0 ls hl0)) k

theorem a_fmul {x y0 : UInt32} (hdg : decode cc pc = .ok (.fmul, 1)) (hne : vf_n32 (FP.fmul x y0)) (k : AW E y cc ret nL d r h0 hf (pc + 1) lv (.float (FP.fmul x y0) :: st) h) : AW E y cc ret nL d r h0 hf pc lv (.float y0 :: .float x :: st) h :=
  AW.lift (fun p l e R s m args below meth c H locs cells slots Q C ls hl0 kk0 => lv_fmul C.1 C.2.1 hdg hne (kk0 ls hl0)) k

theorem a_fdiv {x y0 : UInt32} (hdg : decode cc pc = .ok (.fdiv, 1)) (hne : vf_n32 (FP.fdiv x y0)) (k : AW E y cc ret nL d r h0 hf (pc + 1) lv (.float (FP.fdiv x y0) :: st) h) : AW E y cc ret nL d r h0 hf pc lv (.float y0 :: .float x :: st) h :=
  AW.lift (fun p l e R s m args below meth c H locs cells slots Q C ls hl0 kk0 => lv_fdiv C.1 C.2.1 hdg hne (kk0 ls hl0)) k

theorem a_fneg {x : UInt32} (hdg : decode cc pc = .ok (.fneg, 1)) (k : AW E y cc ret nL d r h0 hf (pc + 1) lv (.float (FP.fneg x) :: st) h) : AW E y cc ret nL d r h0 hf pc lv (.float x :: st) h :=
  AW.lift (fun p l e R s m args below meth c H locs cells slots Q C ls hl0 kk0 => lv_fneg C.1 C.2.1 hdg (kk0 ls hl0)) k

theorem a_fcmp {x y0 : UInt32} {op : CmpOp} (hdg : decode cc pc = .ok (.fcmp op, 1)) (k : AW E y cc ret nL d r h0 hf (pc + 1) lv (.int (Op.cmpValue (FP.fcmp x y0) op) :: st) h) : AW E y cc ret nL d r h0 hf pc lv (.float y0 :: .float x :: st) h :=
  AW.lift (fun p l e R s m args below meth c H locs cells slots Q C ls hl0 kk0 => lv_fcmp C.1 C.2.1 hdg (kk0 ls hl0)) k

theorem a_i2f {x : Int32} (hdg : decode cc pc = .ok (.i2f, 1)) (k : AW E y cc ret nL d r h0 hf (pc + 1) lv (.float (FP.i2f x) :: st) h) : AW E y cc ret nL d r h0 hf pc lv (.int x :: st) h :=
  AW.lift (fun p l e R s m args below meth c H locs cells slots Q C ls hl0 kk0 => lv_i2f C.1 C.2.1 hdg (kk0 ls hl0)) k

theorem a_l2f {x : Int64} (hdg : decode cc pc = .ok (.l2f, 1)) (k : AW E y cc ret nL d r h0 hf (pc + 1) lv (.float (FP.l2f x) :: st) h) : AW E y cc ret nL d r h0 hf pc lv (.long x :: st) h :=
  AW.lift (fun p l e R s m args below meth c H locs cells slots Q C ls hl0 kk0 => lv_l2f C.1 C.2.1 hdg (kk0 ls hl0)) k

theorem a_f2i {x : UInt32} (hdg : decode cc pc = .ok (.f2i, 1)) (k : AW E y cc ret nL d r h0 hf (pc + 1) lv (.int (FP.f2i x) :: st) h) : AW E y cc ret nL d r h0 hf pc lv (.float x :: st) h :=
  AW.lift (fun p l e R s m args below meth c H locs cells slots Q C ls hl0 kk0 => lv_f2i C.1 C.2.1 hdg (kk0 ls hl0)) k

theorem a_dmul {x y0 : UInt64} (hdg : decode cc pc = .ok (.dmul, 1)) (hne : vf_n64 (FP.dmul x y0)) (k : AW E y cc ret nL d r h0 hf (pc + 1) lv (.double (FP.dmul x y0) :: st) h) : AW E y cc ret nL d r h0 hf pc lv (.double y0 :: .double x :: st) h :=
  AW.lift (fun p l e R s m args below meth c H locs cells slots Q C ls hl0 kk0 => lv_dmul C.1 C.2.1 hdg hne (kk0 ls hl0)) k

theorem a_dneg {x : UInt64} (hdg : decode cc pc = .ok (.dneg, 1)) (k : AW E y cc ret nL d r h0 hf (pc + 1) lv (.double (FP.dneg x) :: st) h) : AW E y cc ret nL d r h0 hf pc lv (.double x :: st) h :=
  AW.lift (fun p l e R s m args below meth c H locs cells slots Q C ls hl0 kk0 => lv_dneg C.1 C.2.1 hdg (kk0 ls hl0)) k

theorem a_dcmp {x y0 : UInt64} {op : CmpOp} (hdg : decode cc pc = .ok (.dcmp op, 1)) (k : AW E y cc ret nL d r h0 hf (pc + 1) lv (.int (Op.cmpValue (FP.dcmp x y0) op) :: st) h) : AW E y cc ret nL d r h0 hf pc lv (.double y0 :: .double x :: st) h :=
  AW.lift (fun p l e R s m args below meth c H locs cells slots Q C ls hl0 kk0 => lv_dcmp C.1 C.2.1 hdg (kk0 ls hl0)) k

theorem a_i2d {x : Int32} (hdg : decode cc pc = .ok (.i2d, 1)) (k : AW E y cc ret nL d r h0 hf (pc + 1) lv (.double (FP.i2d x) :: st) h) : AW E y cc ret nL d r h0 hf pc lv (.int x :: st) h :=
  AW.lift (fun p l e R s m args below meth c H locs cells slots Q C ls hl0 kk0 => lv_i2d C.1 C.2.1 hdg (kk0 ls hl0)) k

theorem a_d2i {x : UInt64} (hdg : decode cc pc = .ok (.d2i, 1)) (k : AW E y cc ret nL d r h0 hf (pc + 1) lv (.int (FP.d2i x) :: st) h) : AW E y cc ret nL d r h0 hf pc lv (.double x :: st) h :=
  AW.lift (fun p l e R s m args below meth c H locs cells slots Q C ls hl0 kk0 => lv_d2i C.1 C.2.1 hdg (kk0 ls hl0)) k

theorem a_f2d {x : UInt32} (hdg : decode cc pc = .ok (.f2d, 1)) (hne : vf_n64 (FP.f2d x)) (k : AW E y cc ret nL d r h0 hf (pc + 1) lv (.double (FP.f2d x) :: st) h) : AW E y cc ret nL d r h0 hf pc lv (.float x :: st) h :=
  AW.lift (fun p l e R s m args below meth c H locs cells slots Q C ls hl0 kk0 => lv_f2d C.1 C.2.1 hdg hne (kk0 ls hl0)) k

theorem a_goto {off : Int} {tgt : Nat} (hdg : decode cc pc = .ok (.goto off, 3)) (ht : (pc : Int) + off = (tgt : Int)) (k : AW E y cc ret nL d r h0 hf tgt lv (st) h) : AW E y cc ret nL d r h0 hf pc lv (st) h :=
  AW.lift (fun p l e R s m args below meth c H locs cells slots Q C ls hl0 kk0 => lv_goto C.1 C.2.1 hdg ht (kk0 ls hl0)) k

theorem a_if_eq {x : Int32} {off : Int} {tgt : Nat} (hdg : decode cc pc = .ok (.ifCond .eq off, 3)) (ht : (pc : Int) + off = (tgt : Int)) (k : x = 0 → AW E y cc ret nL d r h0 hf tgt lv (st) h) (k2 : ¬ x = 0 → AW E y cc ret nL d r h0 hf (pc + 3) lv (st) h) : AW E y cc ret nL d r h0 hf pc lv (.int x :: st) h :=
  AW.lift2 (fun p l e R s m args below meth c H locs cells slots Q C ls hl0 kt kf => lv_if_eq C.1 C.2.1 hdg ht kt kf) k k2

theorem a_if_ne {x : Int32} {off : Int} {tgt : Nat} (hdg : decode cc pc = .ok (.ifCond .ne off, 3)) (ht : (pc : Int) + off = (tgt : Int)) (k : ¬ x = 0 → AW E y cc ret nL d r h0 hf tgt lv (st) h) (k2 : x = 0 → AW E y cc ret nL d r h0 hf (pc + 3) lv (st) h) : AW E y cc ret nL d r h0 hf pc lv (.int x :: st) h :=
  AW.lift2 (fun p l e R s m args below meth c H locs cells slots Q C ls hl0 kt kf => lv_if_ne C.1 C.2.1 hdg ht kt (fun z => kf (fun q => q z))) k (fun z => k2 (Classical.byContradiction z))

theorem a_if_lt {x : Int32} {off : Int} {tgt : Nat} (hdg : decode cc pc = .ok (.ifCond .lt off, 3)) (ht : (pc : Int) + off = (tgt : Int)) (k : x < 0 → AW E y cc ret nL d r h0 hf tgt lv (st) h) (k2 : ¬ x < 0 → AW E y cc ret nL d r h0 hf (pc + 3) lv (st) h) : AW E y cc ret nL d r h0 hf pc lv (.int x :: st) h :=
  AW.lift2 (fun p l e R s m args below meth c H locs cells slots Q C ls hl0 kt kf => lv_if_lt C.1 C.2.1 hdg ht kt kf) k k2

theorem a_if_ge {x : Int32} {off : Int} {tgt : Nat} (hdg : decode cc pc = .ok (.ifCond .ge off, 3)) (ht : (pc : Int) + off = (tgt : Int)) (k : 0 ≤ x → AW E y cc ret nL d r h0 hf tgt lv (st) h) (k2 : ¬ 0 ≤ x → AW E y cc ret nL d r h0 hf (pc + 3) lv (st) h) : AW E y cc ret nL d r h0 hf pc lv (.int x :: st) h :=
  AW.lift2 (fun p l e R s m args below meth c H locs cells slots Q C ls hl0 kt kf => lv_if_ge C.1 C.2.1 hdg ht kt kf) k k2

theorem a_if_gt {x : Int32} {off : Int} {tgt : Nat} (hdg : decode cc pc = .ok (.ifCond .gt off, 3)) (ht : (pc : Int) + off = (tgt : Int)) (k : 0 < x → AW E y cc ret nL d r h0 hf tgt lv (st) h) (k2 : ¬ 0 < x → AW E y cc ret nL d r h0 hf (pc + 3) lv (st) h) : AW E y cc ret nL d r h0 hf pc lv (.int x :: st) h :=
  AW.lift2 (fun p l e R s m args below meth c H locs cells slots Q C ls hl0 kt kf => lv_if_gt C.1 C.2.1 hdg ht kt kf) k k2

theorem a_if_le {x : Int32} {off : Int} {tgt : Nat} (hdg : decode cc pc = .ok (.ifCond .le off, 3)) (ht : (pc : Int) + off = (tgt : Int)) (k : x ≤ 0 → AW E y cc ret nL d r h0 hf tgt lv (st) h) (k2 : ¬ x ≤ 0 → AW E y cc ret nL d r h0 hf (pc + 3) lv (st) h) : AW E y cc ret nL d r h0 hf pc lv (.int x :: st) h :=
  AW.lift2 (fun p l e R s m args below meth c H locs cells slots Q C ls hl0 kt kf => lv_if_le C.1 C.2.1 hdg ht kt kf) k k2

theorem a_icmp_eq {x y0 : Int32} {off : Int} {tgt : Nat} (hdg : decode cc pc = .ok (.if_icmp .eq off, 3)) (ht : (pc : Int) + off = (tgt : Int)) (k : x = y0 → AW E y cc ret nL d r h0 hf tgt lv (st) h) (k2 : ¬ x = y0 → AW E y cc ret nL d r h0 hf (pc + 3) lv (st) h) : AW E y cc ret nL d r h0 hf pc lv (.int y0 :: .int x :: st) h :=
  AW.lift2 (fun p l e R s m args below meth c H locs cells slots Q C ls hl0 kt kf => lv_icmp_eq C.1 C.2.1 hdg ht kt kf) k k2

theorem a_icmp_ne {x y0 : Int32} {off : Int} {tgt : Nat} (hdg : decode cc pc = .ok (.if_icmp .ne off, 3)) (ht : (pc : Int) + off = (tgt : Int)) (k : ¬ x = y0 → AW E y cc ret nL d r h0 hf tgt lv (st) h) (k2 : x = y0 → AW E y cc ret nL d r h0 hf (pc + 3) lv (st) h) : AW E y cc ret nL d r h0 hf pc lv (.int y0 :: .int x :: st) h :=
  AW.lift2 (fun p l e R s m args below meth c H locs cells slots Q C ls hl0 kt kf => lv_icmp_ne C.1 C.2.1 hdg ht kt (fun z => kf (fun q => q z))) k (fun z => k2 (Classical.byContradiction z))

theorem a_icmp_lt {x y0 : Int32} {off : Int} {tgt : Nat} (hdg : decode cc pc = .ok (.if_icmp .lt off, 3)) (ht : (pc : Int) + off = (tgt : Int)) (k : x < y0 → AW E y cc ret nL d r h0 hf tgt lv (st) h) (k2 : ¬ x < y0 → AW E y cc ret nL d r h0 hf (pc + 3) lv (st) h) : AW E y cc ret nL d r h0 hf pc lv (.int y0 :: .int x :: st) h :=
  AW.lift2 (fun p l e R s m args below meth c H locs cells slots Q C ls hl0 kt kf => lv_icmp_lt C.1 C.2.1 hdg ht kt kf) k k2

theorem a_icmp_ge {x y0 : Int32} {off : Int} {tgt : Nat} (hdg : decode cc pc = .ok (.if_icmp .ge off, 3)) (ht : (pc : Int) + off = (tgt : Int)) (k : y0 ≤ x → AW E y cc ret nL d r h0 hf tgt lv (st) h) (k2 : ¬ y0 ≤ x → AW E y cc ret nL d r h0 hf (pc + 3) lv (st) h) : AW E y cc ret nL d r h0 hf pc lv (.int y0 :: .int x :: st) h :=
  AW.lift2 (fun p l e R s m args below meth c H locs cells slots Q C ls hl0 kt kf => lv_icmp_ge C.1 C.2.1 hdg ht kt kf) k k2

theorem a_icmp_gt {x y0 : Int32} {off : Int} {tgt : Nat} (hdg : decode cc pc = .ok (.if_icmp .gt off, 3)) (ht : (pc : Int) + off = (tgt : Int)) (k : y0 < x → AW E y cc ret nL d r h0 hf tgt lv (st) h) (k2 : ¬ y0 < x → AW E y cc ret nL d r h0 hf (pc + 3) lv (st) h) : AW E y cc ret nL d r h0 hf pc lv (.int y0 :: .int x :: st) h :=
  AW.lift2 (fun p l e R s m args below meth c H locs cells slots Q C ls hl0 kt kf => lv_icmp_gt C.1 C.2.1 hdg ht kt kf) k k2

theorem a_icmp_le {x y0 : Int32} {off : Int} {tgt : Nat} (hdg : decode cc pc = .ok (.if_icmp .le off, 3)) (ht : (pc : Int) + off = (tgt : Int)) (k : x ≤ y0 → AW E y cc ret nL d r h0 hf tgt lv (st) h) (k2 : ¬ x ≤ y0 → AW E y cc ret nL d r h0 hf (pc + 3) lv (st) h) : AW E y cc ret nL d r h0 hf pc lv (.int y0 :: .int x :: st) h :=
  AW.lift2 (fun p l e R s m args below meth c H locs cells slots Q C ls hl0 kt kf => lv_icmp_le C.1 C.2.1 hdg ht kt kf) k k2
end AWR1
