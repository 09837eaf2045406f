section ROWS
variable {p : Program} {l : Launch} {e : Env} {R : Room} {s : State} {m : MethodId} {args : Array Value} {below : List Frame} {meth : Method} {c : Code} {G : GG} {Qf : State → Prop} {nL : Nat} {M : Mm} {lv lv2 : List (Nat × Value)} {pc : Nat} {st rest : List Value} {cc : ByteArray} {ret : Option FieldType} {own : String}
theorem xt_ic (X : Cx p s m args meth c cc nL ret own G) {n : Int} (hd : decode cc pc = .ok (.iconst n, 1)) (k : Wt p l e R s m args below meth c G Qf nL M lv (pc + 1) (iV n :: st)) : Wt p l e R s m args below meth c G Qf nL M lv pc st := fun H locs ls hP hS hl => lv_iconst X.1 X.2.1 hd rfl (k H locs ls hP hS hl)
theorem xt_bi (X : Cx p s m args meth c cc nL ret own G) {n : Int} (hd : decode cc pc = .ok (.bipush n, 2)) (hv : (Int8.ofInt n).toInt32 = Int32.ofInt n) (k : Wt p l e R s m args below meth c G Qf nL M lv (pc + 2) (iV n :: st)) : Wt p l e R s m args below meth c G Qf nL M lv pc st := fun H locs ls hP hS hl => lv_bipush X.1 X.2.1 hd hv (k H locs ls hP hS hl)
theorem xt_si (X : Cx p s m args meth c cc nL ret own G) {n : Int} (hd : decode cc pc = .ok (.sipush n, 3)) (hv : (Int16.ofInt n).toInt32 = Int32.ofInt n) (k : Wt p l e R s m args below meth c G Qf nL M lv (pc + 3) (iV n :: st)) : Wt p l e R s m args below meth c G Qf nL M lv pc st := fun H locs ls hP hS hl => lv_sipush X.1 X.2.1 hd hv (k H locs ls hP hS hl)
theorem xt_il (X : Cx p s m args meth c cc nL ret own G) {q : Fin 4} {i : Nat} {z : Int} (hd : decode cc pc = .ok (.iload_n q, 1)) (hi : (q : Nat) = i) (j : Nat) (hj : lv[j]? = some (i, iV z)) (k : Wt p l e R s m args below meth c G Qf nL M lv (pc + 1) (iV z :: st)) : Wt p l e R s m args below meth c G Qf nL M lv pc st := fun H locs ls hP hS hl => lv_iload_n X.1 X.2.1 hd hi (lv_at hl j hj) (k H locs ls hP hS hl)
theorem xt_ilw (X : Cx p s m args meth c cc nL ret own G) {i : Nat} {z : Int} (hd : decode cc pc = .ok (.iload i, 2)) (j : Nat) (hj : lv[j]? = some (i, iV z)) (k : Wt p l e R s m args below meth c G Qf nL M lv (pc + 2) (iV z :: st)) : Wt p l e R s m args below meth c G Qf nL M lv pc st := fun H locs ls hP hS hl => lv_iload X.1 X.2.1 hd (lv_at hl j hj) (k H locs ls hP hS hl)
theorem xt_al (X : Cx p s m args meth c cc nL ret own G) {q : Fin 4} {i : Nat} {z : Int} (hd : decode cc pc = .ok (.aload_n q, 1)) (hi : (q : Nat) = i) (j : Nat) (hj : lv[j]? = some (i, rV z)) (k : Wt p l e R s m args below meth c G Qf nL M lv (pc + 1) (rV z :: st)) : Wt p l e R s m args below meth c G Qf nL M lv pc st := fun H locs ls hP hS hl => lv_aload_n X.1 X.2.1 hd hi (lv_at hl j hj) (k H locs ls hP hS hl)
theorem xt_alw (X : Cx p s m args meth c cc nL ret own G) {i : Nat} {z : Int} (hd : decode cc pc = .ok (.aload i, 2)) (j : Nat) (hj : lv[j]? = some (i, rV z)) (k : Wt p l e R s m args below meth c G Qf nL M lv (pc + 2) (rV z :: st)) : Wt p l e R s m args below meth c G Qf nL M lv pc st := fun H locs ls hP hS hl => lv_aload X.1 X.2.1 hd (lv_at hl j hj) (k H locs ls hP hS hl)
theorem xt_ll (X : Cx p s m args meth c cc nL ret own G) {q : Fin 4} {i : Nat} {z : Int64} (hd : decode cc pc = .ok (.lload_n q, 1)) (hi : (q : Nat) = i) (j : Nat) (hj : lv[j]? = some (i, .long z)) (k : Wt p l e R s m args below meth c G Qf nL M lv (pc + 1) (.long z :: st)) : Wt p l e R s m args below meth c G Qf nL M lv pc st := fun H locs ls hP hS hl => lv_lload_n X.1 X.2.1 hd hi (lv_at hl j hj) (k H locs ls hP hS hl)
theorem xt_is (X : Cx p s m args meth c cc nL ret own G) {q : Fin 4} {i : Nat} {z : Int} (hd : decode cc pc = .ok (.istore_n q, 1)) (hi : (q : Nat) = i) (hn : i < nL) (hv : (i, iV z) :: lv.filter (fun q => !(q.1 == i) && !(q.1 + 1 == i && q.2.category == 2)) = lv2) (k : Wt p l e R s m args below meth c G Qf nL M lv2 (pc + 1) st) : Wt p l e R s m args below meth c G Qf nL M lv pc (iV z :: st) := fun H locs ls hP hS hl => lv_istore_n X.1 X.2.1 hd hi hl hn hv (fun ls hl => k H locs ls hP hS hl)
theorem xt_isw (X : Cx p s m args meth c cc nL ret own G) {i : Nat} {z : Int} (hd : decode cc pc = .ok (.istore i, 2)) (hn : i < nL) (hv : (i, iV z) :: lv.filter (fun q => !(q.1 == i) && !(q.1 + 1 == i && q.2.category == 2)) = lv2) (k : Wt p l e R s m args below meth c G Qf nL M lv2 (pc + 2) st) : Wt p l e R s m args below meth c G Qf nL M lv pc (iV z :: st) := fun H locs ls hP hS hl => lv_istore X.1 X.2.1 hd hl hn hv (fun ls hl => k H locs ls hP hS hl)
theorem xt_as (X : Cx p s m args meth c cc nL ret own G) {q : Fin 4} {i : Nat} {z : Int} (hd : decode cc pc = .ok (.astore_n q, 1)) (hi : (q : Nat) = i) (hn : i < nL) (hv : (i, rV z) :: lv.filter (fun q => !(q.1 == i) && !(q.1 + 1 == i && q.2.category == 2)) = lv2) (k : Wt p l e R s m args below meth c G Qf nL M lv2 (pc + 1) st) : Wt p l e R s m args below meth c G Qf nL M lv pc (rV z :: st) := fun H locs ls hP hS hl => lv_astore_n X.1 X.2.1 hd hi hl hn hv (fun ls hl => k H locs ls hP hS hl)
theorem xt_asw (X : Cx p s m args meth c cc nL ret own G) {i : Nat} {z : Int} (hd : decode cc pc = .ok (.astore i, 2)) (hn : i < nL) (hv : (i, rV z) :: lv.filter (fun q => !(q.1 == i) && !(q.1 + 1 == i && q.2.category == 2)) = lv2) (k : Wt p l e R s m args below meth c G Qf nL M lv2 (pc + 2) st) : Wt p l e R s m args below meth c G Qf nL M lv pc (rV z :: st) := fun H locs ls hP hS hl => lv_astore X.1 X.2.1 hd hl hn hv (fun ls hl => k H locs ls hP hS hl)
theorem xt_ls (X : Cx p s m args meth c cc nL ret own G) {q : Fin 4} {i : Nat} {z : Int64} (hd : decode cc pc = .ok (.lstore_n q, 1)) (hi : (q : Nat) = i) (hn : i + 1 < nL) (hv : (i, Value.long z) :: lv.filter (fun q => !(q.1 == i) && (!(q.1 == i + 1) && !(q.1 + 1 == i && q.2.category == 2))) = lv2) (k : Wt p l e R s m args below meth c G Qf nL M lv2 (pc + 1) st) : Wt p l e R s m args below meth c G Qf nL M lv pc (.long z :: st) := fun H locs ls hP hS hl => lv_lstore_n X.1 X.2.1 hd hi hl hn hv (fun ls hl => k H locs ls hP hS hl)
theorem xt_inc (X : Cx p s m args meth c cc nL ret own G) {i : Nat} {n z : Int} (hd : decode cc pc = .ok (.iinc i n, 3)) (j : Nat) (hj : lv[j]? = some (i, iV z)) (hn : i < nL) (hv : (i, iV (z + n)) :: lv.filter (fun q => !(q.1 == i) && !(q.1 + 1 == i && q.2.category == 2)) = lv2) (k : Wt p l e R s m args below meth c G Qf nL M lv2 (pc + 3) st) : Wt p l e R s m args below meth c G Qf nL M lv pc st := fun H locs ls hP hS hl => lv_iinc X.1 X.2.1 hd hl hj (Int32.ofInt_add z n).symm hn hv (fun ls hl => k H locs ls hP hS hl)
theorem xt_add (X : Cx p s m args meth c cc nL ret own G) {a b : Int} (hd : decode cc pc = .ok (.iadd, 1)) (k : Wt p l e R s m args below meth c G Qf nL M lv (pc + 1) (iV (a + b) :: st)) : Wt p l e R s m args below meth c G Qf nL M lv pc (iV b :: iV a :: st) := fun H locs ls hP hS hl => lv_iadd X.1 X.2.1 hd (by have k := k H locs ls hP hS hl; rw [iV, Int32.ofInt_add] at k; exact k)
theorem xt_sub (X : Cx p s m args meth c cc nL ret own G) {a b : Int} (hd : decode cc pc = .ok (.isub, 1)) (k : Wt p l e R s m args below meth c G Qf nL M lv (pc + 1) (iV (a - b) :: st)) : Wt p l e R s m args below meth c G Qf nL M lv pc (iV b :: iV a :: st) := fun H locs ls hP hS hl => lv_isub X.1 X.2.1 hd (by have k := k H locs ls hP hS hl; rw [iV, Int32.ofInt_sub] at k; exact k)
theorem xt_mul (X : Cx p s m args meth c cc nL ret own G) {a b : Int} (hd : decode cc pc = .ok (.imul, 1)) (k : Wt p l e R s m args below meth c G Qf nL M lv (pc + 1) (iV (a * b) :: st)) : Wt p l e R s m args below meth c G Qf nL M lv pc (iV b :: iV a :: st) := fun H locs ls hP hS hl => lv_imul X.1 X.2.1 hd (by have k := k H locs ls hP hS hl; rw [iV, Int32.ofInt_mul] at k; exact k)
theorem xt_or (X : Cx p s m args meth c cc nL ret own G) {a b : Int} (hd : decode cc pc = .ok (.ior, 1)) (k : Wt p l e R s m args below meth c G Qf nL M lv (pc + 1) (iV (iOr a b) :: st)) : Wt p l e R s m args below meth c G Qf nL M lv pc (iV b :: iV a :: st) := fun H locs ls hP hS hl => lv_ior X.1 X.2.1 hd (by have k := k H locs ls hP hS hl; rw [iV, iOr, Int32.ofInt_toInt] at k; exact k)
theorem xt_and (X : Cx p s m args meth c cc nL ret own G) {a b : Int} (hd : decode cc pc = .ok (.iand, 1)) (k : Wt p l e R s m args below meth c G Qf nL M lv (pc + 1) (iV (iAnd a b) :: st)) : Wt p l e R s m args below meth c G Qf nL M lv pc (iV b :: iV a :: st) := fun H locs ls hP hS hl => lv_iand X.1 X.2.1 hd (by have k := k H locs ls hP hS hl; rw [iV, iAnd, Int32.ofInt_toInt] at k; exact k)
theorem xt_shl (X : Cx p s m args meth c cc nL ret own G) {a b : Int} (hd : decode cc pc = .ok (.ishl, 1)) (k : Wt p l e R s m args below meth c G Qf nL M lv (pc + 1) (iV (iShl a b) :: st)) : Wt p l e R s m args below meth c G Qf nL M lv pc (iV b :: iV a :: st) := fun H locs ls hP hS hl => lv_ishl X.1 X.2.1 hd (by have k := k H locs ls hP hS hl; rw [iV, iShl, Int32.ofInt_toInt] at k; exact k)
theorem xt_div (X : Cx p s m args meth c cc nL ret own G) {a b : Int} (ha : 0 ≤ a ∧ a < 2147483648) (hb : 0 < b ∧ b < 2147483648) (hd : decode cc pc = .ok (.idiv, 1)) (k : Wt p l e R s m args below meth c G Qf nL M lv (pc + 1) (iV (a / b) :: st)) : Wt p l e R s m args below meth c G Qf nL M lv pc (iV b :: iV a :: st) := fun H locs ls hP hS hl => lv_idiv X.1 X.2.1 hd (i_ne0 hb) (by have k := k H locs ls hP hS hl; rw [iV, i_div ha hb] at k; exact k)
theorem xt_rem (X : Cx p s m args meth c cc nL ret own G) {a b : Int} (ha : 0 ≤ a ∧ a < 2147483648) (hb : 0 < b ∧ b < 2147483648) (hd : decode cc pc = .ok (.irem, 1)) (k : Wt p l e R s m args below meth c G Qf nL M lv (pc + 1) (iV (a % b) :: st)) : Wt p l e R s m args below meth c G Qf nL M lv pc (iV b :: iV a :: st) := fun H locs ls hP hS hl => lv_irem X.1 X.2.1 hd (i_ne0 hb) (by have k := k H locs ls hP hS hl; rw [iV, i_rem ha hb] at k; exact k)
theorem xt_ladd (X : Cx p s m args meth c cc nL ret own G) {a b : Int64} (hd : decode cc pc = .ok (.ladd, 1)) (k : Wt p l e R s m args below meth c G Qf nL M lv (pc + 1) (.long (a + b) :: st)) : Wt p l e R s m args below meth c G Qf nL M lv pc (.long b :: .long a :: st) := fun H locs ls hP hS hl => lv_ladd X.1 X.2.1 hd (k H locs ls hP hS hl)
theorem xt_lmul (X : Cx p s m args meth c cc nL ret own G) {a b : Int64} (hd : decode cc pc = .ok (.lmul, 1)) (k : Wt p l e R s m args below meth c G Qf nL M lv (pc + 1) (.long (a * b) :: st)) : Wt p l e R s m args below meth c G Qf nL M lv pc (.long b :: .long a :: st) := fun H locs ls hP hS hl => lv_lmul X.1 X.2.1 hd (k H locs ls hP hS hl)
theorem xt_i2l (X : Cx p s m args meth c cc nL ret own G) {a : Int} (hd : decode cc pc = .ok (.i2l, 1)) (k : Wt p l e R s m args below meth c G Qf nL M lv (pc + 1) (.long (Int32.ofInt a).toInt64 :: st)) : Wt p l e R s m args below meth c G Qf nL M lv pc (iV a :: st) := fun H locs ls hP hS hl => lv_i2l X.1 X.2.1 hd rfl (k H locs ls hP hS hl)
theorem xt_ldc2 (X : Cx p s m args meth c cc nL ret own G) {v : Int64} {index : Nat} (hw : Cond.constantLong own index v ∈ tw) (hd : decode cc pc = .ok (.ldc2_w index, 3)) (k : Wt p l e R s m args below meth c G Qf nL M lv (pc + 3) (.long v :: st)) : Wt p l e R s m args below meth c G Qf nL M lv pc st := fun H locs ls hP hS hl => lv_ldc2 X.1 X.2.1 X.2.2.2.1 (X.2.2.2.2.1 _ hw) hd (k H locs ls hP hS hl)
theorem xt_dup (X : Cx p s m args meth c cc nL ret own G) {v : Value} (hv : v.category = 1) (hd : decode cc pc = .ok (.dup, 1)) (k : Wt p l e R s m args below meth c G Qf nL M lv (pc + 1) (v :: v :: st)) : Wt p l e R s m args below meth c G Qf nL M lv pc (v :: st) := fun H locs ls hP hS hl => lv_dup X.1 X.2.1 hd hv (k H locs ls hP hS hl)
theorem xt_dup2 (X : Cx p s m args meth c cc nL ret own G) {v u : Value} (hv : v.category = 1) (hu : u.category = 1) (hd : decode cc pc = .ok (.dup2, 1)) (k : Wt p l e R s m args below meth c G Qf nL M lv (pc + 1) (v :: u :: v :: u :: st)) : Wt p l e R s m args below meth c G Qf nL M lv pc (v :: u :: st) := fun H locs ls hP hS hl => lv_dup2_11 X.1 X.2.1 hd hv hu (k H locs ls hP hS hl)
theorem xt_pop (X : Cx p s m args meth c cc nL ret own G) {v : Value} (hv : v.category = 1) (hd : decode cc pc = .ok (.pop, 1)) (k : Wt p l e R s m args below meth c G Qf nL M lv (pc + 1) st) : Wt p l e R s m args below meth c G Qf nL M lv pc (v :: st) := fun H locs ls hP hS hl => lv_pop X.1 X.2.1 hd hv (k H locs ls hP hS hl)
theorem xt_goto (X : Cx p s m args meth c cc nL ret own G) {off : Int} {tgt : Nat} (hd : decode cc pc = .ok (.goto off, 3)) (ht : (pc : Int) + off = (tgt : Int)) (k : Wt p l e R s m args below meth c G Qf nL M lv tgt st) : Wt p l e R s m args below meth c G Qf nL M lv pc st := fun H locs ls hP hS hl => lv_goto X.1 X.2.1 hd ht (k H locs ls hP hS hl)
theorem xt_perm (ks : List Nat) (hk : lv_pick lv ks = lv2) (k : Wt p l e R s m args below meth c G Qf nL M lv2 pc st) : Wt p l e R s m args below meth c G Qf nL M lv pc st := fun H locs ls hP hS hl => k H locs ls hP hS (lv_sub hl ks hk)
theorem xt_ceq (X : Cx p s m args meth c cc nL ret own G) {a b off : Int} {tgt : Nat} (ga : inR a) (gb : inR b) (hd : decode cc pc = .ok (.if_icmp .eq off, 3)) (ht : (pc : Int) + off = (tgt : Int)) (kt : a = b → Wt p l e R s m args below meth c G Qf nL M lv tgt st) (kf : ¬ a = b → Wt p l e R s m args below meth c G Qf nL M lv (pc + 3) st) : Wt p l e R s m args below meth c G Qf nL M lv pc (iV b :: iV a :: st) := fun H locs ls hP hS hl => lv_icmp_eq X.1 X.2.1 hd ht (fun h => kt ((i_eq ga gb).mp h) H locs ls hP hS hl) (fun h => kf (fun q => h ((i_eq ga gb).mpr q)) H locs ls hP hS hl)
theorem xt_zeq (X : Cx p s m args meth c cc nL ret own G) {a off : Int} {tgt : Nat} (ga : inR a) (hd : decode cc pc = .ok (.ifCond .eq off, 3)) (ht : (pc : Int) + off = (tgt : Int)) (kt : a = 0 → Wt p l e R s m args below meth c G Qf nL M lv tgt st) (kf : ¬ a = 0 → Wt p l e R s m args below meth c G Qf nL M lv (pc + 3) st) : Wt p l e R s m args below meth c G Qf nL M lv pc (iV a :: st) := fun H locs ls hP hS hl => lv_if_eq X.1 X.2.1 hd ht (fun h => kt ((i_eq ga i_r0).mp h) H locs ls hP hS hl) (fun h => kf (fun q => h ((i_eq ga i_r0).mpr q)) H locs ls hP hS hl)
theorem xt_cne (X : Cx p s m args meth c cc nL ret own G) {a b off : Int} {tgt : Nat} (ga : inR a) (gb : inR b) (hd : decode cc pc = .ok (.if_icmp .ne off, 3)) (ht : (pc : Int) + off = (tgt : Int)) (kt : ¬ a = b → Wt p l e R s m args below meth c G Qf nL M lv tgt st) (kf : a = b → Wt p l e R s m args below meth c G Qf nL M lv (pc + 3) st) : Wt p l e R s m args below meth c G Qf nL M lv pc (iV b :: iV a :: st) := fun H locs ls hP hS hl => lv_icmp_ne X.1 X.2.1 hd ht (fun h => kt (fun q => h ((i_eq ga gb).mpr q)) H locs ls hP hS hl) (fun h => kf ((i_eq ga gb).mp h) H locs ls hP hS hl)
theorem xt_zne (X : Cx p s m args meth c cc nL ret own G) {a off : Int} {tgt : Nat} (ga : inR a) (hd : decode cc pc = .ok (.ifCond .ne off, 3)) (ht : (pc : Int) + off = (tgt : Int)) (kt : ¬ a = 0 → Wt p l e R s m args below meth c G Qf nL M lv tgt st) (kf : a = 0 → Wt p l e R s m args below meth c G Qf nL M lv (pc + 3) st) : Wt p l e R s m args below meth c G Qf nL M lv pc (iV a :: st) := fun H locs ls hP hS hl => lv_if_ne X.1 X.2.1 hd ht (fun h => kt (fun q => h ((i_eq ga i_r0).mpr q)) H locs ls hP hS hl) (fun h => kf ((i_eq ga i_r0).mp h) H locs ls hP hS hl)
theorem xt_clt (X : Cx p s m args meth c cc nL ret own G) {a b off : Int} {tgt : Nat} (ga : inR a) (gb : inR b) (hd : decode cc pc = .ok (.if_icmp .lt off, 3)) (ht : (pc : Int) + off = (tgt : Int)) (kt : a < b → Wt p l e R s m args below meth c G Qf nL M lv tgt st) (kf : ¬ a < b → Wt p l e R s m args below meth c G Qf nL M lv (pc + 3) st) : Wt p l e R s m args below meth c G Qf nL M lv pc (iV b :: iV a :: st) := fun H locs ls hP hS hl => lv_icmp_lt X.1 X.2.1 hd ht (fun h => kt ((i_lt ga gb).mp h) H locs ls hP hS hl) (fun h => kf (fun q => h ((i_lt ga gb).mpr q)) H locs ls hP hS hl)
theorem xt_zlt (X : Cx p s m args meth c cc nL ret own G) {a off : Int} {tgt : Nat} (ga : inR a) (hd : decode cc pc = .ok (.ifCond .lt off, 3)) (ht : (pc : Int) + off = (tgt : Int)) (kt : a < 0 → Wt p l e R s m args below meth c G Qf nL M lv tgt st) (kf : ¬ a < 0 → Wt p l e R s m args below meth c G Qf nL M lv (pc + 3) st) : Wt p l e R s m args below meth c G Qf nL M lv pc (iV a :: st) := fun H locs ls hP hS hl => lv_if_lt X.1 X.2.1 hd ht (fun h => kt ((i_lt ga i_r0).mp h) H locs ls hP hS hl) (fun h => kf (fun q => h ((i_lt ga i_r0).mpr q)) H locs ls hP hS hl)
theorem xt_cge (X : Cx p s m args meth c cc nL ret own G) {a b off : Int} {tgt : Nat} (ga : inR a) (gb : inR b) (hd : decode cc pc = .ok (.if_icmp .ge off, 3)) (ht : (pc : Int) + off = (tgt : Int)) (kt : b ≤ a → Wt p l e R s m args below meth c G Qf nL M lv tgt st) (kf : ¬ b ≤ a → Wt p l e R s m args below meth c G Qf nL M lv (pc + 3) st) : Wt p l e R s m args below meth c G Qf nL M lv pc (iV b :: iV a :: st) := fun H locs ls hP hS hl => lv_icmp_ge X.1 X.2.1 hd ht (fun h => kt ((i_le gb ga).mp h) H locs ls hP hS hl) (fun h => kf (fun q => h ((i_le gb ga).mpr q)) H locs ls hP hS hl)
theorem xt_zge (X : Cx p s m args meth c cc nL ret own G) {a off : Int} {tgt : Nat} (ga : inR a) (hd : decode cc pc = .ok (.ifCond .ge off, 3)) (ht : (pc : Int) + off = (tgt : Int)) (kt : 0 ≤ a → Wt p l e R s m args below meth c G Qf nL M lv tgt st) (kf : ¬ 0 ≤ a → Wt p l e R s m args below meth c G Qf nL M lv (pc + 3) st) : Wt p l e R s m args below meth c G Qf nL M lv pc (iV a :: st) := fun H locs ls hP hS hl => lv_if_ge X.1 X.2.1 hd ht (fun h => kt ((i_le i_r0 ga).mp h) H locs ls hP hS hl) (fun h => kf (fun q => h ((i_le i_r0 ga).mpr q)) H locs ls hP hS hl)
theorem xt_cgt (X : Cx p s m args meth c cc nL ret own G) {a b off : Int} {tgt : Nat} (ga : inR a) (gb : inR b) (hd : decode cc pc = .ok (.if_icmp .gt off, 3)) (ht : (pc : Int) + off = (tgt : Int)) (kt : b < a → Wt p l e R s m args below meth c G Qf nL M lv tgt st) (kf : ¬ b < a → Wt p l e R s m args below meth c G Qf nL M lv (pc + 3) st) : Wt p l e R s m args below meth c G Qf nL M lv pc (iV b :: iV a :: st) := fun H locs ls hP hS hl => lv_icmp_gt X.1 X.2.1 hd ht (fun h => kt ((i_lt gb ga).mp h) H locs ls hP hS hl) (fun h => kf (fun q => h ((i_lt gb ga).mpr q)) H locs ls hP hS hl)
theorem xt_zgt (X : Cx p s m args meth c cc nL ret own G) {a off : Int} {tgt : Nat} (ga : inR a) (hd : decode cc pc = .ok (.ifCond .gt off, 3)) (ht : (pc : Int) + off = (tgt : Int)) (kt : 0 < a → Wt p l e R s m args below meth c G Qf nL M lv tgt st) (kf : ¬ 0 < a → Wt p l e R s m args below meth c G Qf nL M lv (pc + 3) st) : Wt p l e R s m args below meth c G Qf nL M lv pc (iV a :: st) := fun H locs ls hP hS hl => lv_if_gt X.1 X.2.1 hd ht (fun h => kt ((i_lt i_r0 ga).mp h) H locs ls hP hS hl) (fun h => kf (fun q => h ((i_lt i_r0 ga).mpr q)) H locs ls hP hS hl)
theorem xt_cle (X : Cx p s m args meth c cc nL ret own G) {a b off : Int} {tgt : Nat} (ga : inR a) (gb : inR b) (hd : decode cc pc = .ok (.if_icmp .le off, 3)) (ht : (pc : Int) + off = (tgt : Int)) (kt : a ≤ b → Wt p l e R s m args below meth c G Qf nL M lv tgt st) (kf : ¬ a ≤ b → Wt p l e R s m args below meth c G Qf nL M lv (pc + 3) st) : Wt p l e R s m args below meth c G Qf nL M lv pc (iV b :: iV a :: st) := fun H locs ls hP hS hl => lv_icmp_le X.1 X.2.1 hd ht (fun h => kt ((i_le ga gb).mp h) H locs ls hP hS hl) (fun h => kf (fun q => h ((i_le ga gb).mpr q)) H locs ls hP hS hl)
theorem xt_zle (X : Cx p s m args meth c cc nL ret own G) {a off : Int} {tgt : Nat} (ga : inR a) (hd : decode cc pc = .ok (.ifCond .le off, 3)) (ht : (pc : Int) + off = (tgt : Int)) (kt : a ≤ 0 → Wt p l e R s m args below meth c G Qf nL M lv tgt st) (kf : ¬ a ≤ 0 → Wt p l e R s m args below meth c G Qf nL M lv (pc + 3) st) : Wt p l e R s m args below meth c G Qf nL M lv pc (iV a :: st) := fun H locs ls hP hS hl => lv_if_le X.1 X.2.1 hd ht (fun h => kt ((i_le ga i_r0).mp h) H locs ls hP hS hl) (fun h => kf (fun q => h ((i_le ga i_r0).mpr q)) H locs ls hP hS hl)
theorem xt_tin (X : Cx p s m args meth c cc nL ret own G) {dflt lo hi off a : Int} {offs : Array Int} {len tgt : Nat} (ga : inR a) (hd : decode cc pc = .ok (.tableswitch dflt lo hi offs, len)) (z : Int) (hz : a = z) (h1 : ¬ z < lo) (h2 : ¬ hi < z) (ho : offs[(z - lo).toNat]? = some off) (ht : (pc : Int) + off = (tgt : Int)) (k : Wt p l e R s m args below meth c G Qf nL M lv tgt st) : Wt p l e R s m args below meth c G Qf nL M lv pc (iV a :: st) := fun H locs ls hP hS hl => lv_tableIn X.1 X.2.1 hd (by rw [i_toInt ga, hz]; exact h1) (by rw [i_toInt ga, hz]; exact h2) (by rw [i_toInt ga, hz]; exact ho) ht (k H locs ls hP hS hl)
theorem xt_tout (X : Cx p s m args meth c cc nL ret own G) {dflt lo hi a : Int} {offs : Array Int} {len tgt : Nat} (ga : inR a) (hd : decode cc pc = .ok (.tableswitch dflt lo hi offs, len)) (h : a < lo ∨ hi < a) (ht : (pc : Int) + dflt = (tgt : Int)) (k : Wt p l e R s m args below meth c G Qf nL M lv tgt st) : Wt p l e R s m args below meth c G Qf nL M lv pc (iV a :: st) := fun H locs ls hP hS hl => lv_tableOut X.1 X.2.1 hd (by rw [i_toInt ga]; exact h) ht (k H locs ls hP hS hl)
theorem xt_look (X : Cx p s m args meth c cc nL ret own G) {dflt off a : Int} {ps : Array (Int × Int)} {len tgt : Nat} (ga : inR a) (hd : decode cc pc = .ok (.lookupswitch dflt ps, len)) (hp : (ps.toList.zip (ps.toList.drop 1)).all (fun (a, next) => a.1 < next.1) = true) (ho : Op.lookupswitch.offset ps.toList dflt a = off) (ht : (pc : Int) + off = (tgt : Int)) (k : Wt p l e R s m args below meth c G Qf nL M lv tgt st) : Wt p l e R s m args below meth c G Qf nL M lv pc (iV a :: st) := fun H locs ls hP hS hl => lv_lookup X.1 X.2.1 hd hp (by rw [i_toInt ga]; exact ho) ht (k H locs ls hP hS hl)
theorem k_lt {a : Int} {k n : Nat} (h : gK G a = (k, n)) (hk : k < 12) : (gK G a).1 < 12 := by rw [h]; exact hk
theorem g_at (hG : Gd G) {a : Int} (hk : (gK G a).1 < 12) : ∃ k0 : Nat, 0 ≤ a ∧ a.toNat ∈ gL G ∧ (va_pl (gL G) (gF G M))[k0]? = some (a.toNat, cR (gC G) (gK G a) a (M a)) := by
  obtain ⟨h0, hm⟩ := hG.2.1 a hk
  obtain ⟨k0, hk0⟩ := va_pl_get (X := []) (f := gF G M) hm
  refine ⟨k0, h0, hm, ?_⟩
  have e : gF G M a.toNat = cR (gC G) (gK G a) a (M a) := by
    unfold gF
    rw [Int.toNat_of_nonneg h0]
  rw [← e]
  exact hk0
theorem g_set (hG : Gd G) {a : Int} {M2 : Mm} {H1 : Heap} {k0 : Nat} {x : va_E} (h0 : 0 ≤ a) (hm : a.toNat ∈ gL G) (hk0 : (va_pl (gL G) (gF G M))[k0]? = some (a.toNat, cR (gC G) (gK G a) a (M a))) (hx : x = cR (gC G) (gK G a) a (M2 a)) (ho : ∀ b : Int, b ≠ a → M2 b = M b) (hr : Rg M2) (hdy : Dy (gK G) M2) (hP : va_P (gD G) vwCl ((va_pl (gL G) (gF G M)).set k0 (a.toNat, x)) H1) : Wp G M2 H1 := by
  have e : gF G M a.toNat = cR (gC G) (gK G a) a (M a) := by
    unfold gF
    rw [Int.toNat_of_nonneg h0]
  have hk1 : ([] ++ va_pl (gL G) (gF G M))[k0]? = some (a.toNat, gF G M a.toNat) := by rw [e]; exact hk0
  have hs := va_pl_set (X := []) (e := x) (hG.1 (gF G M)) hm hk1
  have hc : va_pl (gL G) (va_up (gF G M) a.toNat x) = va_pl (gL G) (gF G M2) := va_pl_congr (fun q => by
    by_cases hq : q = a.toNat
    · subst hq
      rw [va_up_self, hx]
      unfold gF
      rw [Int.toNat_of_nonneg h0]
    · rw [va_up_ne _ _ hq]
      unfold gF
      rw [ho (q : Int) (fun z => hq (by omega))])
  refine ⟨?_, hr, hdy⟩
  rw [← hc]
  have hs2 : (va_pl (gL G) (gF G M)).set k0 (a.toNat, x) = va_pl (gL G) (va_up (gF G M) a.toNat x) := hs
  rw [← hs2]
  exact hP
theorem rg_um (h : Rg M) {a j x : Int} (hx : inR x) : Rg (um M a j x) := by
  intro b k
  show inR (um M a j x b k)
  by_cases hb : b = a
  · subst hb
    rw [um_at]
    unfold ur
    split
    · exact hx
    · exact h b k
  · rw [um_ne M j x hb]
    exact h b k
theorem rg_cp (h : Rg M) {a sp d dp n : Int} : Rg (cp M a sp d dp n) := by
  intro b k
  show inR (cp M a sp d dp n b k)
  by_cases hb : b = d
  · subst hb
    rw [cp_at]
    unfold cr
    split
    · exact h a _
    · exact h b k
  · rw [cp_ne M a sp dp n hb]
    exact h b k
theorem dy_row {K : Int → Nat × Nat} (h : Dy K M) {M2 : Mm} {a : Int} (ha : K a ≠ (6, 0)) (ho : ∀ b : Int, b ≠ a → M2 b = M b) : Dy K M2 := by
  intro b hb
  rw [ho b (fun z => ha (by rw [← z]; exact hb))]
  exact h b hb
theorem dy_um6 {K : Int → Nat × Nat} (h : Dy K M) {a j x : Int} (h4 : j ≠ 4) (h5 : j ≠ 5) : Dy K (um M a j x) := by
  intro b hb
  by_cases hba : b = a
  · subst hba
    rw [um_at]
    unfold ur
    rw [if_neg (Ne.symm h4), if_neg (Ne.symm h5)]
    exact h b hb
  · rw [um_ne M j x hba]
    exact h b hb

theorem xt_get (X : Cx p s m args meth c cc nL ret own G) {ci N idx j : Nat} {T : u_T} {Cn rf : String} {fs : List Value} {v : Value} {a : Int} (hcl : vwCl[ci]? = some (Cn, T, N)) (hin : ∀ w ∈ u_ws Cn T N, w ∈ tw) (hk : (gK G a).1 < 12) (he : cR (gC G) (gK G a) a (M a) = .inr (ci, fs)) (hj : j < N) (hlink : Cond.fieldLink own idx rf (T j).2.1 (T j).2.2.1 ∈ tw) (hrf : (T j).1 = rf) (hv : fs[j]? = some v) (hd : decode cc pc = .ok (.getfield idx, 3)) (k : Rg M → Dy (gK G) M → Wt p l e R s m args below meth c G Qf nL M lv (pc + 3) (v :: st)) : Wt p l e R s m args below meth c G Qf nL M lv pc (rV a :: st) := by
  intro H locs ls hP hS hl
  obtain ⟨k0, h0, hm, hk0⟩ := g_at (M := M) X.2.2.2.2.2.2.2.2 hk
  exact va_get (D := gD G) (ws := va_pl (gL G) (gF G M)) X.1 X.2.1 X.2.2.2.2.1 hin X.2.2.2.1 X.2.2.2.2.2.2.2.1.1 hP.1 k0 (hk0.trans (by rw [he])) hcl j hj (X.2.2.2.2.1 _ hlink) (fun x h => by rw [← hrf]; exact h) hv hd (k hP.2.1 hP.2.2 H locs ls hP hS hl)
theorem xt_put (X : Cx p s m args meth c cc nL ret own G) {ci N idx j : Nat} {T : u_T} {ty0 : Nat → FieldType} {Cn rf : String} {fs : List Value} {v : Value} {a x : Int} {ty : FieldType} (hcl : vwCl[ci]? = some (Cn, T, N)) (hin : ∀ w ∈ u_ws Cn T N, w ∈ tw) (hty : ∀ k, k < N → parseFieldDescriptor (T k).2.2.1 = some (ty0 k)) (hnm : ∀ a, a < N → ∀ b, b < N → a ≠ b → (T a).2.1 ≠ (T b).2.1) (hk : (gK G a).1 < 12) (he : cR (gC G) (gK G a) a (M a) = .inr (ci, fs)) (hj : j < N) (hlink : Cond.fieldLink own idx rf (T j).2.1 (T j).2.2.1 ∈ tw) (hrf : (T j).1 = rf) (hfin : (T j).2.2.2 = false) (hpd : parseFieldDescriptor (T j).2.2.1 = some ty) (hn : narrow ty v = v) (hfit : fits ty v = true) (hlen : j < fs.length) (hset : cR (gC G) (gK G a) a (ur (M a) (j : Int) x) = .inr (ci, fs.set j v)) (hdy : Dy (gK G) M → Dy (gK G) (um M a (j : Int) x)) (gx : inR x) (hd : decode cc pc = .ok (.putfield idx, 3)) (k : ∀ M2 : Mm, M2 = um M a (j : Int) x → Wt p l e R s m args below meth c G Qf nL M2 lv (pc + 3) st) : Wt p l e R s m args below meth c G Qf nL M lv pc (v :: rV a :: st) := by
  intro H locs ls hP hS hl
  have hG := X.2.2.2.2.2.2.2.2
  obtain ⟨k0, h0, hm, hk0⟩ := g_at (M := M) hG hk
  refine va_put (D := gD G) (A := gA G) (ws := va_pl (gL G) (gF G M)) X.1 X.2.1 X.2.2.2.2.1 hin ty0 hty hnm X.2.2.2.1 X.2.2.2.2.2.2.2.1.1 hP.1 (hG.1 _) hS k0 (hk0.trans (by rw [he])) hcl j hj (X.2.2.2.2.1 _ hlink) (fun x h => by rw [← hrf]; exact h) hfin hpd hn hfit hlen hd (fun H1 locs1 hP1 hD1 hS1 => ?_)
  exact k _ rfl H1 locs1 ls (g_set hG h0 hm hk0 (by rw [um_at, hset]) (fun b hb => um_ne M _ _ hb) (rg_um hP.2.1 gx) (hdy hP.2.2) hP1) hS1 hl
theorem xt_iald (X : Cx p s m args meth c cc nL ret own G) {a i : Int} {n : Nat} (hk : gK G a = (8, n)) (hi : 0 ≤ i ∧ i < (n : Int)) (hn : n ≤ 1000000) (hd : decode cc pc = .ok (.iaload, 1)) (k : inR (M a i) → Wt p l e R s m args below meth c G Qf nL M lv (pc + 1) (iV (M a i) :: st)) : Wt p l e R s m args below meth c G Qf nL M lv pc (iV i :: rV a :: st) := by
  intro H locs ls hP hS hl
  obtain ⟨k0, h0, hm, hk0⟩ := g_at (M := M) X.2.2.2.2.2.2.2.2 (a := a) (k_lt hk (by decide))
  rw [hk] at hk0
  refine va_iald (D := gD G) (ws := va_pl (gL G) (gF G M)) X.1 X.2.1 X.2.2.2.2.2.2.2.1.1 hP.1 k0 0 hk0 rfl (i_in hi.1 hi.2 hn) hd ?_
  rw [i_clamp hi.1 (by omega), Int.toNat_of_nonneg hi.1]
  exact k (hP.2.1 a i) H locs ls hP hS hl
theorem xt_zald (X : Cx p s m args meth c cc nL ret own G) {a i : Int} {n : Nat} (hk : gK G a = (9, n)) (hi : 0 ≤ i ∧ i < (n : Int)) (hn : n ≤ 1000000) (hd : decode cc pc = .ok (.baload, 1)) (k : inR (M a i) → Wt p l e R s m args below meth c G Qf nL M lv (pc + 1) (iV (M a i) :: st)) : Wt p l e R s m args below meth c G Qf nL M lv pc (iV i :: rV a :: st) := by
  intro H locs ls hP hS hl
  obtain ⟨k0, h0, hm, hk0⟩ := g_at (M := M) X.2.2.2.2.2.2.2.2 (a := a) (k_lt hk (by decide))
  rw [hk] at hk0
  refine va_zald (D := gD G) (ws := va_pl (gL G) (gF G M)) X.1 X.2.1 X.2.2.2.2.2.2.2.1.1 hP.1 k0 1 hk0 rfl (i_in hi.1 hi.2 hn) hd ?_
  rw [i_clamp hi.1 (by omega), Int.toNat_of_nonneg hi.1]
  exact k (hP.2.1 a i) H locs ls hP hS hl
theorem xt_ald10 (X : Cx p s m args meth c cc nL ret own G) {a i : Int} (hk : gK G a = (10, 2)) (hi : 0 ≤ i ∧ i < 2) (hd : decode cc pc = .ok (.aaload, 1)) (k : Wt p l e R s m args below meth c G Qf nL M lv (pc + 1) (rV (a + 25 + 47 * i) :: st)) : Wt p l e R s m args below meth c G Qf nL M lv pc (iV i :: rV a :: st) := by
  intro H locs ls hP hS hl
  obtain ⟨k0, h0, hm, hk0⟩ := g_at (M := M) X.2.2.2.2.2.2.2.2 (a := a) (k_lt hk (by decide))
  rw [hk] at hk0
  refine va_aldq (D := gD G) (ws := va_pl (gL G) (gF G M)) X.1 X.2.1 X.2.2.2.2.2.2.2.1.1 hP.1 k0 2 hk0 rfl (i_in hi.1 (show i < ((2 : Nat) : Int) by omega) (by decide)) hd ?_
  rw [i_clamp hi.1 (by omega), Int.toNat_of_nonneg hi.1]
  exact k H locs ls hP hS hl
theorem xt_ald11 (X : Cx p s m args meth c cc nL ret own G) {a i : Int} (hk : gK G a = (11, 10)) (hi : 0 ≤ i ∧ i < 10) (hd : decode cc pc = .ok (.aaload, 1)) (k : Wt p l e R s m args below meth c G Qf nL M lv (pc + 1) (rV (a + 1 + 4 * i) :: st)) : Wt p l e R s m args below meth c G Qf nL M lv pc (iV i :: rV a :: st) := by
  intro H locs ls hP hS hl
  obtain ⟨k0, h0, hm, hk0⟩ := g_at (M := M) X.2.2.2.2.2.2.2.2 (a := a) (k_lt hk (by decide))
  rw [hk] at hk0
  refine va_aldq (D := gD G) (ws := va_pl (gL G) (gF G M)) X.1 X.2.1 X.2.2.2.2.2.2.2.1.1 hP.1 k0 3 hk0 rfl (i_in hi.1 (show i < ((10 : Nat) : Int) by omega) (by decide)) hd ?_
  rw [i_clamp hi.1 (by omega), Int.toNat_of_nonneg hi.1]
  exact k H locs ls hP hS hl
theorem xt_iast (X : Cx p s m args meth c cc nL ret own G) {a i x : Int} {n : Nat} (hk : gK G a = (8, n)) (hi : 0 ≤ i ∧ i < (n : Int)) (hn : n ≤ 1000000) (gx : inR x) (hd : decode cc pc = .ok (.iastore, 1)) (k : ∀ M2 : Mm, M2 = um M a i x → Wt p l e R s m args below meth c G Qf nL M2 lv (pc + 1) st) : Wt p l e R s m args below meth c G Qf nL M lv pc (iV x :: iV i :: rV a :: st) := by
  intro H locs ls hP hS hl
  have hG := X.2.2.2.2.2.2.2.2
  obtain ⟨k0, h0, hm, hk0⟩ := g_at (M := M) hG (a := a) (k_lt hk (by decide))
  have hk1 := hk0
  rw [hk] at hk1
  refine va_iast (D := gD G) (A := gA G) (ws := va_pl (gL G) (gF G M)) X.1 X.2.1 X.2.2.2.2.2.2.2.1.1 hP.1 (hG.1 _) hS k0 0 hk1 rfl (i_in hi.1 hi.2 hn) hd (fun H1 locs1 hP1 hD1 hS1 => ?_)
  refine k _ rfl H1 locs1 ls (g_set hG h0 hm hk0 ?_ (fun b hb => um_ne M _ _ hb) (rg_um hP.2.1 gx) (dy_row hP.2.2 (a := a) (by rw [hk]; simp) (fun b hb => um_ne M _ _ hb)) hP1) hS1 hl
  rw [um_at, hk]
  show (Sum.inl _ : va_E) = Sum.inl _
  congr 3
  congr 1
  funext q
  rw [i_clamp hi.1 (by omega)]
  unfold upd ur
  by_cases hq : q = i.toNat
  · rw [if_pos hq, if_pos (by omega)]
  · rw [if_neg hq, if_neg (by omega)]
theorem xt_zast (X : Cx p s m args meth c cc nL ret own G) {a i x : Int} {n : Nat} (hk : gK G a = (9, n)) (hi : 0 ≤ i ∧ i < (n : Int)) (hn : n ≤ 1000000) (gx : inR x) (hx : x = 0 ∨ x = 1) (hd : decode cc pc = .ok (.bastore, 1)) (k : ∀ M2 : Mm, M2 = um M a i x → Wt p l e R s m args below meth c G Qf nL M2 lv (pc + 1) st) : Wt p l e R s m args below meth c G Qf nL M lv pc (iV x :: iV i :: rV a :: st) := by
  intro H locs ls hP hS hl
  have hG := X.2.2.2.2.2.2.2.2
  obtain ⟨k0, h0, hm, hk0⟩ := g_at (M := M) hG (a := a) (k_lt hk (by decide))
  have hk1 := hk0
  rw [hk] at hk1
  refine va_zast (D := gD G) (A := gA G) (ws := va_pl (gL G) (gF G M)) X.1 X.2.1 X.2.2.2.2.2.2.2.1.1 hP.1 (hG.1 _) hS k0 1 hk1 rfl (i_in hi.1 hi.2 hn) hd (fun H1 locs1 hP1 hD1 hS1 => ?_)
  have hnar : vp_nar .boolean (Int32.ofInt x) = Int32.ofInt x := by rcases hx with rfl | rfl <;> decide
  rw [hnar] at hP1
  refine k _ rfl H1 locs1 ls (g_set hG h0 hm hk0 ?_ (fun b hb => um_ne M _ _ hb) (rg_um hP.2.1 gx) (dy_row hP.2.2 (a := a) (by rw [hk]; simp) (fun b hb => um_ne M _ _ hb)) hP1) hS1 hl
  rw [um_at, hk]
  show (Sum.inl _ : va_E) = Sum.inl _
  congr 3
  congr 1
  funext q
  rw [i_clamp hi.1 (by omega)]
  unfold upd ur
  by_cases hq : q = i.toNat
  · rw [if_pos hq, if_pos (by omega)]
  · rw [if_neg hq, if_neg (by omega)]
theorem xt_acp (X : Cx p s m args meth c cc nL ret own G) {a d sp dp n : Int} {n0 n1 idx : Nat} (hka : gK G a = (8, n0)) (hkd : gK G d = (8, n1)) (h1 : 0 ≤ sp) (h2 : 0 ≤ dp) (h3 : 0 ≤ n) (h4 : sp + n ≤ (n0 : Int)) (h5 : dp + n ≤ (n1 : Int)) (hn0 : n0 ≤ 1000000) (hn1 : n1 ≤ 1000000) (hlink : Cond.methodLink own idx arraycopyName ∈ tw) (hfr : 1 ≤ R.frames) (hlo : (st.map fun v => v.category).sum + (nativeFrameWords "java/lang/System" "arraycopy" 5 + 11) ≤ R.locals) (hd : decode cc pc = .ok (.invokestatic idx, 3)) (k : ∀ M2 : Mm, M2 = cp M a sp d dp n → Wt p l e R s m args below meth c G Qf nL M2 lv (pc + 3) st) : Wt p l e R s m args below meth c G Qf nL M lv pc (iV n :: iV dp :: rV d :: iV sp :: rV a :: st) := by
  intro H locs ls hP hS hl
  have hG := X.2.2.2.2.2.2.2.2
  obtain ⟨k0, h00, hm0, hk0⟩ := g_at (M := M) hG (a := a) (k_lt hka (by decide))
  obtain ⟨k1, h01, hm1, hk1⟩ := g_at (M := M) hG (a := d) (k_lt hkd (by decide))
  have hk2 := hk1
  rw [hka] at hk0
  rw [hkd] at hk2
  have hc : ∀ z : Int, 0 ≤ z → z ≤ 1000000 → ¬ Int32.ofInt z < 0 := fun z h hz => by
    rw [i_0, i_lt ⟨by omega, by omega⟩ i_r0]
    omega
  have e1 := i_clamp h1 (show sp < 2147483648 by omega)
  have e2 := i_clamp h2 (show dp < 2147483648 by omega)
  have e3 := i_clamp h3 (show n < 2147483648 by omega)
  refine va_copyi (D := gD G) (A := gA G) (ws := va_pl (gL G) (gF G M)) X.1 X.2.1 (X.2.2.1.trans hl.1.symm) X.2.2.2.1 (X.2.2.2.2.1 _ hlink) (X.2.2.2.2.1 _ naAcp) (X.2.2.2.2.1 _ stAcp) (X.2.2.2.2.1 _ iniJ10) X.2.2.2.2.2.2.2.1.1 hP.1 (hG.1 _) hS k0 k1 0 0 hk0 hk2 rfl rfl rfl (hc sp h1 (by omega)) (hc dp h2 (by omega)) (hc n h3 (by omega)) (by rw [e1, e3]; omega) (by rw [e2, e3]; omega) (fun i hi => rfl) hfr hlo hd (fun H1 locs1 hP1 hD1 hS1 => ?_)
  refine k _ rfl H1 locs1 ls (g_set hG h01 hm1 hk1 ?_ (fun b hb => cp_ne M _ _ _ _ hb) (rg_cp hP.2.1) (dy_row hP.2.2 (a := d) (by rw [hkd]; simp) (fun b hb => cp_ne M _ _ _ _ hb)) hP1) hS1 hl
  rw [cp_at, hkd, e1, e2, e3]
  show (Sum.inl _ : va_E) = Sum.inl _
  congr 3
  congr 1
  funext q
  unfold va_cpy cr
  by_cases hq : dp.toNat ≤ q ∧ q < dp.toNat + n.toNat
  · rw [if_pos hq, if_pos (by omega)]
    have : ((sp.toNat + (q - dp.toNat) : Nat) : Int) = sp + ((q : Int) - dp) := by omega
    show Int32.ofInt (M a ((sp.toNat + (q - dp.toNat) : Nat) : Int)) = _
    rw [this]
  · rw [if_neg hq, if_neg (by omega)]
theorem xt_max (X : Cx p s m args meth c cc nL ret own G) {a b : Int} {idx : Nat} (ga : inR a) (gb : inR b) (hlink : Cond.methodLink own idx yJ9_max_7cf53 ∈ tw) (hfr : 1 ≤ R.frames) (hlo : (st.map fun v => v.category).sum + 13 ≤ R.locals) (hd : decode cc pc = .ok (.invokestatic idx, 3)) (k : Wt p l e R s m args below meth c G Qf nL M lv (pc + 3) (iV (max a b) :: st)) : Wt p l e R s m args below meth c G Qf nL M lv pc (iV b :: iV a :: st) := by
  intro H locs ls hP hS hl
  refine va_mmax X.1 X.2.1 (X.2.2.1.trans hl.1.symm) X.2.2.2.1 (X.2.2.2.2.1 _ hlink) (X.2.2.2.2.1 _ stJ9_max_7cf53) (X.2.2.2.2.1 _ iniJ9) (X.2.2.2.2.1 _ coJ9_max_7cf53) hfr hlo (Nat.zero_le _) (Nat.zero_le _) hd ?_
  rw [i_max ga gb]
  exact k H locs ls hP hS hl
theorem xt_min (X : Cx p s m args meth c cc nL ret own G) {a b : Int} {idx : Nat} (ga : inR a) (gb : inR b) (hlink : Cond.methodLink own idx yJ9_min_7cf53 ∈ tw) (hfr : 1 ≤ R.frames) (hlo : (st.map fun v => v.category).sum + 13 ≤ R.locals) (hd : decode cc pc = .ok (.invokestatic idx, 3)) (k : Wt p l e R s m args below meth c G Qf nL M lv (pc + 3) (iV (min a b) :: st)) : Wt p l e R s m args below meth c G Qf nL M lv pc (iV b :: iV a :: st) := by
  intro H locs ls hP hS hl
  refine va_mmin X.1 X.2.1 (X.2.2.1.trans hl.1.symm) X.2.2.2.1 (X.2.2.2.2.1 _ hlink) (X.2.2.2.2.1 _ stJ9_min_7cf53) (X.2.2.2.2.1 _ iniJ9) (X.2.2.2.2.1 _ coJ9_min_7cf53) hfr hlo (Nat.zero_le _) (Nat.zero_le _) hd ?_
  rw [i_min ga gb]
  exact k H locs ls hP hS hl
theorem xt_iret (X : Cx p s m args meth c cc nL (some .int) own G) {Q : Int → Mm → Prop} {z : Int} (gz : inR z) (hq : Q z M) (hd : decode cc pc = .ok (.ireturn, 1)) : Wt p l e R s m args below meth c G (MQ below (PostI G Q) args s 0 0 (gA G)) nL M lv pc [iV z] := fun H locs ls hP hS hl => W.iret X.1 X.2.1 X.2.2.2.2.2.1 (fun t ht hW => ⟨⟨_, M, rfl, ⟨z, rfl, gz, hq⟩, by subst ht; exact hP⟩, hS.F ht⟩) hS.2.2 hd X.2.2.2.2.2.2.1
theorem xt_zret (X : Cx p s m args meth c cc nL (some .boolean) own G) {Q : Int → Mm → Prop} {z : Int} (gz : z = 0 ∨ z = 1) (hq : Q z M) (hd : decode cc pc = .ok (.ireturn, 1)) : Wt p l e R s m args below meth c G (MQ below (PostI G Q) args s 0 0 (gA G)) nL M lv pc [iV z] := fun H locs ls hP hS hl => W.zret X.1 X.2.1 X.2.2.2.2.2.1 (by rcases gz with rfl | rfl <;> decide) (fun t ht hW => ⟨⟨_, M, rfl, ⟨z, rfl, by omega, hq⟩, by subst ht; exact hP⟩, hS.F ht⟩) hS.2.2 hd X.2.2.2.2.2.2.1
theorem xt_lret (X : Cx p s m args meth c cc nL (some .long) own G) {Q : Int64 → Mm → Prop} {z : Int64} (hq : Q z M) (hd : decode cc pc = .ok (.lreturn, 1)) : Wt p l e R s m args below meth c G (MQ below (PostL G Q) args s 0 0 (gA G)) nL M lv pc [.long z] := fun H locs ls hP hS hl => W.lret X.1 X.2.1 X.2.2.2.2.2.1 (fun t ht hW => ⟨⟨_, M, rfl, hq, by subst ht; exact hP⟩, hS.F ht⟩) hS.2.2 hd X.2.2.2.2.2.2.1
theorem xt_vret (X : Cx p s m args meth c cc nL none own G) {Q : Mm → Prop} (hq : Q M) (hd : decode cc pc = .ok (.return_, 1)) : Wt p l e R s m args below meth c G (MQ below (PostV G Q) args s 0 0 (gA G)) nL M lv pc [] := fun H locs ls hP hS hl => W.vret X.1 X.2.1 X.2.2.2.2.2.1 (fun t ht hW => ⟨⟨M, rfl, hq, by subst ht; exact hP⟩, hS.F ht⟩) hS.2.2 hd X.2.2.2.2.2.2.1
theorem xt_aret {Cn : String} {kd : Nat × Nat} (X : Cx p s m args meth c cc nL (some (.object Cn)) own G) {Q : Int → Mm → Prop} {z : Int} (hkz : gK G z = kd) (hq : Q z M) (hd : decode cc pc = .ok (.areturn, 1)) : Wt p l e R s m args below meth c G (MQ below (PostR G kd Q) args s 0 0 (gA G)) nL M lv pc [rV z] := fun H locs ls hP hS hl => W.aret X.1 X.2.1 X.2.2.2.2.2.1 (Or.inl ⟨Cn, rfl⟩) (Or.inr ⟨_, rfl⟩) (fun t ht hW => ⟨⟨(z, M), _, rfl, ⟨hkz, hq⟩, rfl, by subst ht; exact hP⟩, hS.F ht⟩) hS.2.2 hd X.2.2.2.2.2.2.1
theorem xt_sret {Cn : String} (X : Cx p s m args meth c cc nL (some (.object Cn)) own G) {Q : Nat → Mm → Prop} {z : Nat} (hz : z < 18) (hq : Q z M) (hd : decode cc pc = .ok (.areturn, 1)) : Wt p l e R s m args below meth c G (MQ below (PostS G Q) args s 0 0 (gA G)) nL M lv pc [.ref (gS G z)] := fun H locs ls hP hS hl => W.aret X.1 X.2.1 X.2.2.2.2.2.1 (Or.inl ⟨Cn, rfl⟩) (Or.inr ⟨_, rfl⟩) (fun t ht hW => ⟨⟨(z, M), _, rfl, ⟨hz, hq⟩, rfl, by subst ht; exact hP⟩, hS.F ht⟩) hS.2.2 hd X.2.2.2.2.2.2.1
theorem xt_ldcS (X : Cx p s m args meth c cc nL ret RX5 G) (i : Nat) (hi : i < 18) (hd : decode cc pc = .ok (.ldc (strIdx.getD i 0), 2)) (k : Wt p l e R s m args below meth c G Qf nL M lv (pc + 2) (.ref (gS G i) :: st)) : Wt p l e R s m args below meth c G Qf nL M lv pc st := fun H locs ls hP hS hl => va_ldcS X.1 X.2.1 X.2.2.2.1 (X.2.2.2.2.2.2.2.1.2.2.1 i hi) hd (k H locs ls hP hS hl)
theorem xt_als (X : Cx p s m args meth c cc nL ret own G) {q : Fin 4} {i z : Nat} (hd : decode cc pc = .ok (.aload_n q, 1)) (hi : (q : Nat) = i) (j : Nat) (hj : lv[j]? = some (i, .ref z)) (k : Wt p l e R s m args below meth c G Qf nL M lv (pc + 1) (.ref z :: st)) : Wt p l e R s m args below meth c G Qf nL M lv pc st := fun H locs ls hP hS hl => lv_aload_n X.1 X.2.1 hd hi (lv_at hl j hj) (k H locs ls hP hS hl)
theorem xt_ass (X : Cx p s m args meth c cc nL ret own G) {q : Fin 4} {i z : Nat} (hd : decode cc pc = .ok (.astore_n q, 1)) (hi : (q : Nat) = i) (hn : i < nL) (hv : (i, Value.ref z) :: lv.filter (fun q => !(q.1 == i) && !(q.1 + 1 == i && q.2.category == 2)) = lv2) (k : Wt p l e R s m args below meth c G Qf nL M lv2 (pc + 1) st) : Wt p l e R s m args below meth c G Qf nL M lv pc (.ref z :: st) := fun H locs ls hP hS hl => lv_astore_n X.1 X.2.1 hd hi hl hn hv (fun ls hl => k H locs ls hP hS hl)
theorem p_blind (G : GG) (M : Mm) (av : List Value) : FrameBlind (Pre G M av) := fun a U g mk q => ⟨q.1, q.2.1.blind g mk a, q.2.2⟩
theorem r_V (X : Cx p s m args meth c cc nL ret own G) {y : MethodName} {bytes : ByteArray} {maxL idx ci N : Nat} {rc : Option FieldType} {rm : Room} {Cn : String} {T : u_T} {a : Int} {av : List Value} {Qc : Array Value → State → Outcome → State → Prop} {H : Heap} {locs : List Loc} {ls : Array Slot} {fs : List Value}
    (hM : Met l y (Cond.code y bytes maxL rc :: tw) rm (Pre G M (rV a :: av)) Qc 0 0 (gA G)) (hg : GoodIn tw (wsV own idx Cn y (Cond.code y bytes maxL rc :: tw)))
    (hd2 : y.cls = Cn ∧ y.cls ≠ "java/lang/invoke/MethodHandle" ∧ y.cls ≠ "java/lang/invoke/VarHandle" ∧ (parseMethodDescriptor y.desc).map (fun d => d.parameters.length) = some av.length)
    (hrc : rm.cells = 0 ∧ rm.slots = 0) (hR : rm.frames + 1 ≤ R.frames ∧ 8 + (maxL + 11) + rm.locals ≤ R.locals) (hcl : vwCl[ci]? = some (Cn, T, N)) (hk : (gK G a).1 < 12) (he : cR (gC G) (gK G a) a (M a) = .inr (ci, fs))
    (hst : st = av.reverse ++ rV a :: rest) (hw : (rest.map fun v => v.category).sum ≤ 8) (hd : decode cc pc = .ok (.invokevirtual idx, 3)) (hP : Wp G M H) (hS : va_S (gA G) s.heap H locs) (hl : lv_has ls nL lv) :
    va_Run p l e R s m args below meth c H locs 0 0 0 0 (F0 m pc ls st) rest (Qc (rV a :: av).toArray) (gA G) := by
  obtain ⟨k0, h0, hm, hk0⟩ := g_at (M := M) X.2.2.2.2.2.2.2.2 hk
  rw [he] at hk0
  exact va_runV (As := av) (rest := rest) ⟨X.1, X.2.1, X.2.2.1, X.2.2.2.1, X.2.2.2.2.1⟩ hM (cwV av.length X.2.2.2.2.1 hg rfl hrc.1 hrc.2 hd2 hR)
    ⟨p_blind G M _, va_recv X.2.2.2.2.2.2.2.1.1 hP.1 hcl hk0, fun U hU hW => ⟨rfl, X.2.2.2.2.2.2.2.1.to hW hU hS, by rw [hU]; exact hP⟩⟩ rfl rfl hl.1 hst (lv_room hw) hd ⟨Nat.zero_le _, Nat.zero_le _⟩
theorem r_S (X : Cx p s m args meth c cc nL ret own G) {y : MethodName} {bytes : ByteArray} {maxL idx : Nat} {rc : Option FieldType} {rm : Room} {av : List Value} {Qc : Array Value → State → Outcome → State → Prop} {H : Heap} {locs : List Loc} {ls : Array Slot}
    (hM : Met l y (Cond.code y bytes maxL rc :: tw) rm (Pre G M av) Qc 0 0 (gA G)) (hg : GoodIn tw (va_wsS own idx y (Cond.code y bytes maxL rc :: tw)))
    (hd2 : y.cls ≠ "java/lang/invoke/MethodHandle" ∧ y.cls ≠ "java/lang/invoke/VarHandle" ∧ (parseMethodDescriptor y.desc).map (fun d => d.parameters.length) = some av.length)
    (hrc : rm.cells = 0 ∧ rm.slots = 0) (hR : rm.frames + 1 ≤ R.frames ∧ 8 + (maxL + 11) + rm.locals ≤ R.locals)
    (hst : st = av.reverse ++ rest) (hw : (rest.map fun v => v.category).sum ≤ 8) (hd : decode cc pc = .ok (.invokestatic idx, 3)) (hP : Wp G M H) (hS : va_S (gA G) s.heap H locs) (hl : lv_has ls nL lv) :
    va_Run p l e R s m args below meth c H locs 0 0 0 0 (F0 m pc ls st) rest (Qc av.toArray) (gA G) :=
  va_runS (As := av) (rest := rest) ⟨X.1, X.2.1, X.2.2.1, X.2.2.2.1, X.2.2.2.2.1⟩ hM (va_cwS av.length X.2.2.2.2.1 hg rfl hrc.1 hrc.2 hd2 hR)
    ⟨p_blind G M _, fun U hU hW => ⟨rfl, X.2.2.2.2.2.2.2.1.to hW hU hS, by rw [hU]; exact hP⟩⟩ rfl rfl hl.1 hst (lv_room hw) hd ⟨Nat.zero_le _, Nat.zero_le _⟩
theorem xt_cVI (X : Cx p s m args meth c cc nL ret own G) {y : MethodName} {bytes : ByteArray} {maxL idx ci N : Nat} {rc : Option FieldType} {rm : Room} {Cn : String} {T : u_T} {a : Int} {fs : List Value} (av rest : List Value) {Qc : Int → Mm → Prop}
    (hM : Met l y (Cond.code y bytes maxL rc :: tw) rm (Pre G M (rV a :: av)) (PostI G Qc) 0 0 (gA G)) (hg : GoodIn tw (wsV own idx Cn y (Cond.code y bytes maxL rc :: tw)))
    (hd2 : y.cls = Cn ∧ y.cls ≠ "java/lang/invoke/MethodHandle" ∧ y.cls ≠ "java/lang/invoke/VarHandle" ∧ (parseMethodDescriptor y.desc).map (fun d => d.parameters.length) = some av.length)
    (hrc : rm.cells = 0 ∧ rm.slots = 0) (hR : rm.frames + 1 ≤ R.frames ∧ 8 + (maxL + 11) + rm.locals ≤ R.locals) (hcl : vwCl[ci]? = some (Cn, T, N)) (hk : (gK G a).1 < 12) (he : cR (gC G) (gK G a) a (M a) = .inr (ci, fs))
    (hst : st = av.reverse ++ rV a :: rest) (hw : (rest.map fun v => v.category).sum ≤ 8) (hd : decode cc pc = .ok (.invokevirtual idx, 3)) (k : ∀ (z : Int) (M2 : Mm), inR z → Qc z M2 → Wt p l e R s m args below meth c G Qf nL M2 lv (pc + 3) (iV z :: rest)) : Wt p l e R s m args below meth c G Qf nL M lv pc st :=
  fun H locs ls hP hS hl => va_calli (r_V X hM hg hd2 hrc hR hcl hk he hst hw hd hP hS hl) hS (fun q _ h => h) (fun q h => h) (fun r u t H1 locs1 ht hvm hw1 hB hz1 hk1 hS1 => by obtain ⟨z, rfl, hz, hq⟩ := hw1; exact k z u hz hq H1 locs1 ls (by rw [← ht]; exact hB) hS1 hl)
theorem xt_cSI (X : Cx p s m args meth c cc nL ret own G) {y : MethodName} {bytes : ByteArray} {maxL idx : Nat} {rc : Option FieldType} {rm : Room} (av rest : List Value) {Qc : Int → Mm → Prop}
    (hM : Met l y (Cond.code y bytes maxL rc :: tw) rm (Pre G M av) (PostI G Qc) 0 0 (gA G)) (hg : GoodIn tw (va_wsS own idx y (Cond.code y bytes maxL rc :: tw)))
    (hd2 : y.cls ≠ "java/lang/invoke/MethodHandle" ∧ y.cls ≠ "java/lang/invoke/VarHandle" ∧ (parseMethodDescriptor y.desc).map (fun d => d.parameters.length) = some av.length)
    (hrc : rm.cells = 0 ∧ rm.slots = 0) (hR : rm.frames + 1 ≤ R.frames ∧ 8 + (maxL + 11) + rm.locals ≤ R.locals)
    (hst : st = av.reverse ++ rest) (hw : (rest.map fun v => v.category).sum ≤ 8) (hd : decode cc pc = .ok (.invokestatic idx, 3)) (k : ∀ (z : Int) (M2 : Mm), inR z → Qc z M2 → Wt p l e R s m args below meth c G Qf nL M2 lv (pc + 3) (iV z :: rest)) : Wt p l e R s m args below meth c G Qf nL M lv pc st :=
  fun H locs ls hP hS hl => va_calli (r_S X hM hg hd2 hrc hR hst hw hd hP hS hl) hS (fun q _ h => h) (fun q h => h) (fun r u t H1 locs1 ht hvm hw1 hB hz1 hk1 hS1 => by obtain ⟨z, rfl, hz, hq⟩ := hw1; exact k z u hz hq H1 locs1 ls (by rw [← ht]; exact hB) hS1 hl)
theorem xt_cVV (X : Cx p s m args meth c cc nL ret own G) {y : MethodName} {bytes : ByteArray} {maxL idx ci N : Nat} {rc : Option FieldType} {rm : Room} {Cn : String} {T : u_T} {a : Int} {fs : List Value} (av rest : List Value) {Qc : Mm → Prop}
    (hM : Met l y (Cond.code y bytes maxL rc :: tw) rm (Pre G M (rV a :: av)) (PostV G Qc) 0 0 (gA G)) (hg : GoodIn tw (wsV own idx Cn y (Cond.code y bytes maxL rc :: tw)))
    (hd2 : y.cls = Cn ∧ y.cls ≠ "java/lang/invoke/MethodHandle" ∧ y.cls ≠ "java/lang/invoke/VarHandle" ∧ (parseMethodDescriptor y.desc).map (fun d => d.parameters.length) = some av.length)
    (hrc : rm.cells = 0 ∧ rm.slots = 0) (hR : rm.frames + 1 ≤ R.frames ∧ 8 + (maxL + 11) + rm.locals ≤ R.locals) (hcl : vwCl[ci]? = some (Cn, T, N)) (hk : (gK G a).1 < 12) (he : cR (gC G) (gK G a) a (M a) = .inr (ci, fs))
    (hst : st = av.reverse ++ rV a :: rest) (hw : (rest.map fun v => v.category).sum ≤ 8) (hd : decode cc pc = .ok (.invokevirtual idx, 3)) (k : ∀ (M2 : Mm), Qc M2 → Wt p l e R s m args below meth c G Qf nL M2 lv (pc + 3) rest) : Wt p l e R s m args below meth c G Qf nL M lv pc st :=
  fun H locs ls hP hS hl => va_callv (r_V X hM hg hd2 hrc hR hcl hk he hst hw hd hP hS hl) hS (fun q _ h => h) (fun q h => h) (fun u t H1 locs1 ht hvm hw1 hB hz1 hk1 hS1 => k u hw1 H1 locs1 ls (by rw [← ht]; exact hB) hS1 hl)
theorem xt_cSV (X : Cx p s m args meth c cc nL ret own G) {y : MethodName} {bytes : ByteArray} {maxL idx : Nat} {rc : Option FieldType} {rm : Room} (av rest : List Value) {Qc : Mm → Prop}
    (hM : Met l y (Cond.code y bytes maxL rc :: tw) rm (Pre G M av) (PostV G Qc) 0 0 (gA G)) (hg : GoodIn tw (va_wsS own idx y (Cond.code y bytes maxL rc :: tw)))
    (hd2 : y.cls ≠ "java/lang/invoke/MethodHandle" ∧ y.cls ≠ "java/lang/invoke/VarHandle" ∧ (parseMethodDescriptor y.desc).map (fun d => d.parameters.length) = some av.length)
    (hrc : rm.cells = 0 ∧ rm.slots = 0) (hR : rm.frames + 1 ≤ R.frames ∧ 8 + (maxL + 11) + rm.locals ≤ R.locals)
    (hst : st = av.reverse ++ rest) (hw : (rest.map fun v => v.category).sum ≤ 8) (hd : decode cc pc = .ok (.invokestatic idx, 3)) (k : ∀ (M2 : Mm), Qc M2 → Wt p l e R s m args below meth c G Qf nL M2 lv (pc + 3) rest) : Wt p l e R s m args below meth c G Qf nL M lv pc st :=
  fun H locs ls hP hS hl => va_callv (r_S X hM hg hd2 hrc hR hst hw hd hP hS hl) hS (fun q _ h => h) (fun q h => h) (fun u t H1 locs1 ht hvm hw1 hB hz1 hk1 hS1 => k u hw1 H1 locs1 ls (by rw [← ht]; exact hB) hS1 hl)
theorem xt_cVL (X : Cx p s m args meth c cc nL ret own G) {y : MethodName} {bytes : ByteArray} {maxL idx ci N : Nat} {rc : Option FieldType} {rm : Room} {Cn : String} {T : u_T} {a : Int} {fs : List Value} (av rest : List Value) {Qc : Int64 → Mm → Prop}
    (hM : Met l y (Cond.code y bytes maxL rc :: tw) rm (Pre G M (rV a :: av)) (PostL G Qc) 0 0 (gA G)) (hg : GoodIn tw (wsV own idx Cn y (Cond.code y bytes maxL rc :: tw)))
    (hd2 : y.cls = Cn ∧ y.cls ≠ "java/lang/invoke/MethodHandle" ∧ y.cls ≠ "java/lang/invoke/VarHandle" ∧ (parseMethodDescriptor y.desc).map (fun d => d.parameters.length) = some av.length)
    (hrc : rm.cells = 0 ∧ rm.slots = 0) (hR : rm.frames + 1 ≤ R.frames ∧ 8 + (maxL + 11) + rm.locals ≤ R.locals) (hcl : vwCl[ci]? = some (Cn, T, N)) (hk : (gK G a).1 < 12) (he : cR (gC G) (gK G a) a (M a) = .inr (ci, fs))
    (hst : st = av.reverse ++ rV a :: rest) (hw : (rest.map fun v => v.category).sum ≤ 8) (hd : decode cc pc = .ok (.invokevirtual idx, 3)) (k : ∀ (z : Int64) (M2 : Mm), Qc z M2 → Wt p l e R s m args below meth c G Qf nL M2 lv (pc + 3) (.long z :: rest)) : Wt p l e R s m args below meth c G Qf nL M lv pc st :=
  fun H locs ls hP hS hl => va_calll (r_V X hM hg hd2 hrc hR hcl hk he hst hw hd hP hS hl) hS (fun q _ h => h) (fun q h => h) (fun r u t H1 locs1 ht hvm hw1 hB hz1 hk1 hS1 => k r u hw1 H1 locs1 ls (by rw [← ht]; exact hB) hS1 hl)
theorem xt_cSL (X : Cx p s m args meth c cc nL ret own G) {y : MethodName} {bytes : ByteArray} {maxL idx : Nat} {rc : Option FieldType} {rm : Room} (av rest : List Value) {Qc : Int64 → Mm → Prop}
    (hM : Met l y (Cond.code y bytes maxL rc :: tw) rm (Pre G M av) (PostL G Qc) 0 0 (gA G)) (hg : GoodIn tw (va_wsS own idx y (Cond.code y bytes maxL rc :: tw)))
    (hd2 : y.cls ≠ "java/lang/invoke/MethodHandle" ∧ y.cls ≠ "java/lang/invoke/VarHandle" ∧ (parseMethodDescriptor y.desc).map (fun d => d.parameters.length) = some av.length)
    (hrc : rm.cells = 0 ∧ rm.slots = 0) (hR : rm.frames + 1 ≤ R.frames ∧ 8 + (maxL + 11) + rm.locals ≤ R.locals)
    (hst : st = av.reverse ++ rest) (hw : (rest.map fun v => v.category).sum ≤ 8) (hd : decode cc pc = .ok (.invokestatic idx, 3)) (k : ∀ (z : Int64) (M2 : Mm), Qc z M2 → Wt p l e R s m args below meth c G Qf nL M2 lv (pc + 3) (.long z :: rest)) : Wt p l e R s m args below meth c G Qf nL M lv pc st :=
  fun H locs ls hP hS hl => va_calll (r_S X hM hg hd2 hrc hR hst hw hd hP hS hl) hS (fun q _ h => h) (fun q h => h) (fun r u t H1 locs1 ht hvm hw1 hB hz1 hk1 hS1 => k r u hw1 H1 locs1 ls (by rw [← ht]; exact hB) hS1 hl)
theorem xt_cVR (X : Cx p s m args meth c cc nL ret own G) {y : MethodName} {bytes : ByteArray} {maxL idx ci N : Nat} {rc : Option FieldType} {rm : Room} {Cn : String} {T : u_T} {a : Int} {fs : List Value} (av rest : List Value) {Qc : Int → Mm → Prop} {kd : Nat × Nat}
    (hM : Met l y (Cond.code y bytes maxL rc :: tw) rm (Pre G M (rV a :: av)) (PostR G kd Qc) 0 0 (gA G)) (hg : GoodIn tw (wsV own idx Cn y (Cond.code y bytes maxL rc :: tw)))
    (hd2 : y.cls = Cn ∧ y.cls ≠ "java/lang/invoke/MethodHandle" ∧ y.cls ≠ "java/lang/invoke/VarHandle" ∧ (parseMethodDescriptor y.desc).map (fun d => d.parameters.length) = some av.length)
    (hrc : rm.cells = 0 ∧ rm.slots = 0) (hR : rm.frames + 1 ≤ R.frames ∧ 8 + (maxL + 11) + rm.locals ≤ R.locals) (hcl : vwCl[ci]? = some (Cn, T, N)) (hk : (gK G a).1 < 12) (he : cR (gC G) (gK G a) a (M a) = .inr (ci, fs))
    (hst : st = av.reverse ++ rV a :: rest) (hw : (rest.map fun v => v.category).sum ≤ 8) (hd : decode cc pc = .ok (.invokevirtual idx, 3)) (k : ∀ (z : Int) (M2 : Mm), gK G z = kd → Qc z M2 → Wt p l e R s m args below meth c G Qf nL M2 lv (pc + 3) (rV z :: rest)) : Wt p l e R s m args below meth c G Qf nL M lv pc st :=
  fun H locs ls hP hS hl => va_callr (r_V X hM hg hd2 hrc hR hcl hk he hst hw hd hP hS hl) hS (fun q _ h => h) (fun q h => h) (fun u ra t H1 locs1 ht hvm hw1 hB hz1 hk1 hS1 => by obtain ⟨rfl, hB⟩ := hB; exact k u.1 u.2 hw1.1 hw1.2 H1 locs1 ls (by rw [← ht]; exact hB) hS1 hl)
theorem xt_cSR (X : Cx p s m args meth c cc nL ret own G) {y : MethodName} {bytes : ByteArray} {maxL idx : Nat} {rc : Option FieldType} {rm : Room} (av rest : List Value) {Qc : Int → Mm → Prop} {kd : Nat × Nat}
    (hM : Met l y (Cond.code y bytes maxL rc :: tw) rm (Pre G M av) (PostR G kd Qc) 0 0 (gA G)) (hg : GoodIn tw (va_wsS own idx y (Cond.code y bytes maxL rc :: tw)))
    (hd2 : y.cls ≠ "java/lang/invoke/MethodHandle" ∧ y.cls ≠ "java/lang/invoke/VarHandle" ∧ (parseMethodDescriptor y.desc).map (fun d => d.parameters.length) = some av.length)
    (hrc : rm.cells = 0 ∧ rm.slots = 0) (hR : rm.frames + 1 ≤ R.frames ∧ 8 + (maxL + 11) + rm.locals ≤ R.locals)
    (hst : st = av.reverse ++ rest) (hw : (rest.map fun v => v.category).sum ≤ 8) (hd : decode cc pc = .ok (.invokestatic idx, 3)) (k : ∀ (z : Int) (M2 : Mm), gK G z = kd → Qc z M2 → Wt p l e R s m args below meth c G Qf nL M2 lv (pc + 3) (rV z :: rest)) : Wt p l e R s m args below meth c G Qf nL M lv pc st :=
  fun H locs ls hP hS hl => va_callr (r_S X hM hg hd2 hrc hR hst hw hd hP hS hl) hS (fun q _ h => h) (fun q h => h) (fun u ra t H1 locs1 ht hvm hw1 hB hz1 hk1 hS1 => by obtain ⟨rfl, hB⟩ := hB; exact k u.1 u.2 hw1.1 hw1.2 H1 locs1 ls (by rw [← ht]; exact hB) hS1 hl)
theorem xt_cVS (X : Cx p s m args meth c cc nL ret own G) {y : MethodName} {bytes : ByteArray} {maxL idx ci N : Nat} {rc : Option FieldType} {rm : Room} {Cn : String} {T : u_T} {a : Int} {fs : List Value} (av rest : List Value) {Qc : Nat → Mm → Prop}
    (hM : Met l y (Cond.code y bytes maxL rc :: tw) rm (Pre G M (rV a :: av)) (PostS G Qc) 0 0 (gA G)) (hg : GoodIn tw (wsV own idx Cn y (Cond.code y bytes maxL rc :: tw)))
    (hd2 : y.cls = Cn ∧ y.cls ≠ "java/lang/invoke/MethodHandle" ∧ y.cls ≠ "java/lang/invoke/VarHandle" ∧ (parseMethodDescriptor y.desc).map (fun d => d.parameters.length) = some av.length)
    (hrc : rm.cells = 0 ∧ rm.slots = 0) (hR : rm.frames + 1 ≤ R.frames ∧ 8 + (maxL + 11) + rm.locals ≤ R.locals) (hcl : vwCl[ci]? = some (Cn, T, N)) (hk : (gK G a).1 < 12) (he : cR (gC G) (gK G a) a (M a) = .inr (ci, fs))
    (hst : st = av.reverse ++ rV a :: rest) (hw : (rest.map fun v => v.category).sum ≤ 8) (hd : decode cc pc = .ok (.invokevirtual idx, 3)) (k : ∀ (z : Nat) (M2 : Mm), z < 18 → Qc z M2 → Wt p l e R s m args below meth c G Qf nL M2 lv (pc + 3) (.ref (gS G z) :: rest)) : Wt p l e R s m args below meth c G Qf nL M lv pc st :=
  fun H locs ls hP hS hl => va_callr (r_V X hM hg hd2 hrc hR hcl hk he hst hw hd hP hS hl) hS (fun q _ h => h) (fun q h => h) (fun u ra t H1 locs1 ht hvm hw1 hB hz1 hk1 hS1 => by obtain ⟨rfl, hB⟩ := hB; exact k u.1 u.2 hw1.1 hw1.2 H1 locs1 ls (by rw [← ht]; exact hB) hS1 hl)
theorem xt_cSS (X : Cx p s m args meth c cc nL ret own G) {y : MethodName} {bytes : ByteArray} {maxL idx : Nat} {rc : Option FieldType} {rm : Room} (av rest : List Value) {Qc : Nat → Mm → Prop}
    (hM : Met l y (Cond.code y bytes maxL rc :: tw) rm (Pre G M av) (PostS G Qc) 0 0 (gA G)) (hg : GoodIn tw (va_wsS own idx y (Cond.code y bytes maxL rc :: tw)))
    (hd2 : y.cls ≠ "java/lang/invoke/MethodHandle" ∧ y.cls ≠ "java/lang/invoke/VarHandle" ∧ (parseMethodDescriptor y.desc).map (fun d => d.parameters.length) = some av.length)
    (hrc : rm.cells = 0 ∧ rm.slots = 0) (hR : rm.frames + 1 ≤ R.frames ∧ 8 + (maxL + 11) + rm.locals ≤ R.locals)
    (hst : st = av.reverse ++ rest) (hw : (rest.map fun v => v.category).sum ≤ 8) (hd : decode cc pc = .ok (.invokestatic idx, 3)) (k : ∀ (z : Nat) (M2 : Mm), z < 18 → Qc z M2 → Wt p l e R s m args below meth c G Qf nL M2 lv (pc + 3) (.ref (gS G z) :: rest)) : Wt p l e R s m args below meth c G Qf nL M lv pc st :=
  fun H locs ls hP hS hl => va_callr (r_S X hM hg hd2 hrc hR hst hw hd hP hS hl) hS (fun q _ h => h) (fun q h => h) (fun u ra t H1 locs1 ht hvm hw1 hB hz1 hk1 hS1 => by obtain ⟨rfl, hB⟩ := hB; exact k u.1 u.2 hw1.1 hw1.2 H1 locs1 ls (by rw [← ht]; exact hB) hS1 hl)
end ROWS
/-- a contract out of a walk -/
theorem met_of {l : Launch} {y : MethodName} {bytes : ByteArray} {maxL : Nat} {ret : Option FieldType} {rm : Room} {G : GG} {M : Mm} {av : List Value} {Qc : Array Value → State → Outcome → State → Prop} {own : String} (hy : plainName y.cls = true) (ho : y.cls = own) (hG : Gd G) (hav : (lg_sl av).length ≤ maxL)
    (body : ∀ (p : Program) (e : Env) (s : State) (m : MethodId) (below : List Frame) (meth : Method) (c : Code), Cx p s m av.toArray meth c bytes maxL ret own G → Wt p l e rm s m av.toArray below meth c G (MQ below Qc av.toArray s 0 0 (gA G)) maxL M (lv_args 0 av) 0 []) :
    Met l y (Cond.code y bytes maxL ret :: tw) rm (Pre G M av) Qc 0 0 (gA G) := by
  refine Met.ofW (cc := bytes) (maxL := maxL) (ret := ret) hy rfl ?_
  intro p e s m args below meth c s₁ B hml hv
  obtain ⟨rfl, hKn, hP⟩ := hv
  have hts := atoms_spec (ws := Cond.code y bytes maxL ret :: tw) B.pre
  have hown : s.vm.findClass own = some m.cls := by rw [← ho]; exact findClass_of_methodNamed B.named
  have X : Cx p s m av.toArray meth c bytes maxL ret own G := ⟨B.exec, B.bytes, hml, hown, fun w h => hts w (List.mem_cons_of_mem _ h), B.returns, B.notSynchronized, hKn, hG⟩
  have hl := lv_entry av (n := maxL) hav
  rw [lg_entry_eq]
  exact body p e s m below meth c X s.heap [] _ hP va_S.rf hl
