/-! ===== the heap while it is being built: every cell from gB on, by its address ===== -/
def AO (U : State) : Prop := va_AO RX1 U ∧ va_AO RX3 U
theorem AO.moved {u U : State} (hvm : u.vm.Alike U.vm) (h : AO u) : AO U := ⟨h.1.moved hvm, h.2.moved hvm⟩
def Bw (G : GG) (sz : Nat) (E : Nat → va_E) (H : Heap) : Prop := H.size = sz ∧ ∀ q : Nat, gB G ≤ q → q < sz → va_at (gD G) vwCl (q, E q) H
def uE (E : Nat → va_E) (a : Nat) (x : va_E) : Nat → va_E := fun q => if q = a then x else E q
theorem uE_s (E : Nat → va_E) (a : Nat) (x : va_E) : uE E a x a = x := if_pos rfl
theorem uE_n (E : Nat → va_E) {a q : Nat} (x : va_E) (h : q ≠ a) : uE E a x q = E q := if_neg h
theorem bw_push {G : GG} {sz : Nat} {E : Nat → va_E} {H H1 : Heap} {x : va_E} (h : Bw G sz E H) (z1 : H1.size = sz + 1) (o1 : ∀ q : Nat, q < sz → H1[q]? = H[q]?) (hx : va_at (gD G) vwCl (sz, x) H1) : Bw G (sz + 1) (uE E sz x) H1 := by
  refine ⟨z1, fun q h1 h2 => ?_⟩
  by_cases hq : q = sz
  · subst hq
    rw [uE_s]; exact hx
  · rw [uE_n E x hq]
    exact (h.2 q h1 (by omega)).kept (o1 q (by omega))
theorem bw_set {G : GG} {sz a : Nat} {E : Nat → va_E} {H H1 : Heap} {x : va_E} (h : Bw G sz E H) (z1 : H1.size = H.size) (o1 : ∀ q : Nat, q ≠ a → H1[q]? = H[q]?) (hx : va_at (gD G) vwCl (a, x) H1) : Bw G sz (uE E a x) H1 := by
  refine ⟨by rw [z1]; exact h.1, fun q h1 h2 => ?_⟩
  by_cases hq : q = a
  · subst hq
    rw [uE_s]; exact hx
  · rw [uE_n E x hq]
    exact (h.2 q h1 h2).kept (o1 q hq)
theorem vs_push {A : Nat → Prop} {H0 H H1 : Heap} {locs : List Loc} {sz : Nat} (hS : va_S A H0 H locs) (hz : H.size = sz) (z1 : H1.size = sz + 1) (o1 : ∀ q : Nat, q < sz → H1[q]? = H[q]?) : va_S A H0 H1 locs := by
  have h1 := hS.1
  exact ⟨by omega, fun x g1 g2 => (o1 x (by omega)).trans (hS.2.1 x g1 g2), hS.2.2⟩
def Wc (p : Program) (l : Launch) (e : Env) (R : Room) (s : State) (m : MethodId) (args : Array Value) (below : List Frame) (meth : Method) (c : Code) (G : GG) (Qf : State → Prop) (nL : Nat) (sz : Nat) (E : Nat → va_E) (lv : List (Nat × Value)) (pc : Nat) (st : List Value) (cells slots : Nat) : Prop :=
  ∀ (H : Heap) (locs : List Loc) (ls : Array Slot), Bw G sz E H → va_S (gA G) s.heap H locs → lv_has ls nL lv → W p l e R s m args below meth c H locs cells slots Qf (F0 m pc ls st)
section CROWS
variable {p : Program} {l : Launch} {e : Env} {R : Room} {s : State} {m : MethodId} {args : Array Value} {below : List Frame} {meth : Method} {c : Code} {G : GG} {Qf : State → Prop} {nL sz : Nat} {E : Nat → va_E} {lv lv2 : List (Nat × Value)} {pc : Nat} {st rest : List Value} {cc : ByteArray} {ret : Option FieldType} {own : String} {cells slots : Nat}
theorem wc_w {k n : Nat} (h1 : cells ≤ k) (h2 : slots ≤ n) (kk : Wc p l e R s m args below meth c G Qf nL sz E lv pc st k n) : Wc p l e R s m args below meth c G Qf nL sz E lv pc st cells slots := fun H locs ls hB hS hl => W.widen h1 h2 (kk H locs ls hB hS hl)
theorem wc_al (X : Cx p s m args meth c cc nL ret own G) {q : Fin 4} {i v : Nat} (hd : decode cc pc = .ok (.aload_n q, 1)) (hi : (q : Nat) = i) (j : Nat) (hj : lv[j]? = some (i, .ref v)) (k : Wc p l e R s m args below meth c G Qf nL sz E lv (pc + 1) (.ref v :: st) cells slots) : Wc p l e R s m args below meth c G Qf nL sz E lv pc st cells slots := fun H locs ls hB hS hl => lv_aload_n X.1 X.2.1 hd hi (lv_at hl j hj) (k H locs ls hB hS hl)
theorem wc_il (X : Cx p s m args meth c cc nL ret own G) {q : Fin 4} {i : Nat} {z : Int} (hd : decode cc pc = .ok (.iload_n q, 1)) (hi : (q : Nat) = i) (j : Nat) (hj : lv[j]? = some (i, iV z)) (k : Wc p l e R s m args below meth c G Qf nL sz E lv (pc + 1) (iV z :: st) cells slots) : Wc p l e R s m args below meth c G Qf nL sz E lv pc st cells slots := fun H locs ls hB hS hl => lv_iload_n X.1 X.2.1 hd hi (lv_at hl j hj) (k H locs ls hB hS hl)
theorem wc_ic (X : Cx p s m args meth c cc nL ret own G) {n : Int} (hd : decode cc pc = .ok (.iconst n, 1)) (k : Wc p l e R s m args below meth c G Qf nL sz E lv (pc + 1) (iV n :: st) cells slots) : Wc p l e R s m args below meth c G Qf nL sz E lv pc st cells slots := fun H locs ls hB hS hl => lv_iconst X.1 X.2.1 hd rfl (k H locs ls hB hS hl)
theorem wc_bi (X : Cx p s m args meth c cc nL ret own G) {n : Int} (hd : decode cc pc = .ok (.bipush n, 2)) (hv : (Int8.ofInt n).toInt32 = Int32.ofInt n) (k : Wc p l e R s m args below meth c G Qf nL sz E lv (pc + 2) (iV n :: st) cells slots) : Wc p l e R s m args below meth c G Qf nL sz E lv pc st cells slots := fun H locs ls hB hS hl => lv_bipush X.1 X.2.1 hd hv (k H locs ls hB hS hl)
theorem wc_si (X : Cx p s m args meth c cc nL ret own G) {n : Int} (hd : decode cc pc = .ok (.sipush n, 3)) (hv : (Int16.ofInt n).toInt32 = Int32.ofInt n) (k : Wc p l e R s m args below meth c G Qf nL sz E lv (pc + 3) (iV n :: st) cells slots) : Wc p l e R s m args below meth c G Qf nL sz E lv pc st cells slots := fun H locs ls hB hS hl => lv_sipush X.1 X.2.1 hd hv (k H locs ls hB hS hl)
theorem wc_dup (X : Cx p s m args meth c cc nL ret own G) {v : Nat} (hd : decode cc pc = .ok (.dup, 1)) (k : Wc p l e R s m args below meth c G Qf nL sz E lv (pc + 1) (.ref v :: .ref v :: st) cells slots) : Wc p l e R s m args below meth c G Qf nL sz E lv pc (.ref v :: st) cells slots := fun H locs ls hB hS hl => lv_dup X.1 X.2.1 hd rfl (k H locs ls hB hS hl)
theorem wc_is (X : Cx p s m args meth c cc nL ret own G) {q : Fin 4} {i : Nat} {z : Int} (hd : decode cc pc = .ok (.istore_n q, 1)) (hi : (q : Nat) = i) (hn : i < nL) (hv : (i, iV z) :: lv.filter (fun q => !(q.1 == i) && !(q.1 + 1 == i && q.2.category == 2)) = lv2) (k : Wc p l e R s m args below meth c G Qf nL sz E lv2 (pc + 1) st cells slots) : Wc p l e R s m args below meth c G Qf nL sz E lv pc (iV z :: st) cells slots := fun H locs ls hB hS hl => lv_istore_n X.1 X.2.1 hd hi hl hn hv (fun ls hl => k H locs ls hB hS hl)
theorem wc_as (X : Cx p s m args meth c cc nL ret own G) {q : Fin 4} {i v : Nat} (hd : decode cc pc = .ok (.astore_n q, 1)) (hi : (q : Nat) = i) (hn : i < nL) (hv : (i, .ref v) :: lv.filter (fun q => !(q.1 == i) && !(q.1 + 1 == i && q.2.category == 2)) = lv2) (k : Wc p l e R s m args below meth c G Qf nL sz E lv2 (pc + 1) st cells slots) : Wc p l e R s m args below meth c G Qf nL sz E lv pc (.ref v :: st) cells slots := fun H locs ls hB hS hl => lv_astore_n X.1 X.2.1 hd hi hl hn hv (fun ls hl => k H locs ls hB hS hl)
theorem wc_inc (X : Cx p s m args meth c cc nL ret own G) {i : Nat} {n z : Int} (hd : decode cc pc = .ok (.iinc i n, 3)) (j : Nat) (hj : lv[j]? = some (i, iV z)) (hn : i < nL) (hv : (i, iV (z + n)) :: lv.filter (fun q => !(q.1 == i) && !(q.1 + 1 == i && q.2.category == 2)) = lv2) (k : Wc p l e R s m args below meth c G Qf nL sz E lv2 (pc + 3) st cells slots) : Wc p l e R s m args below meth c G Qf nL sz E lv pc st cells slots := fun H locs ls hB hS hl => lv_iinc X.1 X.2.1 hd hl hj (Int32.ofInt_add z n).symm hn hv (fun ls hl => k H locs ls hB hS hl)
theorem wc_goto (X : Cx p s m args meth c cc nL ret own G) {off : Int} {tgt : Nat} (hd : decode cc pc = .ok (.goto off, 3)) (ht : (pc : Int) + off = (tgt : Int)) (k : Wc p l e R s m args below meth c G Qf nL sz E lv tgt st cells slots) : Wc p l e R s m args below meth c G Qf nL sz E lv pc st cells slots := fun H locs ls hB hS hl => lv_goto X.1 X.2.1 hd ht (k H locs ls hB hS hl)
theorem wc_cge (X : Cx p s m args meth c cc nL ret own G) {a b off : Int} {tgt : Nat} (ga : inR a) (gb : inR b) (hd : decode cc pc = .ok (.if_icmp .ge off, 3)) (ht : (pc : Int) + off = (tgt : Int)) (kt : b ≤ a → Wc p l e R s m args below meth c G Qf nL sz E lv tgt st cells slots) (kf : ¬ b ≤ a → Wc p l e R s m args below meth c G Qf nL sz E lv (pc + 3) st cells slots) : Wc p l e R s m args below meth c G Qf nL sz E lv pc (iV b :: iV a :: st) cells slots := fun H locs ls hB hS hl => lv_icmp_ge X.1 X.2.1 hd ht (fun h => kt ((i_le gb ga).mp h) H locs ls hB hS hl) (fun h => kf (fun q => h ((i_le gb ga).mpr q)) H locs ls hB hS hl)
theorem wc_obj (X : Cx p s m args meth c cc nL ret own G) {idx a : Nat} (hlink : Cond.methodLink own idx objectInit ∈ tw) (hd : decode cc pc = .ok (.invokespecial idx, 3)) (hf : 1 ≤ R.frames) (hL : 12 ≤ R.locals) (k : Wc p l e R s m args below meth c G Qf nL sz E lv (pc + 3) [] cells slots) : Wc p l e R s m args below meth c G Qf nL sz E lv pc [.ref a] cells slots := fun H locs ls hB hS hl => W.objInit X.1 X.2.1 X.2.2.2.1 (X.2.2.2.2.1 _ hlink) (X.2.2.2.2.1 _ imObj) (X.2.2.2.2.1 _ coObj) rfl (by rw [X.2.2.1]; exact hl.1) rfl hd hf hL (k H locs ls hB hS hl)
theorem wc_new (X : Cx p s m args meth c cc nL ret own G) {ci N idx : Nat} {T : u_T} {ty0 : Nat → FieldType} {Cn : String} {fs : List Value} (hcl : vwCl[ci]? = some (Cn, T, N)) (hin : ∀ w ∈ u_ws Cn T N, w ∈ tw) (hty : ∀ k, k < N → parseFieldDescriptor (T k).2.2.1 = some (ty0 k)) (hlink : Cond.classLink own idx Cn ∈ tw) (hins : Cond.instantiable Cn N ∈ tw) (hini : Cond.initialized Cn ∈ tw) (hfs : ∀ j, j < N → defaultValue (ty0 j) = vp_V fs j) (hc : cells + 1 ≤ R.cells) (hs : slots + N ≤ R.slots) (hd : decode cc pc = .ok (.new idx, 3)) (k : Wc p l e R s m args below meth c G Qf nL (sz + 1) (uE E sz (.inr (ci, fs))) lv (pc + 3) (.ref sz :: st) (cells + 1) (slots + N)) : Wc p l e R s m args below meth c G Qf nL sz E lv pc st cells slots := by
  intro H locs ls hB hS hl
  have hKn := X.2.2.2.2.2.2.2.1.1.1 ci _ hcl
  refine W.newcK X.1 X.2.1 X.2.2.2.1 (X.2.2.2.2.1 _ hlink) (X.2.2.2.2.1 _ hins) (X.2.2.2.2.1 _ hini) rfl hd hc hs hKn.2.1 hB.1 (fun H1 kC hkC e1 z1 o1 => ?_)
  exact k H1 locs ls (bw_push hB z1 o1 ⟨_, hcl, (u_born ty0 X.2.2.2.2.1 hin hKn hkC e1 hty).to hfs⟩) (vs_push hS hB.1 z1 o1) hl
theorem wc_newI (X : Cx p s m args meth c cc nL ret own G) {n : Int} {N : Nat} (hn : n = (N : Int)) (hN : N ≤ 100000) (hc : cells + 1 ≤ R.cells) (hs : slots + N ≤ R.slots) (hd : decode cc pc = .ok (.newarray .int, 2)) (k : Wc p l e R s m args below meth c G Qf nL (sz + 1) (uE E sz (.inl (gC G 0, N, .inl (fun _ => 0)))) lv (pc + 2) (.ref sz :: st) (cells + 1) (slots + N)) : Wc p l e R s m args below meth c G Qf nL sz E lv pc (iV n :: st) cells slots := by
  intro H locs ls hB hS hl
  subst hn
  refine va_newaK (atype := .int) X.1 X.2.1 (X.2.2.2.2.1 _ ac_int) rfl hd rfl (by rw [i_0, i_lt ⟨by omega, by omega⟩ i_r0]; omega) (by rw [i_clamp (by omega) (by omega)]; exact Int.toNat_natCast N) (by show N * 4 ≤ 536870912; omega) hc hs hB.1 (fun H1 cA e1 z1 o1 hAr hNm => ?_)
  have hRA := (X.2.2.2.2.2.2.2.1.1.2 0 _ rfl).2
  have hcA : cA = gC G 0 := Option.some.inj (hNm.symm.trans hRA)
  subst hcA
  exact k H1 locs ls (bw_push hB z1 o1 e1) (vs_push hS hB.1 z1 o1) hl
theorem wc_newZ (X : Cx p s m args meth c cc nL ret own G) {n : Int} {N : Nat} (hn : n = (N : Int)) (hN : N ≤ 100000) (hc : cells + 1 ≤ R.cells) (hs : slots + N ≤ R.slots) (hd : decode cc pc = .ok (.newarray .boolean, 2)) (k : Wc p l e R s m args below meth c G Qf nL (sz + 1) (uE E sz (.inl (gC G 1, N, .inl (fun _ => 0)))) lv (pc + 2) (.ref sz :: st) (cells + 1) (slots + N)) : Wc p l e R s m args below meth c G Qf nL sz E lv pc (iV n :: st) cells slots := by
  intro H locs ls hB hS hl
  subst hn
  refine va_newaK (atype := .boolean) X.1 X.2.1 (X.2.2.2.2.1 _ ac_boolean) rfl hd rfl (by rw [i_0, i_lt ⟨by omega, by omega⟩ i_r0]; omega) (by rw [i_clamp (by omega) (by omega)]; exact Int.toNat_natCast N) (by show N * 1 ≤ 536870912; omega) hc hs hB.1 (fun H1 cA e1 z1 o1 hAr hNm => ?_)
  have hRA := (X.2.2.2.2.2.2.2.1.1.2 1 _ rfl).2
  have hcA : cA = gC G 1 := Option.some.inj (hNm.symm.trans hRA)
  subst hcA
  exact k H1 locs ls (bw_push hB z1 o1 e1) (vs_push hS hB.1 z1 o1) hl
theorem wc_newA (X : Cx p s m args meth c cc nL ret own G) {n : Int} {N idx t0 : Nat} {Cn : String} (hn : n = (N : Int)) (hN : N ≤ 100000) (ht : (gT G)[t0]? = some (gC G t0, .object Cn)) (hlink : Cond.classLink own idx Cn ∈ tw) (hao : va_AO Cn s) (hc : cells + 1 ≤ R.cells) (hs : slots + N ≤ R.slots) (hd : decode cc pc = .ok (.anewarray idx, 3)) (k : Wc p l e R s m args below meth c G Qf nL (sz + 1) (uE E sz (.inl (gC G t0, N, .inr (.inr (.inr (.inr (fun _ => none))))))) lv (pc + 3) (.ref sz :: st) (cells + 1) (slots + N)) : Wc p l e R s m args below meth c G Qf nL sz E lv pc (iV n :: st) cells slots := by
  intro H locs ls hB hS hl
  subst hn
  have hcn : (Int32.ofInt (N : Int)).toNatClampNeg = N := by rw [i_clamp (by omega) (by omega)]; exact Int.toNat_natCast N
  refine W.anew X.1 X.2.1 X.2.2.2.1 (X.2.2.2.2.1 _ hlink) hao.use rfl hd rfl (by rw [i_0, i_lt ⟨by omega, by omega⟩ i_r0]; omega) (by rw [hcn]; omega) hc (by rw [hcn]; exact hs) (fun cA kA comp h1 h2 h3 h4 => ?_)
  obtain ⟨-, -, -, -, -, hRA⟩ := (X.2.2.2.2.2.2.2.1.1.2 t0 _ ht).2
  have hcA : cA = gC G t0 := Option.some.inj (h1.symm.trans hRA)
  subst hcA
  have hz := hB.1
  rw [hcn, hz]
  have hsz : (H.push { cls := gC G t0, slots := Array.replicate N .null, vm := .none }).size = sz + 1 := by simp [hz]
  have ho : ∀ q : Nat, q < sz → (H.push { cls := gC G t0, slots := Array.replicate N .null, vm := .none })[q]? = H[q]? := fun q hq => by rw [Array.getElem?_push, if_neg (by omega)]
  refine k _ locs ls (bw_push hB hsz ho ?_) (vs_push hS hz hsz ho) hl
  show (H.push { cls := gC G t0, slots := Array.replicate N .null, vm := .none })[sz]? = some (vp_cell _ _)
  rw [vp_cell_q, Array.getElem?_push, if_pos hz.symm, arrV_new]
  rfl
theorem wc_get (X : Cx p s m args meth c cc nL ret own G) {ci N idx j a : Nat} {T : u_T} {Cn rf : String} {fs : List Value} {v : Value} (hcl : vwCl[ci]? = some (Cn, T, N)) (hin : ∀ w ∈ u_ws Cn T N, w ∈ tw) (ha : gB G ≤ a ∧ a < sz) (he : E a = .inr (ci, fs)) (hj : j < N) (hlink : Cond.fieldLink own idx rf (T j).2.1 (T j).2.2.1 ∈ tw) (hrf : (T j).1 = rf) (hv : fs[j]? = some v) (hd : decode cc pc = .ok (.getfield idx, 3)) (k : Wc p l e R s m args below meth c G Qf nL sz E lv (pc + 3) (v :: st) cells slots) : Wc p l e R s m args below meth c G Qf nL sz E lv pc (.ref a :: st) cells slots := by
  intro H locs ls hB hS hl
  have hP : va_P (gD G) vwCl [(a, .inr (ci, fs))] H := fun k q hq => by
    have hz : k < 1 := (List.getElem?_eq_some_iff.mp hq).1
    rw [show k = 0 by omega] at hq
    cases hq
    rw [← he]; exact hB.2 a ha.1 ha.2
  exact va_get (D := gD G) X.1 X.2.1 X.2.2.2.2.1 hin X.2.2.2.1 X.2.2.2.2.2.2.2.1.1 hP 0 rfl hcl j hj (X.2.2.2.2.1 _ hlink) (fun x h => by rw [← hrf]; exact h) hv hd (k H locs ls hB hS hl)
theorem wc_put (X : Cx p s m args meth c cc nL ret own G) {ci N idx j a : Nat} {T : u_T} {ty0 : Nat → FieldType} {Cn rf : String} {fs : List Value} {v : Value} {ty : FieldType} (hcl : vwCl[ci]? = some (Cn, T, N)) (hin : ∀ w ∈ u_ws Cn T N, w ∈ tw) (hty : ∀ k, k < N → parseFieldDescriptor (T k).2.2.1 = some (ty0 k)) (hnm : ∀ a, a < N → ∀ b, b < N → a ≠ b → (T a).2.1 ≠ (T b).2.1) (ha : gB G ≤ a ∧ a < sz) (he : E a = .inr (ci, fs)) (hj : j < N) (hlink : Cond.fieldLink own idx rf (T j).2.1 (T j).2.2.1 ∈ tw) (hrf : (T j).1 = rf) (hfin : (T j).2.2.2 = false) (hpd : parseFieldDescriptor (T j).2.2.1 = some ty) (hn : narrow ty v = v) (hfit : fits ty v = true) (hlen : j < fs.length) (hd : decode cc pc = .ok (.putfield idx, 3)) (k : Wc p l e R s m args below meth c G Qf nL sz (uE E a (.inr (ci, fs.set j v))) lv (pc + 3) st cells slots) : Wc p l e R s m args below meth c G Qf nL sz E lv pc (v :: .ref a :: st) cells slots := by
  intro H locs ls hB hS hl
  have hK := X.2.2.2.2.2.2.2.1.1
  have hts := X.2.2.2.2.1
  have hap := va_apart (own := own) hts hin ty0 hty hnm hK hcl
  have h0 := hB.2 a ha.1 ha.2
  rw [he] at h0
  obtain ⟨r, h1, cell, q1, q2, q3, q4⟩ := h0
  have hr : r = (Cn, T, N) := Option.some.inj (h1.symm.trans hcl)
  subst hr
  obtain ⟨hSl, hfc, kC, hkC, hkind⟩ := hK.1 ci _ hcl
  obtain ⟨cf, kf, fi, f, hi, hsl⟩ := hSl j hj
  have hlay := hts _ (hin _ (u_in_lay hj))
  unfold u_lay at hlay
  rw [if_neg (by rw [hfin]; decide)] at hlay
  have hst := (u_facts hfc hkC (u_lays hts hin hj) hi).1
  have h6 := u_store hfc hkC hkind hlay hi hpd hn hfit
  refine W.putK X.1 X.2.1 (f := f) ⟨X.2.2.2.1, hts _ hlink, ⟨_, _, _, by rw [← hrf]; exact hi⟩, hst⟩ (by rw [q2]; exact h6) q1 q3 (by rw [hsl]; exact k2_hasslot (q4 j hj)) rfl rfl hd fun H' e1 e2 e3 => ?_
  rw [hsl] at e1 ⊢
  exact k H' _ ls (bw_set hB e2 e3 ⟨_, hcl, t_OB.to (V := updV (vp_V fs) j v) ⟨_, e1, q2, q3, t_set q4 hap hj v⟩ (fun i _ => vp_updV_set hlen v i)⟩) (hS.put e2 e3 ha.1) hl
theorem wc_putF (X : Cx p s m args meth c cc nL ret own G) (hin2 : meth.name = "<init>") {ci N idx j a : Nat} {T : u_T} {ty0 : Nat → FieldType} {Cn rf : String} {fs : List Value} {v : Value} {ty : FieldType} (hcl : vwCl[ci]? = some (Cn, T, N)) (hin : ∀ w ∈ u_ws Cn T N, w ∈ tw) (hty : ∀ k, k < N → parseFieldDescriptor (T k).2.2.1 = some (ty0 k)) (hnm : ∀ a, a < N → ∀ b, b < N → a ≠ b → (T a).2.1 ≠ (T b).2.1) (ha : gB G ≤ a ∧ a < sz) (he : E a = .inr (ci, fs)) (hj : j < N) (hlink : Cond.fieldLink own idx rf (T j).2.1 (T j).2.2.1 ∈ tw) (hrf : (T j).1 = rf) (hfin : (T j).2.2.2 = true) (hdecl : (T j).1 = own) (hpd : parseFieldDescriptor (T j).2.2.1 = some ty) (hn : narrow ty v = v) (hfit : fits ty v = true) (hlen : j < fs.length) (hd : decode cc pc = .ok (.putfield idx, 3)) (k : Wc p l e R s m args below meth c G Qf nL sz (uE E a (.inr (ci, fs.set j v))) lv (pc + 3) st cells slots) : Wc p l e R s m args below meth c G Qf nL sz E lv pc (v :: .ref a :: st) cells slots := by
  intro H locs ls hB hS hl
  have hK := X.2.2.2.2.2.2.2.1.1
  have hts := X.2.2.2.2.1
  have hown := X.2.2.2.1
  have hap := va_apart (own := own) hts hin ty0 hty hnm hK hcl
  have h0 := hB.2 a ha.1 ha.2
  rw [he] at h0
  obtain ⟨r, h1, cell, q1, q2, q3, q4⟩ := h0
  have hr : r = (Cn, T, N) := Option.some.inj (h1.symm.trans hcl)
  subst hr
  obtain ⟨hSl, hfc, kC, hkC, hkind⟩ := hK.1 ci _ hcl
  obtain ⟨cf, kf, fi, f, hi, hsl⟩ := hSl j hj
  have hlay := hts _ (hin _ (u_in_lay hj))
  unfold u_lay at hlay
  rw [if_pos hfin] at hlay
  have hst := (u_facts hfc hkC (u_lays hts hin hj) hi).1
  have hcf : m.cls = cf := by
    obtain ⟨_, _, c', _, _, _, -, -, hf', -, -, -, hown2, -⟩ := Cond.laysFinal_spec hlay
    have e1 : c' = cf := by have := hi.symm.trans hf'; simp at this; exact this.1.symm
    rw [hdecl] at hown2
    rw [← e1]; exact Option.some.inj (hown.symm.trans hown2)
  have h6 := u_fits hfc hkC hkind (Or.inr hlay) hi hpd hn hfit
  refine W.putFinK X.1 X.2.1 hown (hts _ hlink) (by rw [← hrf]; exact hi) hst hcf hin2 (by rw [q2]; exact h6) q1 q3 (by rw [hsl]; exact k2_hasslot (q4 j hj)) rfl rfl hd fun H' e1 e2 e3 => ?_
  rw [hsl] at e1 ⊢
  exact k H' _ ls (bw_set hB e2 e3 ⟨_, hcl, t_OB.to (V := updV (vp_V fs) j v) ⟨_, e1, q2, q3, t_set q4 hap hj v⟩ (fun i _ => vp_updV_set hlen v i)⟩) (hS.put e2 e3 ha.1) hl
theorem wc_aast (X : Cx p s m args meth c cc nL ret own G) {ci N t0 a v n : Nat} {T : u_T} {Cn : String} {vs : List Value} {f : Nat → Option Nat} {i : Int} (hcl : vwCl[ci]? = some (Cn, T, N)) (ht : (gT G)[t0]? = some (gC G t0, .object Cn)) (ha : gB G ≤ a ∧ a < sz) (he : E a = .inl (gC G t0, n, .inr (.inr (.inr (.inr f))))) (hv : gB G ≤ v ∧ v < sz) (hev : E v = .inr (ci, vs)) (hi : 0 ≤ i ∧ i < (n : Int)) (hn : n ≤ 1000000) (hd : decode cc pc = .ok (.aastore, 1)) (k : Wc p l e R s m args below meth c G Qf nL sz (uE E a (.inl (gC G t0, n, .inr (.inr (.inr (.inr (va_up f i.toNat (some v)))))))) lv (pc + 1) st cells slots) : Wc p l e R s m args below meth c G Qf nL sz E lv pc (.ref v :: iV i :: .ref a :: st) cells slots := by
  intro H locs ls hB hS hl
  have hK := X.2.2.2.2.2.2.2.1.1
  have hin : vp_in (Int32.ofInt i) n := i_in hi.1 hi.2 hn
  have hcn : (Int32.ofInt i).toNatClampNeg = i.toNat := i_clamp hi.1 (by omega)
  have hlt : (Int32.ofInt i).toNatClampNeg < n := Nat.not_le.mp fun q => hin (Or.inr q)
  have h0 : ¬ Int32.ofInt i < 0 := fun q => hin (Or.inl q)
  have hPa := hB.2 a ha.1 ha.2
  rw [he] at hPa
  have hPv := hB.2 v hv.1 hv.2
  rw [hev] at hPv
  obtain ⟨r', hr', cellV, g1, g2, g3, -⟩ := hPv
  have hcls := (hK.1 ci _ hcl).2
  obtain ⟨kA, comp, k1, k2, k3, -⟩ := (hK.2 t0 _ ht).2
  have hcomp : comp = (gD G).1 ci := Option.some.inj (k3.symm.trans hcls.1)
  subst hcomp
  obtain ⟨kC, hkC, -⟩ := hcls.2
  refine W.aast X.1 X.2.1 hPa (fun q h => by cases h) (fun h => by cases h) k1 k2 rfl hkC ⟨h0, by show _ < (arrV _ _ _).slots.size; rw [arrV_size]; exact hlt⟩ g1 (fun q h => by rw [g3] at h; cases h) (by rw [g2]; exact hkC) (by rw [g2]; exact va_assign hcls) rfl rfl hd fun H1 e1 z oq => ?_
  refine k H1 _ ls (bw_set hB z oq ?_) (hS.put z oq ha.1) hl
  show H1[a]? = some (vp_cell _ _)
  rw [e1, hcn]
  rw [vp_cell_q, vp_cell_q, arrV_store]
  congr 2
  funext q
  by_cases hq : q = i.toNat
  · subst hq
    simp [updV, va_up, va_rf]
  · simp [updV, va_up, hq]
theorem wc_iast (X : Cx p s m args meth c cc nL ret own G) {a n : Nat} {f : Nat → Int32} {i x : Int} (ha : gB G ≤ a ∧ a < sz) (he : E a = .inl (gC G 0, n, .inl f)) (hi : 0 ≤ i ∧ i < (n : Int)) (hn : n ≤ 1000000) (hd : decode cc pc = .ok (.iastore, 1)) (k : Wc p l e R s m args below meth c G Qf nL sz (uE E a (.inl (gC G 0, n, .inl (upd f i.toNat (Int32.ofInt x))))) lv (pc + 1) st cells slots) : Wc p l e R s m args below meth c G Qf nL sz E lv pc (iV x :: iV i :: .ref a :: st) cells slots := by
  intro H locs ls hB hS hl
  have hK := X.2.2.2.2.2.2.2.1.1
  have hin : vp_in (Int32.ofInt i) n := i_in hi.1 hi.2 hn
  have hcn : (Int32.ofInt i).toNatClampNeg = i.toNat := i_clamp hi.1 (by omega)
  have hPa := hB.2 a ha.1 ha.2
  rw [he] at hPa
  refine W.iast X.1 X.2.1 hPa ((hK.2 0 _ rfl).1 n (fun j => .int (f j))) (fun q => by cases q) (by show ¬ (Int32.ofInt i < 0 ∨ (arrV _ _ _).slots.size ≤ _); rw [arrV_size]; exact hin) rfl rfl hd fun H1 e1 z oq => ?_
  refine k H1 _ ls (bw_set hB z oq ?_) (hS.put z oq ha.1) hl
  show H1[a]? = some (vp_cell _ _)
  rw [e1, hcn]
  rw [vp_cell_i, vp_cell_i, arrV_store]
  congr 2
  funext q
  by_cases hq : q = i.toNat
  · subst hq
    simp [updV, upd]
  · simp [updV, upd, hq]
theorem bw_blind (G : GG) (sz : Nat) (E : Nat → va_E) (av : List Value) : FrameBlind (va_Pc av (fun U => Kn G U U.heap ∧ AO U ∧ Bw G sz E U.heap)) := fun a U g mk q => ⟨q.1, q.2.1.blind g mk a, q.2.2.1.moved (u := U) (U := U.calling g mk a) (Vm.Alike.refl U.vm), q.2.2.2⟩
theorem wc_init (X : Cx p s m args meth c cc nL ret own G) (hAO : AO s) {y : MethodName} {bytes : ByteArray} {maxL idx a sz2 mc ms : Nat} {rm : Room} {post : (Nat → va_E) → Prop} (hM : Met l y (Cond.code y bytes maxL none :: tw) rm (va_Pc [.ref a] (fun U => Kn G U U.heap ∧ AO U ∧ Bw G sz E U.heap)) (va_Qv (S := Nat → va_E) post (fun E2 t => Bw G sz2 E2 t.heap) (gA G)) mc ms (gA G)) (hco : Cond.code y bytes maxL none ∈ tw) (hlink : Cond.methodLink own idx y ∈ tw) (him : Cond.instanceMethod y ∈ tw) (hini : Cond.initialized y.cls ∈ tw) (hy : y.name = "<init>") (hd2 : y.cls ≠ "java/lang/invoke/MethodHandle" ∧ y.cls ≠ "java/lang/invoke/VarHandle" ∧ (parseMethodDescriptor y.desc).map (fun d => d.parameters.length) = some 0) (hrc : rm.cells = mc) (hrs : rm.slots = ms) (hR : rm.frames + 1 ≤ R.frames ∧ 8 + (maxL + 11) + rm.locals ≤ R.locals) (hw : (rest.map fun v => v.category).sum ≤ 8) (hc : cells + mc ≤ R.cells) (hs : slots + ms ≤ R.slots) (hd : decode cc pc = .ok (.invokespecial idx, 3)) (k : ∀ E2 : Nat → va_E, post E2 → Wc p l e R s m args below meth c G Qf nL sz2 E2 lv (pc + 3) rest (cells + mc) (slots + ms)) : Wc p l e R s m args below meth c G Qf nL sz E lv pc (.ref a :: rest) cells slots := by
  intro H locs ls hB hS hl
  refine va_callv (va_runI (As := []) (rest := rest) ⟨X.1, X.2.1, X.2.2.1, X.2.2.2.1, X.2.2.2.2.1⟩ hM (cwI 0 X.2.2.2.2.1 (gdI hco) rfl hrc hrs (X.2.2.2.2.1 _ hini) (X.2.2.2.2.1 _ hlink) (X.2.2.2.2.1 _ him) hy hd2 hR) ⟨bw_blind G sz E _, fun U hU hW => ⟨rfl, X.2.2.2.2.2.2.2.1.to hW hU hS, hAO.moved hW.alike, by rw [hU]; exact hB⟩⟩ rfl rfl hl.1 rfl (lv_room hw) hd ⟨hc, hs⟩) hS (fun q _ h => h) (fun q h => h) (fun u t H1 locs1 ht hvm hw1 hB1 hz1 hk1 hS1 => k u hw1 H1 locs1 ls (by rw [← ht]; exact hB1) hS1 hl)
theorem wc_vret (X : Cx p s m args meth c cc nL none own G) {post : (Nat → va_E) → Prop} (hq : post E) (hd : decode cc pc = .ok (.return_, 1)) : Wc p l e R s m args below meth c G (MQ below (va_Qv (S := Nat → va_E) post (fun E2 t => Bw G sz E2 t.heap) (gA G)) args s cells slots (gA G)) nL sz E lv pc [] cells slots := fun H locs ls hB hS hl => W.vret X.1 X.2.1 X.2.2.2.2.2.1 (fun t ht hW => ⟨⟨E, rfl, hq, by subst ht; exact hB⟩, hS.F ht⟩) hS.2.2 hd X.2.2.2.2.2.2.1
end CROWS
/-- a constructor's contract out of a walk -/
theorem cmet_of {l : Launch} {y : MethodName} {bytes : ByteArray} {maxL a sz mc ms : Nat} {rm : Room} {G : GG} {E : Nat → va_E} {Qc : Array Value → State → Outcome → State → Prop} {own : String} (hy : plainName y.cls = true) (hi : y.name = "<init>") (ho : y.cls = own) (hG : Gd G) (hav : 1 ≤ maxL)
    (body : ∀ (p : Program) (e : Env) (s : State) (m : MethodId) (below : List Frame) (meth : Method) (c : Code), Cx p s m [Value.ref a].toArray meth c bytes maxL none own G → AO s → meth.name = "<init>" → Wc p l e rm s m [Value.ref a].toArray below meth c G (MQ below Qc [Value.ref a].toArray s mc ms (gA G)) maxL sz E [(0, .ref a)] 0 [] 0 0) :
    Met l y (Cond.code y bytes maxL none :: tw) rm (va_Pc [.ref a] (fun U => Kn G U U.heap ∧ AO U ∧ Bw G sz E U.heap)) Qc mc ms (gA G) := by
  refine Met.ofW (cc := bytes) (maxL := maxL) (ret := none) hy rfl ?_
  intro p e s m args below meth c s₁ B hml hv
  obtain ⟨rfl, hKn, hAO, hB⟩ := hv
  have hts := atoms_spec (ws := Cond.code y bytes maxL none :: tw) B.pre
  have hown : s.vm.findClass own = some m.cls := by rw [← ho]; exact findClass_of_methodNamed B.named
  have X : Cx p s m [Value.ref a].toArray meth c bytes maxL none own G := ⟨B.exec, B.bytes, hml, hown, fun w h => hts w (List.mem_cons_of_mem _ h), B.returns, B.notSynchronized, hKn, hG⟩
  have hl := lv_entry [Value.ref a] (n := maxL) hav
  rw [lg_entry_eq]
  exact body p e s m below meth c X hAO (by rw [← hi]; exact (name_of_methodNamed B.named B.method).1) s.heap [] _ hB va_S.rf hl
