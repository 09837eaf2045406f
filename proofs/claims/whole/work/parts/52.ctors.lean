section CT1
variable {p : Program} {l : Launch} {e : Env} {R : Room} {s : State} {m : MethodId} {args : Array Value} {below : List Frame} {meth : Method} {c : Code} {G : GG} {Qf : State → Prop} {nL sz : Nat} {E : Nat → va_E} {lv lv2 : List (Nat × Value)} {pc : Nat} {st rest : List Value} {cc : ByteArray} {ret : Option FieldType} {own : String} {cells slots : Nat}
theorem wc_fI (X : Cx p s m args meth c cc nL ret own G) (hin2 : meth.name = "<init>") {n : Int} {N idx j ci NC a h : Nat} {T : u_T} {ty0 : Nat → FieldType} {Cn rf : String} {fs : List Value} {ty : FieldType} {E0 : Nat → va_E} (hn : n = (N : Int)) (hN : N ≤ 100000) (hc : cells + 1 ≤ R.cells) (hs : slots + N ≤ R.slots) (hcl : vwCl[ci]? = some (Cn, T, NC)) (hin : ∀ w ∈ u_ws Cn T NC, w ∈ tw) (hty : ∀ k, k < NC → parseFieldDescriptor (T k).2.2.1 = some (ty0 k)) (hnm : ∀ a, a < NC → ∀ b, b < NC → a ≠ b → (T a).2.1 ≠ (T b).2.1) (ha : gB G ≤ a ∧ a < sz) (he : E a = .inr (ci, fs)) (hJ : Jn G E0 E a h sz) (hk : sz ≠ h → gF G (M0 G) sz = .inl (gC G 0, N, .inl (fun _ => 0))) (hj : j < NC) (hlink : Cond.fieldLink own idx rf (T j).2.1 (T j).2.2.1 ∈ tw) (hrf : (T j).1 = rf) (hfin : (T j).2.2.2 = true) (hdecl : (T j).1 = own) (hpd : parseFieldDescriptor (T j).2.2.1 = some ty) (hnr : ∀ v : Nat, narrow ty (.ref v) = .ref v) (hft : ∀ v : Nat, fits ty (.ref v) = true) (hlen : j < fs.length) (hd1 : decode cc pc = .ok (.newarray .int, 2)) (hd2 : decode cc (pc + 2) = .ok (.putfield idx, 3))
    (k : ∀ E2 : Nat → va_E, Jn G E0 E2 a h (sz + 1) → E2 a = .inr (ci, fs.set j (.ref sz)) → E2 sz = .inl (gC G 0, N, .inl (fun _ => 0)) → (∀ q, q ≠ a → q ≠ sz → E2 q = E q) → Wc p l e R s m args below meth c G Qf nL (sz + 1) E2 lv (pc + 5) st (cells + 1) (slots + N)) : Wc p l e R s m args below meth c G Qf nL sz E lv pc (iV n :: .ref a :: st) cells slots := by
  refine wc_newI X hn hN hc hs hd1 ?_
  refine wc_putF X hin2 hcl hin hty hnm ⟨ha.1, by omega⟩ (by rw [uE_n _ _ (by omega)]; exact he) hj hlink hrf hfin hdecl hpd (hnr _) (hft _) hlen hd2 ?_
  refine k _ ⟨fun q hq => ?_, fun q h1 h2 h3 => ?_⟩ (uE_s _ _ _) ?_ (fun q h1 h2 => ?_)
  · rw [uE_n _ _ (by omega), uE_n _ _ (by omega)]; exact hJ.1 q hq
  · rw [uE_n _ _ (by omega)]
    by_cases hq : q = sz
    · subst hq
      rw [uE_s]; exact (hk h3).symm
    · rw [uE_n _ _ hq]; exact hJ.2 q h1 (by omega) h3
  · rw [uE_n _ _ (by omega), uE_s]
  · rw [uE_n _ _ h1, uE_n _ _ h2]
theorem wc_fZ (X : Cx p s m args meth c cc nL ret own G) (hin2 : meth.name = "<init>") {n : Int} {N idx j ci NC a h : Nat} {T : u_T} {ty0 : Nat → FieldType} {Cn rf : String} {fs : List Value} {ty : FieldType} {E0 : Nat → va_E} (hn : n = (N : Int)) (hN : N ≤ 100000) (hc : cells + 1 ≤ R.cells) (hs : slots + N ≤ R.slots) (hcl : vwCl[ci]? = some (Cn, T, NC)) (hin : ∀ w ∈ u_ws Cn T NC, w ∈ tw) (hty : ∀ k, k < NC → parseFieldDescriptor (T k).2.2.1 = some (ty0 k)) (hnm : ∀ a, a < NC → ∀ b, b < NC → a ≠ b → (T a).2.1 ≠ (T b).2.1) (ha : gB G ≤ a ∧ a < sz) (he : E a = .inr (ci, fs)) (hJ : Jn G E0 E a h sz) (hk : sz ≠ h → gF G (M0 G) sz = .inl (gC G 1, N, .inl (fun _ => 0))) (hj : j < NC) (hlink : Cond.fieldLink own idx rf (T j).2.1 (T j).2.2.1 ∈ tw) (hrf : (T j).1 = rf) (hfin : (T j).2.2.2 = true) (hdecl : (T j).1 = own) (hpd : parseFieldDescriptor (T j).2.2.1 = some ty) (hnr : ∀ v : Nat, narrow ty (.ref v) = .ref v) (hft : ∀ v : Nat, fits ty (.ref v) = true) (hlen : j < fs.length) (hd1 : decode cc pc = .ok (.newarray .boolean, 2)) (hd2 : decode cc (pc + 2) = .ok (.putfield idx, 3))
    (k : ∀ E2 : Nat → va_E, Jn G E0 E2 a h (sz + 1) → E2 a = .inr (ci, fs.set j (.ref sz)) → E2 sz = .inl (gC G 1, N, .inl (fun _ => 0)) → (∀ q, q ≠ a → q ≠ sz → E2 q = E q) → Wc p l e R s m args below meth c G Qf nL (sz + 1) E2 lv (pc + 5) st (cells + 1) (slots + N)) : Wc p l e R s m args below meth c G Qf nL sz E lv pc (iV n :: .ref a :: st) cells slots := by
  refine wc_newZ X hn hN hc hs hd1 ?_
  refine wc_putF X hin2 hcl hin hty hnm ⟨ha.1, by omega⟩ (by rw [uE_n _ _ (by omega)]; exact he) hj hlink hrf hfin hdecl hpd (hnr _) (hft _) hlen hd2 ?_
  refine k _ ⟨fun q hq => ?_, fun q h1 h2 h3 => ?_⟩ (uE_s _ _ _) ?_ (fun q h1 h2 => ?_)
  · rw [uE_n _ _ (by omega), uE_n _ _ (by omega)]; exact hJ.1 q hq
  · rw [uE_n _ _ (by omega)]
    by_cases hq : q = sz
    · subst hq
      rw [uE_s]; exact (hk h3).symm
    · rw [uE_n _ _ hq]; exact hJ.2 q h1 (by omega) h3
  · rw [uE_n _ _ (by omega), uE_s]
  · rw [uE_n _ _ h1, uE_n _ _ h2]
/-- an object made and set up -/
theorem wc_mk (X : Cx p s m args meth c cc nL ret own G) (hAO : AO s) {ci N idx idx2 maxL sz2 mc ms : Nat} {T : u_T} {ty0 : Nat → FieldType} {Cn : String} {fs : List Value} {y : MethodName} {bytes : ByteArray} {rm : Room} (hcl : vwCl[ci]? = some (Cn, T, N)) (hin : ∀ w ∈ u_ws Cn T N, w ∈ tw) (hty : ∀ k, k < N → parseFieldDescriptor (T k).2.2.1 = some (ty0 k)) (hlink : Cond.classLink own idx Cn ∈ tw) (hins : Cond.instantiable Cn N ∈ tw) (hini : Cond.initialized Cn ∈ tw) (hfs : ∀ j, j < N → defaultValue (ty0 j) = vp_V fs j)
    (hM : ∀ E1 : Nat → va_E, E1 sz = .inr (ci, fs) → Met l y (Cond.code y bytes maxL none :: tw) rm (va_Pc [.ref sz] (fun U => Kn G U U.heap ∧ AO U ∧ Bw G (sz + 1) E1 U.heap)) (va_Qv (S := Nat → va_E) (fun E2 => (∀ q, q < sz → E2 q = E1 q) ∧ Ok G E2 sz sz2) (fun E2 t => Bw G sz2 E2 t.heap) (gA G)) mc ms (gA G)) (hco : Cond.code y bytes maxL none ∈ tw) (hlink2 : Cond.methodLink own idx2 y ∈ tw) (him : Cond.instanceMethod y ∈ tw) (hyc : y.cls = Cn) (hy : y.name = "<init>") (hd2 : y.cls ≠ "java/lang/invoke/MethodHandle" ∧ y.cls ≠ "java/lang/invoke/VarHandle" ∧ (parseMethodDescriptor y.desc).map (fun d => d.parameters.length) = some 0) (hrc : rm.cells = mc) (hrs : rm.slots = ms) (hR : rm.frames + 1 ≤ R.frames ∧ 8 + (maxL + 11) + rm.locals ≤ R.locals) (hw : ((Value.ref sz :: st).map fun v => v.category).sum ≤ 8) (hc : cells + 1 + mc ≤ R.cells) (hs : slots + N + ms ≤ R.slots) (hde1 : decode cc pc = .ok (.new idx, 3)) (hde2 : decode cc (pc + 3) = .ok (.dup, 1)) (hde3 : decode cc (pc + 4) = .ok (.invokespecial idx2, 3))
    (k : ∀ E2 : Nat → va_E, (∀ q, q < sz → E2 q = E q) → Ok G E2 sz sz2 → Wc p l e R s m args below meth c G Qf nL sz2 E2 lv (pc + 7) (.ref sz :: st) (cells + 1 + mc) (slots + N + ms)) : Wc p l e R s m args below meth c G Qf nL sz E lv pc st cells slots := by
  refine wc_new X hcl hin hty hlink hins hini hfs (by omega) (by omega) hde1 ?_
  refine wc_dup X hde2 ?_
  refine wc_init X hAO (hM _ (uE_s _ _ _)) hco hlink2 him (by rw [hyc]; exact hini) hy hd2 hrc hrs hR hw hc hs hde3 (fun E2 h2 => k E2 (fun q hq => ?_) h2.2)
  rw [h2.1 q hq, uE_n _ _ (by omega)]
theorem jn_0 {E0 : Nat → va_E} {a h : Nat} : Jn G E0 E0 a h (a + 1) := ⟨fun _ _ => rfl, fun q h1 h2 => by omega⟩
theorem jn_put {E0 E2 : Nat → va_E} {a h sz2 : Nat} {x : va_E} (hJ : Jn G E0 E a h sz) (hE : ∀ q, q < sz → E2 q = E q) (hO : Ok G E2 sz sz2) (ha : a < sz) : Jn G E0 (uE E2 a x) a h sz2 := by
  refine ⟨fun q hq => ?_, fun q h1 h2 h3 => ?_⟩
  · rw [uE_n _ _ (by omega), hE q (by omega)]; exact hJ.1 q hq
  · rw [uE_n _ _ (by omega)]
    by_cases hq : q < sz
    · rw [hE q hq]; exact hJ.2 q h1 hq h3
    · exact hO q (by omega) h2

theorem wc_fN (X : Cx p s m args meth c cc nL ret own G) (hAO : AO s) (hin2 : meth.name = "<init>") {ci N idx idx2 maxL sz2 mc ms : Nat} {T : u_T} {ty0 : Nat → FieldType} {Cn : String} {fs : List Value} {y : MethodName} {bytes : ByteArray} {rm : Room} {ci2 N2 idx3 j a h : Nat} {T2 : u_T} {ty2 : Nat → FieldType} {Cn2 rf : String} {fs2 : List Value} {ty : FieldType} {E0 : Nat → va_E} (hcl : vwCl[ci]? = some (Cn, T, N)) (hin : ∀ w ∈ u_ws Cn T N, w ∈ tw) (hty : ∀ k, k < N → parseFieldDescriptor (T k).2.2.1 = some (ty0 k)) (hlink : Cond.classLink own idx Cn ∈ tw) (hins : Cond.instantiable Cn N ∈ tw) (hini : Cond.initialized Cn ∈ tw) (hfs : ∀ j, j < N → defaultValue (ty0 j) = vp_V fs j)
    (hM : ∀ E1 : Nat → va_E, E1 sz = .inr (ci, fs) → Met l y (Cond.code y bytes maxL none :: tw) rm (va_Pc [.ref sz] (fun U => Kn G U U.heap ∧ AO U ∧ Bw G (sz + 1) E1 U.heap)) (va_Qv (S := Nat → va_E) (fun E2 => (∀ q, q < sz → E2 q = E1 q) ∧ Ok G E2 sz sz2) (fun E2 t => Bw G sz2 E2 t.heap) (gA G)) mc ms (gA G)) (hco : Cond.code y bytes maxL none ∈ tw) (hlink2 : Cond.methodLink own idx2 y ∈ tw) (him : Cond.instanceMethod y ∈ tw) (hyc : y.cls = Cn) (hy : y.name = "<init>") (hd2 : y.cls ≠ "java/lang/invoke/MethodHandle" ∧ y.cls ≠ "java/lang/invoke/VarHandle" ∧ (parseMethodDescriptor y.desc).map (fun d => d.parameters.length) = some 0) (hrc : rm.cells = mc) (hrs : rm.slots = ms) (hR : rm.frames + 1 ≤ R.frames ∧ 8 + (maxL + 11) + rm.locals ≤ R.locals) (hw : ((Value.ref sz :: .ref a :: st).map fun v => v.category).sum ≤ 8) (hc : cells + 1 + mc ≤ R.cells) (hs : slots + N + ms ≤ R.slots) (hde1 : decode cc pc = .ok (.new idx, 3)) (hde2 : decode cc (pc + 3) = .ok (.dup, 1)) (hde3 : decode cc (pc + 4) = .ok (.invokespecial idx2, 3))
    (hcl2 : vwCl[ci2]? = some (Cn2, T2, N2)) (hin3 : ∀ w ∈ u_ws Cn2 T2 N2, w ∈ tw) (hty2 : ∀ k, k < N2 → parseFieldDescriptor (T2 k).2.2.1 = some (ty2 k)) (hnm2 : ∀ a, a < N2 → ∀ b, b < N2 → a ≠ b → (T2 a).2.1 ≠ (T2 b).2.1) (ha : gB G ≤ a ∧ a < sz) (hsz : sz < sz2) (he : E a = .inr (ci2, fs2)) (hJ : Jn G E0 E a h sz) (hj : j < N2) (hlink3 : Cond.fieldLink own idx3 rf (T2 j).2.1 (T2 j).2.2.1 ∈ tw) (hrf : (T2 j).1 = rf) (hfin : (T2 j).2.2.2 = true) (hdecl : (T2 j).1 = own) (hpd : parseFieldDescriptor (T2 j).2.2.1 = some ty) (hnr : ∀ v : Nat, narrow ty (.ref v) = .ref v) (hft : ∀ v : Nat, fits ty (.ref v) = true) (hlen : j < fs2.length) (hde4 : decode cc (pc + 7) = .ok (.putfield idx3, 3))
    (k : ∀ E2 : Nat → va_E, Jn G E0 E2 a h sz2 → E2 a = .inr (ci2, fs2.set j (.ref sz)) → (∀ q, q < sz → q ≠ a → E2 q = E q) → Wc p l e R s m args below meth c G Qf nL sz2 E2 lv (pc + 10) st (cells + 1 + mc) (slots + N + ms)) : Wc p l e R s m args below meth c G Qf nL sz E lv pc (.ref a :: st) cells slots := by
  refine wc_mk X hAO hcl hin hty hlink hins hini hfs hM hco hlink2 him hyc hy hd2 hrc hrs hR hw hc hs hde1 hde2 hde3 (fun F hF hO => ?_)
  refine wc_putF X hin2 hcl2 hin3 hty2 hnm2 ⟨ha.1, by omega⟩ (by rw [hF a ha.2]; exact he) hj hlink3 hrf hfin hdecl hpd (hnr _) (hft _) hlen hde4 ?_
  exact k _ (jn_put hJ hF hO ha.2) (uE_s _ _ _) (fun q h1 h2 => by rw [uE_n _ _ h2, hF q h1])
theorem wc_fM (X : Cx p s m args meth c cc nL ret own G) (hAO : AO s) (hin2 : meth.name = "<init>") {ci N idx idx2 maxL sz2 mc ms : Nat} {T : u_T} {ty0 : Nat → FieldType} {Cn : String} {fs : List Value} {y : MethodName} {bytes : ByteArray} {rm : Room} {ci2 N2 idx3 j a h : Nat} {T2 : u_T} {ty2 : Nat → FieldType} {Cn2 rf : String} {fs2 : List Value} {ty : FieldType} {E0 : Nat → va_E} (hcl : vwCl[ci]? = some (Cn, T, N)) (hin : ∀ w ∈ u_ws Cn T N, w ∈ tw) (hty : ∀ k, k < N → parseFieldDescriptor (T k).2.2.1 = some (ty0 k)) (hlink : Cond.classLink own idx Cn ∈ tw) (hins : Cond.instantiable Cn N ∈ tw) (hini : Cond.initialized Cn ∈ tw) (hfs : ∀ j, j < N → defaultValue (ty0 j) = vp_V fs j)
    (hM : ∀ E1 : Nat → va_E, E1 sz = .inr (ci, fs) → Met l y (Cond.code y bytes maxL none :: tw) rm (va_Pc [.ref sz] (fun U => Kn G U U.heap ∧ AO U ∧ Bw G (sz + 1) E1 U.heap)) (va_Qv (S := Nat → va_E) (fun E2 => (∀ q, q < sz → E2 q = E1 q) ∧ Ok G E2 sz sz2) (fun E2 t => Bw G sz2 E2 t.heap) (gA G)) mc ms (gA G)) (hco : Cond.code y bytes maxL none ∈ tw) (hlink2 : Cond.methodLink own idx2 y ∈ tw) (him : Cond.instanceMethod y ∈ tw) (hyc : y.cls = Cn) (hy : y.name = "<init>") (hd2 : y.cls ≠ "java/lang/invoke/MethodHandle" ∧ y.cls ≠ "java/lang/invoke/VarHandle" ∧ (parseMethodDescriptor y.desc).map (fun d => d.parameters.length) = some 0) (hrc : rm.cells = mc) (hrs : rm.slots = ms) (hR : rm.frames + 1 ≤ R.frames ∧ 8 + (maxL + 11) + rm.locals ≤ R.locals) (hw : ((Value.ref sz :: .ref a :: st).map fun v => v.category).sum ≤ 8) (hc : cells + 1 + mc ≤ R.cells) (hs : slots + N + ms ≤ R.slots) (hde1 : decode cc pc = .ok (.new idx, 3)) (hde2 : decode cc (pc + 3) = .ok (.dup, 1)) (hde3 : decode cc (pc + 4) = .ok (.invokespecial idx2, 3))
    (hcl2 : vwCl[ci2]? = some (Cn2, T2, N2)) (hin3 : ∀ w ∈ u_ws Cn2 T2 N2, w ∈ tw) (hty2 : ∀ k, k < N2 → parseFieldDescriptor (T2 k).2.2.1 = some (ty2 k)) (hnm2 : ∀ a, a < N2 → ∀ b, b < N2 → a ≠ b → (T2 a).2.1 ≠ (T2 b).2.1) (ha : gB G ≤ a ∧ a < sz) (hsz : sz < sz2) (he : E a = .inr (ci2, fs2)) (hJ : Jn G E0 E a h sz) (hj : j < N2) (hlink3 : Cond.fieldLink own idx3 rf (T2 j).2.1 (T2 j).2.2.1 ∈ tw) (hrf : (T2 j).1 = rf) (hfin : (T2 j).2.2.2 = false) (hpd : parseFieldDescriptor (T2 j).2.2.1 = some ty) (hnr : ∀ v : Nat, narrow ty (.ref v) = .ref v) (hft : ∀ v : Nat, fits ty (.ref v) = true) (hlen : j < fs2.length) (hde4 : decode cc (pc + 7) = .ok (.putfield idx3, 3))
    (k : ∀ E2 : Nat → va_E, Jn G E0 E2 a h sz2 → E2 a = .inr (ci2, fs2.set j (.ref sz)) → (∀ q, q < sz → q ≠ a → E2 q = E q) → Wc p l e R s m args below meth c G Qf nL sz2 E2 lv (pc + 10) st (cells + 1 + mc) (slots + N + ms)) : Wc p l e R s m args below meth c G Qf nL sz E lv pc (.ref a :: st) cells slots := by
  refine wc_mk X hAO hcl hin hty hlink hins hini hfs hM hco hlink2 him hyc hy hd2 hrc hrs hR hw hc hs hde1 hde2 hde3 (fun F hF hO => ?_)
  refine wc_put X hcl2 hin3 hty2 hnm2 ⟨ha.1, by omega⟩ (by rw [hF a ha.2]; exact he) hj hlink3 hrf hfin hpd (hnr _) (hft _) hlen hde4 ?_
  exact k _ (jn_put hJ hF hO ha.2) (uE_s _ _ _) (fun q h1 h2 => by rw [uE_n _ _ h2, hF q h1])
theorem jn_ok {E0 : Nat → va_E} {a : Nat} (hJ : Jn G E0 E a a sz) (hE : E a = gF G (M0 G) a) : (∀ q, q < a → E q = E0 q) ∧ Ok G E a sz := by
  refine ⟨hJ.1, fun q h1 h2 => ?_⟩
  by_cases hq : q = a
  · rw [hq]; exact hE
  · exact hJ.2 q (by omega) h2 hq
end CT1
set_option maxHeartbeats 4000000 in
theorem ctX0_init {l : Launch} {G : GG} (hG : Gd G) {a : Nat} {E : Nat → va_E} (ha : gB G ≤ a) (hb : a + 1 ≤ gB G + 168) (hk : gK G (a : Int) = (0, 0)) (he : E a = .inr (0, [.int 0, .int 0, .int 0, .int 0, .int 0])) : Met l yX0_init (Cond.code yX0_init cX0_init 1 none :: tw) ({ frames := 1, cells := 0, slots := 0, locals := 12 } : Room) (va_Pc [.ref a] (fun U => Kn G U U.heap ∧ AO U ∧ Bw G (a + 1) E U.heap)) (va_Qv (S := Nat → va_E) (fun E2 => (∀ q, q < a → E2 q = E q) ∧ Ok G E2 a (a + 1)) (fun E2 t => Bw G (a + 1) E2 t.heap) (gA G)) 0 0 (gA G) := by
  refine cmet_of (own := RX0) (by decide +kernel) rfl rfl hG (by decide) (fun p e s m below meth c X hAO hin => ?_)
  refine wc_al X dX0_init_0 rfl 0 rfl ?_
  refine wc_obj X mlX0_1 dX0_init_1 (by decide) (by decide) ?_
  exact wc_vret X (jn_ok (jn_0 (h := a)) (by rw [gf0 hk (by omega)]; exact he)) dX0_init_4
set_option maxHeartbeats 4000000 in
theorem ctX5_init {l : Launch} {G : GG} (hG : Gd G) {a : Nat} {E : Nat → va_E} (ha : gB G ≤ a) (hb : a + 2 ≤ gB G + 168) (hk : gK G (a : Int) = (5, 0)) (he : E a = .inr (5, [.null, .int 0, .int 0, .int 0, .int 0, .int 0, .int 0, .int 0, .int 0])) : Met l yX5_init (Cond.code yX5_init cX5_init 1 none :: tw) ({ frames := 1, cells := 1, slots := 150, locals := 12 } : Room) (va_Pc [.ref a] (fun U => Kn G U U.heap ∧ AO U ∧ Bw G (a + 1) E U.heap)) (va_Qv (S := Nat → va_E) (fun E2 => (∀ q, q < a → E2 q = E q) ∧ Ok G E2 a (a + 2)) (fun E2 t => Bw G (a + 2) E2 t.heap) (gA G)) 1 150 (gA G) := by
  refine cmet_of (own := RX5) (by decide +kernel) rfl rfl hG (by decide) (fun p e s m below meth c X hAO hin => ?_)
  refine wc_al X dX5_init_0 rfl 0 rfl ?_
  refine wc_obj X mlX5_3 dX5_init_1 (by decide) (by decide) ?_
  have hT1 := (hG.2.2 (a : Int)).2.2.2.2.1 hk
  refine wc_al X dX5_init_4 rfl 0 rfl ?_
  refine wc_si X dX5_init_5 rfl ?_
  refine wc_fI X hin (ci := 5) (Cn := RX5) (T := TX5) (NC := 9) (j := 0) (rf := "ElasticTabs$Script") (ty0 := tyX5) (ty := .array .int) (a := a) (h := a) (N := 150) (E0 := E) rfl (by decide) (by decide) (by decide) rfl inX5 tyX5_ok nmX5 ⟨ha, by omega⟩ he jn_0 (fun _ => gf8 (kc (i := 1) hT1) (by omega)) (by decide) flX5_9 rfl rfl rfl (by decide +kernel) (fun _ => rfl) (fun _ => rfl) (Nat.le_of_ble_eq_true rfl) dX5_init_8 dX5_init_10 (fun E1 J1 A1 S1 O1 => ?_)
  exact wc_vret X (jn_ok J1 (by rw [gf5 hk (by omega)]; exact A1)) dX5_init_13
set_option maxHeartbeats 4000000 in
theorem ctX3_init {l : Launch} {G : GG} (hG : Gd G) {a : Nat} {E : Nat → va_E} (ha : gB G ≤ a) (hb : a + 4 ≤ gB G + 168) (hk : gK G (a : Int) = (3, 0)) (he : E a = .inr (3, [.int 0, .int 0, .int 0, .null, .null, .null])) : Met l yX3_init (Cond.code yX3_init cX3_init 1 none :: tw) ({ frames := 1, cells := 3, slots := 324, locals := 12 } : Room) (va_Pc [.ref a] (fun U => Kn G U U.heap ∧ AO U ∧ Bw G (a + 1) E U.heap)) (va_Qv (S := Nat → va_E) (fun E2 => (∀ q, q < a → E2 q = E q) ∧ Ok G E2 a (a + 4)) (fun E2 t => Bw G (a + 4) E2 t.heap) (gA G)) 3 324 (gA G) := by
  refine cmet_of (own := RX3) (by decide +kernel) rfl rfl hG (by decide) (fun p e s m below meth c X hAO hin => ?_)
  refine wc_al X dX3_init_0 rfl 0 rfl ?_
  refine wc_obj X mlX3_3 dX3_init_1 (by decide) (by decide) ?_
  obtain ⟨hT1, hT2, hT3⟩ := (hG.2.2 (a : Int)).2.2.1 hk
  refine wc_al X dX3_init_4 rfl 0 rfl ?_
  refine wc_ic X dX3_init_5 ?_
  refine wc_put X (ci := 3) (Cn := RX3) (T := TX3) (N := 6) (j := 1) (rf := "ElasticTabs$Page") (ty0 := tyX3) (ty := .int) rfl inX3 tyX3_ok nmX3 ⟨ha, by omega⟩ he (by decide) flX3_9 rfl rfl (by decide +kernel) rfl rfl (Nat.le_of_ble_eq_true rfl) dX3_init_6 ?_
  have J0 : Jn G E (uE E a (.inr (3, List.set [.int 0, .int 0, .int 0, .null, .null, .null] 1 (iV 1)))) a a (a + 1) := ⟨fun q hq => uE_n _ _ (by omega), fun q h1 h2 => by omega⟩
  refine wc_al X dX3_init_9 rfl 0 rfl ?_
  refine wc_bi X dX3_init_10 rfl ?_
  refine wc_fI X hin (ci := 3) (Cn := RX3) (T := TX3) (NC := 6) (j := 3) (rf := "ElasticTabs$Page") (ty0 := tyX3) (ty := .array .int) (a := a) (h := a) (N := 12) (E0 := E) rfl (by decide) (by decide) (by decide) rfl inX3 tyX3_ok nmX3 ⟨ha, by omega⟩ (uE_s _ _ _) J0 (fun _ => gf8 (kc (i := 1) hT1) (by omega)) (by decide) flX3_15 rfl rfl rfl (by decide +kernel) (fun _ => rfl) (fun _ => rfl) (Nat.le_of_ble_eq_true rfl) dX3_init_12 dX3_init_14 (fun E1 J1 A1 S1 O1 => ?_)
  refine wc_al X dX3_init_17 rfl 0 rfl ?_
  refine wc_si X dX3_init_18 rfl ?_
  refine wc_fI X hin (ci := 3) (Cn := RX3) (T := TX3) (NC := 6) (j := 4) (rf := "ElasticTabs$Page") (ty0 := tyX3) (ty := .array .int) (a := a) (h := a) (N := 288) (E0 := E) rfl (by decide) (by decide) (by decide) rfl inX3 tyX3_ok nmX3 ⟨ha, by omega⟩ A1 J1 (fun _ => gf8 (kc (i := 2) hT2) (by omega)) (by decide) flX3_19 rfl rfl rfl (by decide +kernel) (fun _ => rfl) (fun _ => rfl) (Nat.le_of_ble_eq_true rfl) dX3_init_21 dX3_init_23 (fun E2 J2 A2 S2 O2 => ?_)
  refine wc_al X dX3_init_26 rfl 0 rfl ?_
  refine wc_bi X dX3_init_27 rfl ?_
  refine wc_fI X hin (ci := 3) (Cn := RX3) (T := TX3) (NC := 6) (j := 5) (rf := "ElasticTabs$Page") (ty0 := tyX3) (ty := .array .int) (a := a) (h := a) (N := 24) (E0 := E) rfl (by decide) (by decide) (by decide) rfl inX3 tyX3_ok nmX3 ⟨ha, by omega⟩ A2 J2 (fun _ => gf8 (kc (i := 3) hT3) (by omega)) (by decide) flX3_22 rfl rfl rfl (by decide +kernel) (fun _ => rfl) (fun _ => rfl) (Nat.le_of_ble_eq_true rfl) dX3_init_29 dX3_init_31 (fun E3 J3 A3 S3 O3 => ?_)
  exact wc_vret X (jn_ok J3 (by rw [gf3 hk (by omega)]; exact A3)) dX3_init_34
set_option maxHeartbeats 4000000 in
theorem ctX2_init {l : Launch} {G : GG} (hG : Gd G) {a : Nat} {E : Nat → va_E} (ha : gB G ≤ a) (hb : a + 12 ≤ gB G + 168) (hk : gK G (a : Int) = (2, 0)) (he : E a = .inr (2, [.int 0, .null, .null, .null, .null, .null, .null, .null, .int 0, .null, .null, .null, .null])) : Met l yX2_init (Cond.code yX2_init cX2_init 1 none :: tw) ({ frames := 2, cells := 11, slots := 1781, locals := 32 } : Room) (va_Pc [.ref a] (fun U => Kn G U U.heap ∧ AO U ∧ Bw G (a + 1) E U.heap)) (va_Qv (S := Nat → va_E) (fun E2 => (∀ q, q < a → E2 q = E q) ∧ Ok G E2 a (a + 12)) (fun E2 t => Bw G (a + 12) E2 t.heap) (gA G)) 11 1781 (gA G) := by
  refine cmet_of (own := RX2) (by decide +kernel) rfl rfl hG (by decide) (fun p e s m below meth c X hAO hin => ?_)
  refine wc_al X dX2_init_0 rfl 0 rfl ?_
  refine wc_obj X mlX2_3 dX2_init_1 (by decide) (by decide) ?_
  obtain ⟨hT1, hT2, hT3, hT4, hT5, hT6, hT7, hT8, hT9, hT10, hT11⟩ := (hG.2.2 (a : Int)).2.1 hk
  refine wc_al X dX2_init_4 rfl 0 rfl ?_
  refine wc_bi X dX2_init_5 rfl ?_
  refine wc_fI X hin (ci := 2) (Cn := RX2) (T := TX2) (NC := 13) (j := 1) (rf := "ElasticTabs$Layout") (ty0 := tyX2) (ty := .array .int) (a := a) (h := a) (N := 12) (E0 := E) rfl (by decide) (by decide) (by decide) rfl inX2 tyX2_ok nmX2 ⟨ha, by omega⟩ he jn_0 (fun _ => gf8 (kc (i := 1) hT1) (by omega)) (by decide) flX2_9 rfl rfl rfl (by decide +kernel) (fun _ => rfl) (fun _ => rfl) (Nat.le_of_ble_eq_true rfl) dX2_init_7 dX2_init_9 (fun E1 J1 A1 S1 O1 => ?_)
  refine wc_al X dX2_init_12 rfl 0 rfl ?_
  refine wc_bi X dX2_init_13 rfl ?_
  refine wc_fI X hin (ci := 2) (Cn := RX2) (T := TX2) (NC := 13) (j := 2) (rf := "ElasticTabs$Layout") (ty0 := tyX2) (ty := .array .int) (a := a) (h := a) (N := 12) (E0 := E) rfl (by decide) (by decide) (by decide) rfl inX2 tyX2_ok nmX2 ⟨ha, by omega⟩ A1 J1 (fun _ => gf8 (kc (i := 2) hT2) (by omega)) (by decide) flX2_15 rfl rfl rfl (by decide +kernel) (fun _ => rfl) (fun _ => rfl) (Nat.le_of_ble_eq_true rfl) dX2_init_15 dX2_init_17 (fun E2 J2 A2 S2 O2 => ?_)
  refine wc_al X dX2_init_20 rfl 0 rfl ?_
  refine wc_bi X dX2_init_21 rfl ?_
  refine wc_fI X hin (ci := 2) (Cn := RX2) (T := TX2) (NC := 13) (j := 3) (rf := "ElasticTabs$Layout") (ty0 := tyX2) (ty := .array .int) (a := a) (h := a) (N := 12) (E0 := E) rfl (by decide) (by decide) (by decide) rfl inX2 tyX2_ok nmX2 ⟨ha, by omega⟩ A2 J2 (fun _ => gf8 (kc (i := 3) hT3) (by omega)) (by decide) flX2_18 rfl rfl rfl (by decide +kernel) (fun _ => rfl) (fun _ => rfl) (Nat.le_of_ble_eq_true rfl) dX2_init_23 dX2_init_25 (fun E3 J3 A3 S3 O3 => ?_)
  refine wc_al X dX2_init_28 rfl 0 rfl ?_
  refine wc_bi X dX2_init_29 rfl ?_
  refine wc_fI X hin (ci := 2) (Cn := RX2) (T := TX2) (NC := 13) (j := 4) (rf := "ElasticTabs$Layout") (ty0 := tyX2) (ty := .array .int) (a := a) (h := a) (N := 12) (E0 := E) rfl (by decide) (by decide) (by decide) rfl inX2 tyX2_ok nmX2 ⟨ha, by omega⟩ A3 J3 (fun _ => gf8 (kc (i := 4) hT4) (by omega)) (by decide) flX2_21 rfl rfl rfl (by decide +kernel) (fun _ => rfl) (fun _ => rfl) (Nat.le_of_ble_eq_true rfl) dX2_init_31 dX2_init_33 (fun E4 J4 A4 S4 O4 => ?_)
  refine wc_al X dX2_init_36 rfl 0 rfl ?_
  refine wc_si X dX2_init_37 rfl ?_
  refine wc_fI X hin (ci := 2) (Cn := RX2) (T := TX2) (NC := 13) (j := 5) (rf := "ElasticTabs$Layout") (ty0 := tyX2) (ty := .array .int) (a := a) (h := a) (N := 288) (E0 := E) rfl (by decide) (by decide) (by decide) rfl inX2 tyX2_ok nmX2 ⟨ha, by omega⟩ A4 J4 (fun _ => gf8 (kc (i := 5) hT5) (by omega)) (by decide) flX2_24 rfl rfl rfl (by decide +kernel) (fun _ => rfl) (fun _ => rfl) (Nat.le_of_ble_eq_true rfl) dX2_init_40 dX2_init_42 (fun E5 J5 A5 S5 O5 => ?_)
  refine wc_al X dX2_init_45 rfl 0 rfl ?_
  refine wc_si X dX2_init_46 rfl ?_
  refine wc_fI X hin (ci := 2) (Cn := RX2) (T := TX2) (NC := 13) (j := 6) (rf := "ElasticTabs$Layout") (ty0 := tyX2) (ty := .array .int) (a := a) (h := a) (N := 288) (E0 := E) rfl (by decide) (by decide) (by decide) rfl inX2 tyX2_ok nmX2 ⟨ha, by omega⟩ A5 J5 (fun _ => gf8 (kc (i := 6) hT6) (by omega)) (by decide) flX2_27 rfl rfl rfl (by decide +kernel) (fun _ => rfl) (fun _ => rfl) (Nat.le_of_ble_eq_true rfl) dX2_init_49 dX2_init_51 (fun E6 J6 A6 S6 O6 => ?_)
  refine wc_al X dX2_init_54 rfl 0 rfl ?_
  refine wc_si X dX2_init_55 rfl ?_
  refine wc_fI X hin (ci := 2) (Cn := RX2) (T := TX2) (NC := 13) (j := 7) (rf := "ElasticTabs$Layout") (ty0 := tyX2) (ty := .array .int) (a := a) (h := a) (N := 288) (E0 := E) rfl (by decide) (by decide) (by decide) rfl inX2 tyX2_ok nmX2 ⟨ha, by omega⟩ A6 J6 (fun _ => gf8 (kc (i := 7) hT7) (by omega)) (by decide) flX2_30 rfl rfl rfl (by decide +kernel) (fun _ => rfl) (fun _ => rfl) (Nat.le_of_ble_eq_true rfl) dX2_init_58 dX2_init_60 (fun E7 J7 A7 S7 O7 => ?_)
  refine wc_al X dX2_init_63 rfl 0 rfl ?_
  refine wc_fN X hAO hin (ci := 0) (Cn := RX0) (T := TX0) (N := 5) (ty0 := tyX0) (fs := [.int 0, .int 0, .int 0, .int 0, .int 0]) (sz2 := a + 9) (ci2 := 2) (Cn2 := RX2) (T2 := TX2) (N2 := 13) (j := 9) (rf := "ElasticTabs$Layout") (ty2 := tyX2) (ty := .object "ElasticTabs$Block") rfl inX0 tyX0_ok clX2_33 insX0 iniX0 (fun j hj => by rcases (show j = 0 ∨ j = 1 ∨ j = 2 ∨ j = 3 ∨ j = 4 by omega) with rfl | rfl | rfl | rfl | rfl <;> rfl) (fun E1 h1 => ctX0_init hG (by omega) (by omega) (kc (i := 8) hT8) h1) coX0_init mlX2_35 imX0_init rfl rfl (by decide +kernel) rfl rfl (by decide) (Nat.le_of_ble_eq_true rfl) (by decide) (by decide) dX2_init_64 dX2_init_67 dX2_init_68 rfl inX2 tyX2_ok nmX2 ⟨ha, by omega⟩ (by omega) A7 J7 (by decide) flX2_36 rfl rfl rfl (by decide +kernel) (fun _ => rfl) (fun _ => rfl) (Nat.le_of_ble_eq_true rfl) dX2_init_71 (fun E8 J8 A8 O8 => ?_)
  refine wc_al X dX2_init_74 rfl 0 rfl ?_
  refine wc_si X dX2_init_75 rfl ?_
  refine wc_fI X hin (ci := 2) (Cn := RX2) (T := TX2) (NC := 13) (j := 10) (rf := "ElasticTabs$Layout") (ty0 := tyX2) (ty := .array .int) (a := a) (h := a) (N := 288) (E0 := E) rfl (by decide) (by decide) (by decide) rfl inX2 tyX2_ok nmX2 ⟨ha, by omega⟩ A8 J8 (fun _ => gf8 (kc (i := 9) hT9) (by omega)) (by decide) flX2_40 rfl rfl rfl (by decide +kernel) (fun _ => rfl) (fun _ => rfl) (Nat.le_of_ble_eq_true rfl) dX2_init_78 dX2_init_80 (fun E9 J9 A9 S9 O9 => ?_)
  refine wc_al X dX2_init_83 rfl 0 rfl ?_
  refine wc_si X dX2_init_84 rfl ?_
  refine wc_fI X hin (ci := 2) (Cn := RX2) (T := TX2) (NC := 13) (j := 11) (rf := "ElasticTabs$Layout") (ty0 := tyX2) (ty := .array .int) (a := a) (h := a) (N := 288) (E0 := E) rfl (by decide) (by decide) (by decide) rfl inX2 tyX2_ok nmX2 ⟨ha, by omega⟩ A9 J9 (fun _ => gf8 (kc (i := 10) hT10) (by omega)) (by decide) flX2_43 rfl rfl rfl (by decide +kernel) (fun _ => rfl) (fun _ => rfl) (Nat.le_of_ble_eq_true rfl) dX2_init_87 dX2_init_89 (fun E10 J10 A10 S10 O10 => ?_)
  refine wc_al X dX2_init_92 rfl 0 rfl ?_
  refine wc_si X dX2_init_93 rfl ?_
  refine wc_fI X hin (ci := 2) (Cn := RX2) (T := TX2) (NC := 13) (j := 12) (rf := "ElasticTabs$Layout") (ty0 := tyX2) (ty := .array .int) (a := a) (h := a) (N := 288) (E0 := E) rfl (by decide) (by decide) (by decide) rfl inX2 tyX2_ok nmX2 ⟨ha, by omega⟩ A10 J10 (fun _ => gf8 (kc (i := 11) hT11) (by omega)) (by decide) flX2_46 rfl rfl rfl (by decide +kernel) (fun _ => rfl) (fun _ => rfl) (Nat.le_of_ble_eq_true rfl) dX2_init_96 dX2_init_98 (fun E11 J11 A11 S11 O11 => ?_)
  exact wc_vret X (jn_ok J11 (by rw [gf2 hk (by omega)]; exact A11)) dX2_init_101
set_option maxHeartbeats 4000000 in
theorem ctX7_init {l : Launch} {G : GG} (hG : Gd G) {a : Nat} {E : Nat → va_E} (ha : gB G ≤ a) (hb : a = gB G + 168) (hk : gK G (a : Int) = (7, 0)) (he : E a = .inr (7, [.null, .null, .null, .int 0, .int 0, .int 0, .null, .int 0, .null, .int 0, .int 0, .int 0, .int 0, .int 0, .int 0, .int 0, .int 0, .null, .null, .null, .null, .null])) : Met l yX7_init (Cond.code yX7_init cX7_init 1 none :: tw) ({ frames := 1, cells := 10, slots := 11286, locals := 12 } : Room) (va_Pc [.ref a] (fun U => Kn G U U.heap ∧ AO U ∧ Bw G (a + 1) E U.heap)) (va_Qv (S := Nat → va_E) (fun E2 => (∀ q, q < a → E2 q = E q) ∧ Ok G E2 a (a + 11)) (fun E2 t => Bw G (a + 11) E2 t.heap) (gA G)) 10 11286 (gA G) := by
  refine cmet_of (own := RX7) (by decide +kernel) rfl rfl hG (by decide) (fun p e s m below meth c X hAO hin => ?_)
  refine wc_al X dX7_init_0 rfl 0 rfl ?_
  refine wc_obj X mlX7_1 dX7_init_1 (by decide) (by decide) ?_
  obtain ⟨hT1, hT2, hT3, hT4, hT5, hT6, hT7, hT8, hT9, hT10⟩ := (hG.2.2 (a : Int)).2.2.2.2.2.2.1 hk
  refine wc_al X dX7_init_4 rfl 0 rfl ?_
  refine wc_si X dX7_init_5 rfl ?_
  refine wc_fI X hin (ci := 7) (Cn := RX7) (T := TX7) (NC := 22) (j := 0) (rf := "ElasticTabsModel") (ty0 := tyX7) (ty := .array .int) (a := a) (h := a + 1) (N := 327) (E0 := E) rfl (by decide) (by decide) (by decide) rfl inX7 tyX7_ok nmX7 ⟨ha, by omega⟩ he jn_0 (fun z => absurd rfl z) (by decide) flX7_7 rfl rfl rfl (by decide +kernel) (fun _ => rfl) (fun _ => rfl) (Nat.le_of_ble_eq_true rfl) dX7_init_8 dX7_init_10 (fun E1 J1 A1 S1 O1 => ?_)
  refine wc_al X dX7_init_13 rfl 0 rfl ?_
  refine wc_si X dX7_init_14 rfl ?_
  refine wc_fI X hin (ci := 7) (Cn := RX7) (T := TX7) (NC := 22) (j := 1) (rf := "ElasticTabsModel") (ty0 := tyX7) (ty := .array .int) (a := a) (h := a + 1) (N := 327) (E0 := E) rfl (by decide) (by decide) (by decide) rfl inX7 tyX7_ok nmX7 ⟨ha, by omega⟩ A1 J1 (fun _ => gf8 (kc (i := 2) hT2) (by omega)) (by decide) flX7_13 rfl rfl rfl (by decide +kernel) (fun _ => rfl) (fun _ => rfl) (Nat.le_of_ble_eq_true rfl) dX7_init_17 dX7_init_19 (fun E2 J2 A2 S2 O2 => ?_)
  refine wc_al X dX7_init_22 rfl 0 rfl ?_
  refine wc_bi X dX7_init_23 rfl ?_
  refine wc_fI X hin (ci := 7) (Cn := RX7) (T := TX7) (NC := 22) (j := 2) (rf := "ElasticTabsModel") (ty0 := tyX7) (ty := .array .int) (a := a) (h := a + 1) (N := 12) (E0 := E) rfl (by decide) (by decide) (by decide) rfl inX7 tyX7_ok nmX7 ⟨ha, by omega⟩ A2 J2 (fun _ => gf8 (kc (i := 3) hT3) (by omega)) (by decide) flX7_16 rfl rfl rfl (by decide +kernel) (fun _ => rfl) (fun _ => rfl) (Nat.le_of_ble_eq_true rfl) dX7_init_25 dX7_init_27 (fun E3 J3 A3 S3 O3 => ?_)
  refine wc_al X dX7_init_30 rfl 0 rfl ?_
  refine wc_si X dX7_init_31 rfl ?_
  refine wc_fI X hin (ci := 7) (Cn := RX7) (T := TX7) (NC := 22) (j := 6) (rf := "ElasticTabsModel") (ty0 := tyX7) (ty := .array .int) (a := a) (h := a + 1) (N := 3270) (E0 := E) rfl (by decide) (by decide) (by decide) rfl inX7 tyX7_ok nmX7 ⟨ha, by omega⟩ A3 J3 (fun _ => gf8 (kc (i := 4) hT4) (by omega)) (by decide) flX7_19 rfl rfl rfl (by decide +kernel) (fun _ => rfl) (fun _ => rfl) (Nat.le_of_ble_eq_true rfl) dX7_init_34 dX7_init_36 (fun E4 J4 A4 S4 O4 => ?_)
  refine wc_al X dX7_init_39 rfl 0 rfl ?_
  refine wc_si X dX7_init_40 rfl ?_
  refine wc_fI X hin (ci := 7) (Cn := RX7) (T := TX7) (NC := 22) (j := 8) (rf := "ElasticTabsModel") (ty0 := tyX7) (ty := .array .int) (a := a) (h := a + 1) (N := 150) (E0 := E) rfl (by decide) (by decide) (by decide) rfl inX7 tyX7_ok nmX7 ⟨ha, by omega⟩ A4 J4 (fun _ => gf8 (kc (i := 5) hT5) (by omega)) (by decide) flX7_22 rfl rfl rfl (by decide +kernel) (fun _ => rfl) (fun _ => rfl) (Nat.le_of_ble_eq_true rfl) dX7_init_43 dX7_init_45 (fun E5 J5 A5 S5 O5 => ?_)
  refine wc_al X dX7_init_48 rfl 0 rfl ?_
  refine wc_ic X dX7_init_49 ?_
  refine wc_fZ X hin (ci := 7) (Cn := RX7) (T := TX7) (NC := 22) (j := 17) (rf := "ElasticTabsModel") (ty0 := tyX7) (ty := .array .boolean) (a := a) (h := a + 1) (N := 2) (E0 := E) rfl (by decide) (by decide) (by decide) rfl inX7 tyX7_ok nmX7 ⟨ha, by omega⟩ A5 J5 (fun _ => gf9 (kc (i := 6) hT6) (by omega)) (by decide) flX7_25 rfl rfl rfl (by decide +kernel) (fun _ => rfl) (fun _ => rfl) (Nat.le_of_ble_eq_true rfl) dX7_init_50 dX7_init_52 (fun E6 J6 A6 S6 O6 => ?_)
  refine wc_al X dX7_init_55 rfl 0 rfl ?_
  refine wc_si X dX7_init_56 rfl ?_
  refine wc_fI X hin (ci := 7) (Cn := RX7) (T := TX7) (NC := 22) (j := 18) (rf := "ElasticTabsModel") (ty0 := tyX7) (ty := .array .int) (a := a) (h := a + 1) (N := 654) (E0 := E) rfl (by decide) (by decide) (by decide) rfl inX7 tyX7_ok nmX7 ⟨ha, by omega⟩ A6 J6 (fun _ => gf8 (kc (i := 7) hT7) (by omega)) (by decide) flX7_29 rfl rfl rfl (by decide +kernel) (fun _ => rfl) (fun _ => rfl) (Nat.le_of_ble_eq_true rfl) dX7_init_59 dX7_init_61 (fun E7 J7 A7 S7 O7 => ?_)
  refine wc_al X dX7_init_64 rfl 0 rfl ?_
  refine wc_si X dX7_init_65 rfl ?_
  refine wc_fI X hin (ci := 7) (Cn := RX7) (T := TX7) (NC := 22) (j := 19) (rf := "ElasticTabsModel") (ty0 := tyX7) (ty := .array .int) (a := a) (h := a + 1) (N := 6540) (E0 := E) rfl (by decide) (by decide) (by decide) rfl inX7 tyX7_ok nmX7 ⟨ha, by omega⟩ A7 J7 (fun _ => gf8 (kc (i := 8) hT8) (by omega)) (by decide) flX7_32 rfl rfl rfl (by decide +kernel) (fun _ => rfl) (fun _ => rfl) (Nat.le_of_ble_eq_true rfl) dX7_init_68 dX7_init_70 (fun E8 J8 A8 S8 O8 => ?_)
  refine wc_al X dX7_init_73 rfl 0 rfl ?_
  refine wc_ic X dX7_init_74 ?_
  refine wc_fI X hin (ci := 7) (Cn := RX7) (T := TX7) (NC := 22) (j := 20) (rf := "ElasticTabsModel") (ty0 := tyX7) (ty := .array .int) (a := a) (h := a + 1) (N := 2) (E0 := E) rfl (by decide) (by decide) (by decide) rfl inX7 tyX7_ok nmX7 ⟨ha, by omega⟩ A8 J8 (fun _ => gf8 (kc (i := 9) hT9) (by omega)) (by decide) flX7_35 rfl rfl rfl (by decide +kernel) (fun _ => rfl) (fun _ => rfl) (Nat.le_of_ble_eq_true rfl) dX7_init_75 dX7_init_77 (fun E9 J9 A9 S9 O9 => ?_)
  refine wc_al X dX7_init_80 rfl 0 rfl ?_
  refine wc_ic X dX7_init_81 ?_
  refine wc_fI X hin (ci := 7) (Cn := RX7) (T := TX7) (NC := 22) (j := 21) (rf := "ElasticTabsModel") (ty0 := tyX7) (ty := .array .int) (a := a) (h := a + 1) (N := 2) (E0 := E) rfl (by decide) (by decide) (by decide) rfl inX7 tyX7_ok nmX7 ⟨ha, by omega⟩ A9 J9 (fun _ => gf8 (kc (i := 10) hT10) (by omega)) (by decide) flX7_38 rfl rfl rfl (by decide +kernel) (fun _ => rfl) (fun _ => rfl) (Nat.le_of_ble_eq_true rfl) dX7_init_82 dX7_init_84 (fun E10 J10 A10 S10 O10 => ?_)
  have S10' : E10 (a + 1) = .inl (gC G 0, 327, .inl (fun _ => 0)) := by
    rw [O10 _ (by omega) (by omega), O9 _ (by omega) (by omega), O8 _ (by omega) (by omega), O7 _ (by omega) (by omega), O6 _ (by omega) (by omega), O5 _ (by omega) (by omega), O4 _ (by omega) (by omega), O3 _ (by omega) (by omega), O2 _ (by omega) (by omega)]
    exact S1
  refine wc_al X dX7_init_87 rfl 0 rfl ?_
  refine wc_get X (ci := 7) (Cn := RX7) (T := TX7) (N := 22) (j := 0) (rf := "ElasticTabsModel") rfl inX7 ⟨ha, by omega⟩ A10 (by decide) flX7_7 rfl rfl dX7_init_88 ?_
  refine wc_ic X dX7_init_91 ?_
  refine wc_ic X dX7_init_92 ?_
  refine wc_iast X ⟨by omega, by omega⟩ S10' ⟨by decide, by decide⟩ (by decide) dX7_init_93 ?_
  refine wc_vret X ⟨fun q hq => ?_, fun q h1 h2 => ?_⟩ dX7_init_94
  · rw [uE_n _ _ (by omega)]; exact J10.1 q hq
  · by_cases hq1 : q = a + 1
    · subst hq1
      rw [uE_s]
      unfold gF
      rw [kc (i := 1) hT1]
      show Sum.inl (gC G 0, 327, Sum.inl _) = Sum.inl (gC G 0, 327, Sum.inl (fun j : Nat => Int32.ofInt (M0 G ((a + 1 : Nat) : Int) (j : Int))))
      congr 4
      funext j
      have hm : M0 G ((a + 1 : Nat) : Int) (j : Int) = if j = 1 then 1 else 0 := by
        unfold M0
        rw [kc (i := 1) hT1, if_neg (fun z => by cases z.1), if_neg (fun z => by cases z.1), if_neg (fun z => by cases z.1)]
        by_cases hj : j = 1
        · rw [if_pos ⟨by omega, by omega⟩, if_pos hj]
        · rw [if_neg (fun z => hj (by omega)), if_neg hj]
      rw [hm]
      unfold upd
      by_cases hj : j = 1
      · rw [if_pos hj, if_pos (show j = (1 : Int).toNat from hj)]
      · rw [if_neg hj, if_neg (show ¬ j = (1 : Int).toNat from hj)]
        rfl
    · rw [uE_n _ _ hq1]
      by_cases hq : q = a
      · subst hq
        rw [gf7 hk (by omega)]; exact A10
      · exact J10.2 q (by omega) h2 hq1
