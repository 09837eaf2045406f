section CT2
variable {p : Program} {l : Launch} {e : Env} {R : Room} {s : State} {m : MethodId} {args : Array Value} {below : List Frame} {meth : Method} {c : Code} {G : GG} {Qf : State → Prop} {nL sz : Nat} {E : Nat → va_E} {lv lv2 : List (Nat × Value)} {pc : Nat} {st rest : List Value} {cc : ByteArray} {ret : Option FieldType} {own : String} {cells slots : Nat}
theorem wc_fA (X : Cx p s m args meth c cc nL ret own G) (hin2 : meth.name = "<init>") {n : Int} {N idx idx2 j ci NC a t0 : Nat} {T : u_T} {ty0 : Nat → FieldType} {Cn Ce rf : String} {fs : List Value} {ty : FieldType} {E0 : Nat → va_E} (hn : n = (N : Int)) (hN : N ≤ 100000) (ht : (gT G)[t0]? = some (gC G t0, .object Ce)) (hlink1 : Cond.classLink own idx2 Ce ∈ tw) (hao : va_AO Ce s) (hc : cells + 1 ≤ R.cells) (hs : slots + N ≤ R.slots) (hcl : vwCl[ci]? = some (Cn, T, NC)) (hin : ∀ w ∈ u_ws Cn T NC, w ∈ tw) (hty : ∀ k, k < NC → parseFieldDescriptor (T k).2.2.1 = some (ty0 k)) (hnm : ∀ a, a < NC → ∀ b, b < NC → a ≠ b → (T a).2.1 ≠ (T b).2.1) (ha : gB G ≤ a ∧ a < sz) (he : E a = .inr (ci, fs)) (hJ : Jn G E0 E a sz sz) (hj : j < NC) (hlink : Cond.fieldLink own idx rf (T j).2.1 (T j).2.2.1 ∈ tw) (hrf : (T j).1 = rf) (hfin : (T j).2.2.2 = true) (hdecl : (T j).1 = own) (hpd : parseFieldDescriptor (T j).2.2.1 = some ty) (hnr : ∀ v : Nat, narrow ty (.ref v) = .ref v) (hft : ∀ v : Nat, fits ty (.ref v) = true) (hlen : j < fs.length) (hd1 : decode cc pc = .ok (.anewarray idx2, 3)) (hd2 : decode cc (pc + 3) = .ok (.putfield idx, 3))
    (k : ∀ E2 : Nat → va_E, Jn G E0 E2 a sz (sz + 1) → E2 a = .inr (ci, fs.set j (.ref sz)) → E2 sz = .inl (gC G t0, N, .inr (.inr (.inr (.inr (fun _ => none))))) → Wc p l e R s m args below meth c G Qf nL (sz + 1) E2 lv (pc + 6) st (cells + 1) (slots + N)) : Wc p l e R s m args below meth c G Qf nL sz E lv pc (iV n :: .ref a :: st) cells slots := by
  refine wc_newA X hn hN ht hlink1 hao hc hs hd1 ?_
  refine wc_putF X hin2 hcl hin hty hnm ⟨ha.1, by omega⟩ (by rw [uE_n _ _ (by omega)]; exact he) hj hlink hrf hfin hdecl hpd (hnr _) (hft _) hlen hd2 ?_
  refine k _ ⟨fun q hq => ?_, fun q h1 h2 h3 => ?_⟩ (uE_s _ _ _) ?_
  · rw [uE_n _ _ (by omega), uE_n _ _ (by omega)]; exact hJ.1 q hq
  · rw [uE_n _ _ (by omega), uE_n _ _ h3]; exact hJ.2 q h1 (by omega) h3
  · rw [uE_n _ _ (by omega), uE_s]
theorem wc_re {a : Nat} {x : va_E} (h : ∀ H : Heap, va_at (gD G) vwCl (a, E a) H → va_at (gD G) vwCl (a, x) H) (k : Wc p l e R s m args below meth c G Qf nL sz (uE E a x) lv pc st cells slots) : Wc p l e R s m args below meth c G Qf nL sz E lv pc st cells slots := by
  intro H locs ls hB hS hl
  refine k H locs ls ⟨hB.1, fun q h1 h2 => ?_⟩ hS hl
  by_cases hq : q = a
  · subst hq
    rw [uE_s]; exact h H (hB.2 q h1 h2)
  · rw [uE_n _ _ hq]; exact hB.2 q h1 h2
/-- one more element of a row of objects: made, set up, stored -/
theorem wc_el (X : Cx p s m args meth c cc nL ret own G) (hAO : AO s) {ci N idx idx2 maxL sz2 mc ms t0 a b n i : Nat} {T : u_T} {ty0 : Nat → FieldType} {Cn : String} {fs vs : List Value} {y : MethodName} {bytes : ByteArray} {rm : Room} {E0 : Nat → va_E} {f f2 : Nat → Option Nat} (hcl : vwCl[ci]? = some (Cn, T, N)) (hin : ∀ w ∈ u_ws Cn T N, w ∈ tw) (hty : ∀ k, k < N → parseFieldDescriptor (T k).2.2.1 = some (ty0 k)) (hlink : Cond.classLink own idx Cn ∈ tw) (hins : Cond.instantiable Cn N ∈ tw) (hini : Cond.initialized Cn ∈ tw) (hfs : ∀ j, j < N → defaultValue (ty0 j) = vp_V fs j)
    (hM : ∀ E1 : Nat → va_E, E1 sz = .inr (ci, fs) → Met l y (Cond.code y bytes maxL none :: tw) rm (va_Pc [.ref sz] (fun U => Kn G U U.heap ∧ AO U ∧ Bw G (sz + 1) E1 U.heap)) (va_Qv (S := Nat → va_E) (fun E2 => (∀ q, q < sz → E2 q = E1 q) ∧ Ok G E2 sz sz2) (fun E2 t => Bw G sz2 E2 t.heap) (gA G)) mc ms (gA G)) (hco : Cond.code y bytes maxL none ∈ tw) (hlink2 : Cond.methodLink own idx2 y ∈ tw) (him : Cond.instanceMethod y ∈ tw) (hyc : y.cls = Cn) (hy : y.name = "<init>") (hd2 : y.cls ≠ "java/lang/invoke/MethodHandle" ∧ y.cls ≠ "java/lang/invoke/VarHandle" ∧ (parseMethodDescriptor y.desc).map (fun d => d.parameters.length) = some 0) (hrc : rm.cells = mc) (hrs : rm.slots = ms) (hR : rm.frames + 1 ≤ R.frames ∧ 8 + (maxL + 11) + rm.locals ≤ R.locals) (hw : ((Value.ref sz :: iV (i : Int) :: .ref b :: st).map fun v => v.category).sum ≤ 8) (hc : cells + 1 + mc ≤ R.cells) (hs : slots + N + ms ≤ R.slots) (hde1 : decode cc pc = .ok (.new idx, 3)) (hde2 : decode cc (pc + 3) = .ok (.dup, 1)) (hde3 : decode cc (pc + 4) = .ok (.invokespecial idx2, 3)) (hde4 : decode cc (pc + 7) = .ok (.aastore, 1))
    (ht : (gT G)[t0]? = some (gC G t0, .object Cn)) (hv : gF G (M0 G) sz = .inr (ci, vs)) (hab : gB G ≤ a ∧ a < b ∧ b < sz ∧ sz < sz2) (heb : E b = .inl (gC G t0, n, .inr (.inr (.inr (.inr f))))) (hi : i < n) (hn : n ≤ 1000) (hf2 : ∀ j, f2 j = if j = i then some sz else f j) (hJ : Jn G E0 E a b sz)
    (k : ∀ E2 : Nat → va_E, Jn G E0 E2 a b sz2 → E2 a = E a → E2 b = .inl (gC G t0, n, .inr (.inr (.inr (.inr f2)))) → Wc p l e R s m args below meth c G Qf nL sz2 E2 lv (pc + 8) st (cells + 1 + mc) (slots + N + ms)) : Wc p l e R s m args below meth c G Qf nL sz E lv pc (iV (i : Int) :: .ref b :: st) cells slots := by
  refine wc_mk X hAO hcl hin hty hlink hins hini hfs hM hco hlink2 him hyc hy hd2 hrc hrs hR hw hc hs hde1 hde2 hde3 (fun F hF hO => ?_)
  refine wc_aast X hcl ht ⟨by omega, by omega⟩ (by rw [hF b (by omega)]; exact heb) ⟨by omega, by omega⟩ (by rw [hO sz (by omega) (by omega)]; exact hv) ⟨by omega, by omega⟩ (by omega) hde4 ?_
  refine k _ ⟨fun q hq => ?_, fun q h1 h2 h3 => ?_⟩ ?_ ?_
  · rw [uE_n _ _ (by omega), hF q (by omega)]; exact hJ.1 q hq
  · rw [uE_n _ _ h3]
    by_cases hq : q < sz
    · rw [hF q hq]; exact hJ.2 q h1 hq h3
    · exact hO q (by omega) h2
  · rw [uE_n _ _ (by omega), hF a (by omega)]
  · rw [uE_s]
    congr 7
    funext j
    rw [hf2 j]
    unfold va_up
    rw [Int.toNat_natCast]
end CT2
set_option maxHeartbeats 4000000 in
theorem ctX4_init {l : Launch} {G : GG} (hG : Gd G) {a : Nat} {E : Nat → va_E} (ha : gB G ≤ a) (hb : a + 42 ≤ gB G + 168) (hk : gK G (a : Int) = (4, 0)) (he : E a = .inr (4, [.int 0, .int 0, .null])) : Met l yX4_init (Cond.code yX4_init cX4_init 2 none :: tw) ({ frames := 2, cells := 41, slots := 3310, locals := 32 } : Room) (va_Pc [.ref a] (fun U => Kn G U U.heap ∧ AO U ∧ Bw G (a + 1) E U.heap)) (va_Qv (S := Nat → va_E) (fun E2 => (∀ q, q < a → E2 q = E q) ∧ Ok G E2 a (a + 42)) (fun E2 t => Bw G (a + 42) E2 t.heap) (gA G)) 41 3310 (gA G) := by
  have hT1 : gK G ((a + 1 : Nat) : Int) = (11, 10) := kc (i := 1) ((hG.2.2 (a : Int)).2.2.2.1 hk)
  have hTp : ∀ i : Nat, i < 10 → gK G ((a + 2 + 4 * i : Nat) : Int) = (3, 0) := fun i hi => by
    have h := (hG.2.2 ((a + 1 : Nat) : Int)).2.2.2.2.2.2.2.2 hT1 (i : Int) (by omega) (by omega)
    rw [show ((a + 2 + 4 * i : Nat) : Int) = ((a + 1 : Nat) : Int) + 1 + 4 * (i : Int) by omega]
    exact h
  refine cmet_of (own := RX4) (by decide +kernel) rfl rfl hG (by decide) (fun p e s m below meth c X hAO hin => ?_)
  refine wc_al X dX4_init_0 rfl 0 rfl ?_
  refine wc_obj X mlX4_3 dX4_init_1 (by decide) (by decide) ?_
  refine wc_al X dX4_init_4 rfl 0 rfl ?_
  refine wc_bi X dX4_init_5 rfl ?_
  refine wc_fA X hin (ci := 4) (Cn := RX4) (Ce := RX3) (T := TX4) (NC := 3) (j := 2) (rf := "ElasticTabs$Past") (ty0 := tyX4) (ty := .array (.object "ElasticTabs$Page")) (a := a) (N := 10) (t0 := 3) (E0 := E) rfl (by decide) rfl clX4_9 hAO.2 (by decide) (by decide) rfl inX4 tyX4_ok nmX4 ⟨ha, by omega⟩ he jn_0 (by decide) flX4_11 rfl rfl rfl (by decide +kernel) (fun _ => rfl) (fun _ => rfl) (Nat.le_of_ble_eq_true rfl) dX4_init_7 dX4_init_10 (fun E1 J1 A1 S1 => ?_)
  refine wc_ic X dX4_init_13 ?_
  refine wc_is X dX4_init_14 rfl (by decide) rfl ?_
  have loop : ∀ (k i : Nat), i + k = 10 → ∀ F : Nat → va_E, Jn G E F a (a + 1) (a + 2 + 4 * i) → F a = .inr (4, [.int 0, .int 0, .ref (a + 1)]) → F (a + 1) = .inl (gC G 3, 10, .inr (.inr (.inr (.inr (fun j => if j < i then some (a + 2 + 4 * j) else none))))) → Wc p l e ({ frames := 2, cells := 41, slots := 3310, locals := 32 } : Room) s m [Value.ref a].toArray below meth c G (MQ below (va_Qv (S := Nat → va_E) (fun E2 => (∀ q, q < a → E2 q = E q) ∧ Ok G E2 a (a + 42)) (fun E2 t => Bw G (a + 42) E2 t.heap) (gA G)) [Value.ref a].toArray s 41 3310 (gA G)) 2 (a + 2 + 4 * i) F [(1, iV (i : Int)), (0, .ref a)] 15 [] (1 + 4 * i) (10 + 330 * i) := by
    intro k
    induction k with
    | zero =>
      intro i hi F JF AF SF
      have hi10 : i = 10 := by omega
      subst hi10
      refine wc_il X dX4_init_15 rfl 0 rfl ?_
      refine wc_bi X dX4_init_16 rfl ?_
      refine wc_cge (tgt := 40) X (by omega) (by omega) dX4_init_18 (by decide) (fun _ => ?_) (fun h => absurd (by omega) h)
      refine wc_re (a := a + 1) (x := gF G (M0 G) (a + 1)) (fun H h => ?_) ?_
      · rw [SF] at h
        rw [gf11 hT1]
        have h' : H[a + 1]? = some (vp_cell _ _) := h
        show H[a + 1]? = some (vp_cell _ _)
        rw [h', vp_cell_q, vp_cell_q]
        refine congrArg some (arrV_c (fun j hj => ?_))
        rw [if_pos hj, show a + 1 + 1 + 4 * j = a + 2 + 4 * j by omega]
      refine wc_vret X ⟨fun q hq => ?_, fun q h1 h2 => ?_⟩ dX4_init_40
      · rw [uE_n _ _ (by omega)]; exact JF.1 q hq
      · by_cases hq1 : q = a + 1
        · rw [hq1, uE_s]
        · rw [uE_n _ _ hq1]
          by_cases hq : q = a
          · rw [hq, gf4 hk (by omega)]; exact AF
          · exact JF.2 q (by omega) (by omega) hq1
    | succ k ih =>
      intro i hi F JF AF SF
      refine wc_il X dX4_init_15 rfl 0 rfl ?_
      refine wc_bi X dX4_init_16 rfl ?_
      refine wc_cge (tgt := 40) X (by omega) (by omega) dX4_init_18 (by decide) (fun h => by omega) (fun _ => ?_)
      refine wc_al X dX4_init_21 rfl 1 rfl ?_
      refine wc_get X (ci := 4) (Cn := RX4) (T := TX4) (N := 3) (j := 2) (rf := "ElasticTabs$Past") rfl inX4 ⟨ha, by omega⟩ AF (by decide) flX4_11 rfl rfl dX4_init_22 ?_
      refine wc_il X dX4_init_25 rfl 0 rfl ?_
      refine wc_el X hAO (ci := 3) (Cn := RX3) (T := TX3) (N := 6) (ty0 := tyX3) (fs := [.int 0, .int 0, .int 0, .null, .null, .null]) (sz2 := a + 2 + 4 * i + 4) (t0 := 3) (a := a) (b := a + 1) (n := 10) (i := i) (f2 := fun j => if j < i + 1 then some (a + 2 + 4 * j) else none) (E0 := E) rfl inX3 tyX3_ok clX4_9 insX3 iniX3 (fun j hj => by rcases (show j = 0 ∨ j = 1 ∨ j = 2 ∨ j = 3 ∨ j = 4 ∨ j = 5 by omega) with rfl | rfl | rfl | rfl | rfl | rfl <;> rfl) (fun E1 h1 => ctX3_init hG (by omega) (by omega) (hTp i (by omega)) h1) coX3_init mlX4_17 imX3_init rfl rfl (by decide +kernel) rfl rfl (by decide) (Nat.le_of_ble_eq_true rfl) (by show 1 + 4 * i + 1 + 3 ≤ 41; omega) (by show 10 + 330 * i + 6 + 324 ≤ 3310; omega) dX4_init_26 dX4_init_29 dX4_init_30 dX4_init_33 rfl (gf3 (hTp i (by omega)) (by omega)) (by omega) SF (by omega) (by decide) (fun j => ?_) JF (fun F2 J2 A2 S2 => ?_)
      · by_cases hj : j = i
        · rw [if_pos hj, if_pos (by omega), hj]
        · rw [if_neg hj]
          by_cases hj2 : j < i
          · rw [if_pos hj2, if_pos (by omega)]
          · rw [if_neg hj2, if_neg (by omega)]
      refine wc_inc X dX4_init_34 0 rfl (by decide) rfl ?_
      refine wc_goto (tgt := 15) X dX4_init_37 (by decide) ?_
      have h := ih (i + 1) (by omega) F2 (by rw [show a + 2 + 4 * (i + 1) = a + 2 + 4 * i + 4 by omega]; exact J2) (by rw [A2]; exact AF) S2
      rw [show a + 2 + 4 * (i + 1) = a + 2 + 4 * i + 4 by omega, show 1 + 4 * (i + 1) = 1 + 4 * i + 1 + 3 by omega, show 10 + 330 * (i + 1) = 10 + 330 * i + 6 + 324 by omega, show ((i + 1 : Nat) : Int) = (i : Int) + 1 by omega] at h
      exact h
  exact loop 10 0 rfl E1 J1 A1 S1
set_option maxHeartbeats 4000000 in
theorem ctX1_init {l : Launch} {G : GG} (hG : Gd G) {a : Nat} {E : Nat → va_E} (ha : gB G ≤ a) (hb : a + 47 ≤ gB G + 168) (hk : gK G (a : Int) = (1, 0)) (he : E a = .inr (1, [.int 0, .null, .null])) : Met l yX1_init (Cond.code yX1_init cX1_init 1 none :: tw) ({ frames := 3, cells := 46, slots := 3643, locals := 53 } : Room) (va_Pc [.ref a] (fun U => Kn G U U.heap ∧ AO U ∧ Bw G (a + 1) E U.heap)) (va_Qv (S := Nat → va_E) (fun E2 => (∀ q, q < a → E2 q = E q) ∧ Ok G E2 a (a + 47)) (fun E2 t => Bw G (a + 47) E2 t.heap) (gA G)) 46 3643 (gA G) := by
  obtain ⟨hT1, hT5⟩ := (hG.2.2 (a : Int)).1 hk
  refine cmet_of (own := RX1) (by decide +kernel) rfl rfl hG (by decide) (fun p e s m below meth c X hAO hin => ?_)
  refine wc_al X dX1_init_0 rfl 0 rfl ?_
  refine wc_obj X mlX1_1 dX1_init_1 (by decide) (by decide) ?_
  refine wc_al X dX1_init_4 rfl 0 rfl ?_
  refine wc_fN X hAO hin (ci := 3) (Cn := RX3) (T := TX3) (N := 6) (ty0 := tyX3) (fs := [.int 0, .int 0, .int 0, .null, .null, .null]) (sz2 := a + 1 + 4) (ci2 := 1) (Cn2 := RX1) (T2 := TX1) (N2 := 3) (j := 1) (rf := "ElasticTabs$Image") (ty2 := tyX1) (ty := .object "ElasticTabs$Page") (h := a) rfl inX3 tyX3_ok clX1_7 insX3 iniX3 (fun j hj => by rcases (show j = 0 ∨ j = 1 ∨ j = 2 ∨ j = 3 ∨ j = 4 ∨ j = 5 by omega) with rfl | rfl | rfl | rfl | rfl | rfl <;> rfl) (fun E1 h1 => ctX3_init hG (by omega) (by omega) (kc (i := 1) hT1) h1) coX3_init mlX1_9 imX3_init rfl rfl (by decide +kernel) rfl rfl (by decide) (Nat.le_of_ble_eq_true rfl) (by decide) (by decide) dX1_init_5 dX1_init_8 dX1_init_9 rfl inX1 tyX1_ok nmX1 ⟨ha, by omega⟩ (by omega) he jn_0 (by decide) flX1_10 rfl rfl rfl (by decide +kernel) (fun _ => rfl) (fun _ => rfl) (Nat.le_of_ble_eq_true rfl) dX1_init_12 (fun E1 J1 A1 O1 => ?_)
  refine wc_al X dX1_init_15 rfl 0 rfl ?_
  refine wc_fN X hAO hin (ci := 4) (Cn := RX4) (T := TX4) (N := 3) (ty0 := tyX4) (fs := [.int 0, .int 0, .null]) (sz2 := a + 5 + 42) (ci2 := 1) (Cn2 := RX1) (T2 := TX1) (N2 := 3) (j := 2) (rf := "ElasticTabs$Image") (ty2 := tyX1) (ty := .object "ElasticTabs$Past") (h := a) rfl inX4 tyX4_ok clX1_16 insX4 iniX4 (fun j hj => by rcases (show j = 0 ∨ j = 1 ∨ j = 2 by omega) with rfl | rfl | rfl <;> rfl) (fun E1 h1 => ctX4_init hG (by omega) (by omega) (kc (i := 5) hT5) h1) coX4_init mlX1_18 imX4_init rfl rfl (by decide +kernel) rfl rfl (by decide) (Nat.le_of_ble_eq_true rfl) (by decide) (by decide) dX1_init_16 dX1_init_19 dX1_init_20 rfl inX1 tyX1_ok nmX1 ⟨ha, by omega⟩ (by omega) A1 J1 (by decide) flX1_19 rfl rfl rfl (by decide +kernel) (fun _ => rfl) (fun _ => rfl) (Nat.le_of_ble_eq_true rfl) dX1_init_23 (fun E2 J2 A2 O2 => ?_)
  exact wc_vret X (jn_ok J2 (by rw [gf1 hk (by omega)]; exact A2)) dX1_init_26
set_option maxHeartbeats 4000000 in
theorem ctX6_init {l : Launch} {G : GG} (hG : Gd G) {a : Nat} {E : Nat → va_E} (ha : gB G ≤ a) (hb : a + 168 ≤ gB G + 168) (hk : gK G (a : Int) = (6, 0)) (hk50 : gK G ((a + 50 : Nat) : Int) = (2, 0)) (hk62 : gK G ((a + 62 : Nat) : Int) = (2, 0)) (he : E a = .inr (6, [.null, .null, .null, .null, .null, .null, .int 0])) : Met l yX6_init (Cond.code yX6_init cX6_init 2 none :: tw) ({ frames := 4, cells := 167, slots := 14684, locals := 73 } : Room) (va_Pc [.ref a] (fun U => Kn G U U.heap ∧ AO U ∧ Bw G (a + 1) E U.heap)) (va_Qv (S := Nat → va_E) (fun E2 => (∀ q, q < a → E2 q = E q) ∧ Ok G E2 a (a + 168)) (fun E2 t => Bw G (a + 168) E2 t.heap) (gA G)) 167 14684 (gA G) := by
  obtain ⟨hT1, hT5, hT47, hT49'⟩ := (hG.2.2 (a : Int)).2.2.2.2.2.1 hk
  have hT49 : gK G ((a + 49 : Nat) : Int) = (10, 2) := kc (i := 49) hT49'
  have hTp : ∀ i : Nat, i < 2 → gK G ((a + 74 + 47 * i : Nat) : Int) = (1, 0) := fun i hi => by
    have h := (hG.2.2 ((a + 49 : Nat) : Int)).2.2.2.2.2.2.2.1 hT49 (i : Int) (by omega) (by omega)
    rw [show ((a + 74 + 47 * i : Nat) : Int) = ((a + 49 : Nat) : Int) + 25 + 47 * (i : Int) by omega]
    exact h
  refine cmet_of (own := RX6) (by decide +kernel) rfl rfl hG (by decide) (fun p e s m below meth c X hAO hin => ?_)
  refine wc_al X dX6_init_0 rfl 0 rfl ?_
  refine wc_obj X mlX6_1 dX6_init_1 (by decide) (by decide) ?_
  refine wc_al X dX6_init_4 rfl 0 rfl ?_
  refine wc_fN X hAO hin (ci := 3) (Cn := RX3) (T := TX3) (N := 6) (ty0 := tyX3) (fs := [.int 0, .int 0, .int 0, .null, .null, .null]) (sz2 := a + 1 + 4) (ci2 := 6) (Cn2 := RX6) (T2 := TX6) (N2 := 7) (j := 0) (rf := "ElasticTabs") (ty2 := tyX6) (ty := .object "ElasticTabs$Page") (h := a + 49) rfl inX3 tyX3_ok clX6_7 insX3 iniX3 (fun j hj => by rcases (show j = 0 ∨ j = 1 ∨ j = 2 ∨ j = 3 ∨ j = 4 ∨ j = 5 by omega) with rfl | rfl | rfl | rfl | rfl | rfl <;> rfl) (fun E1 h1 => ctX3_init hG (by omega) (by omega) (kc (i := 1) hT1) h1) coX3_init mlX6_9 imX3_init rfl rfl (by decide +kernel) rfl rfl (by decide) (Nat.le_of_ble_eq_true rfl) (by decide) (by decide) dX6_init_5 dX6_init_8 dX6_init_9 rfl inX6 tyX6_ok nmX6 ⟨ha, by omega⟩ (by omega) he jn_0 (by decide) flX6_10 rfl rfl rfl (by decide +kernel) (fun _ => rfl) (fun _ => rfl) (Nat.le_of_ble_eq_true rfl) dX6_init_12 (fun E1 J1 A1 O1 => ?_)
  refine wc_al X dX6_init_15 rfl 0 rfl ?_
  refine wc_fN X hAO hin (ci := 4) (Cn := RX4) (T := TX4) (N := 3) (ty0 := tyX4) (fs := [.int 0, .int 0, .null]) (sz2 := a + 5 + 42) (ci2 := 6) (Cn2 := RX6) (T2 := TX6) (N2 := 7) (j := 1) (rf := "ElasticTabs") (ty2 := tyX6) (ty := .object "ElasticTabs$Past") (h := a + 49) rfl inX4 tyX4_ok clX6_16 insX4 iniX4 (fun j hj => by rcases (show j = 0 ∨ j = 1 ∨ j = 2 by omega) with rfl | rfl | rfl <;> rfl) (fun E1 h1 => ctX4_init hG (by omega) (by omega) (kc (i := 5) hT5) h1) coX4_init mlX6_18 imX4_init rfl rfl (by decide +kernel) rfl rfl (by decide) (Nat.le_of_ble_eq_true rfl) (by decide) (by decide) dX6_init_16 dX6_init_19 dX6_init_20 rfl inX6 tyX6_ok nmX6 ⟨ha, by omega⟩ (by omega) A1 J1 (by decide) flX6_19 rfl rfl rfl (by decide +kernel) (fun _ => rfl) (fun _ => rfl) (Nat.le_of_ble_eq_true rfl) dX6_init_23 (fun E2 J2 A2 O2 => ?_)
  refine wc_al X dX6_init_26 rfl 0 rfl ?_
  refine wc_fN X hAO hin (ci := 5) (Cn := RX5) (T := TX5) (N := 9) (ty0 := tyX5) (fs := [.null, .int 0, .int 0, .int 0, .int 0, .int 0, .int 0, .int 0, .int 0]) (sz2 := a + 47 + 2) (ci2 := 6) (Cn2 := RX6) (T2 := TX6) (N2 := 7) (j := 2) (rf := "ElasticTabs") (ty2 := tyX6) (ty := .object "ElasticTabs$Script") (h := a + 49) rfl inX5 tyX5_ok clX6_23 insX5 iniX5 (fun j hj => by rcases (show j = 0 ∨ j = 1 ∨ j = 2 ∨ j = 3 ∨ j = 4 ∨ j = 5 ∨ j = 6 ∨ j = 7 ∨ j = 8 by omega) with rfl | rfl | rfl | rfl | rfl | rfl | rfl | rfl | rfl <;> rfl) (fun E1 h1 => ctX5_init hG (by omega) (by omega) (kc (i := 47) hT47) h1) coX5_init mlX6_25 imX5_init rfl rfl (by decide +kernel) rfl rfl (by decide) (Nat.le_of_ble_eq_true rfl) (by decide) (by decide) dX6_init_27 dX6_init_30 dX6_init_31 rfl inX6 tyX6_ok nmX6 ⟨ha, by omega⟩ (by omega) A2 J2 (by decide) flX6_26 rfl rfl rfl (by decide +kernel) (fun _ => rfl) (fun _ => rfl) (Nat.le_of_ble_eq_true rfl) dX6_init_34 (fun E3 J3 A3 O3 => ?_)
  refine wc_al X dX6_init_37 rfl 0 rfl ?_
  refine wc_ic X dX6_init_38 ?_
  refine wc_fA X hin (ci := 6) (Cn := RX6) (Ce := RX1) (T := TX6) (NC := 7) (j := 3) (rf := "ElasticTabs") (ty0 := tyX6) (ty := .array (.object "ElasticTabs$Image")) (a := a) (N := 2) (t0 := 2) (E0 := E) rfl (by decide) rfl clX6_30 hAO.1 (by decide) (by decide) rfl inX6 tyX6_ok nmX6 ⟨ha, by omega⟩ A3 J3 (by decide) flX6_32 rfl rfl rfl (by decide +kernel) (fun _ => rfl) (fun _ => rfl) (Nat.le_of_ble_eq_true rfl) dX6_init_39 dX6_init_42 (fun E4 J4 A4 S4 => ?_)
  refine wc_al X dX6_init_45 rfl 0 rfl ?_
  refine wc_fM X hAO hin (ci := 2) (Cn := RX2) (T := TX2) (N := 13) (ty0 := tyX2) (fs := [.int 0, .null, .null, .null, .null, .null, .null, .null, .int 0, .null, .null, .null, .null]) (sz2 := a + 50 + 12) (ci2 := 6) (Cn2 := RX6) (T2 := TX6) (N2 := 7) (j := 4) (rf := "ElasticTabs") (ty2 := tyX6) (ty := .object "ElasticTabs$Layout") (h := a + 49) rfl inX2 tyX2_ok clX6_36 insX2 iniX2 (fun j hj => by rcases (show j = 0 ∨ j = 1 ∨ j = 2 ∨ j = 3 ∨ j = 4 ∨ j = 5 ∨ j = 6 ∨ j = 7 ∨ j = 8 ∨ j = 9 ∨ j = 10 ∨ j = 11 ∨ j = 12 by omega) with rfl | rfl | rfl | rfl | rfl | rfl | rfl | rfl | rfl | rfl | rfl | rfl | rfl <;> rfl) (fun E1 h1 => ctX2_init hG (by omega) (by omega) hk50 h1) coX2_init mlX6_38 imX2_init rfl rfl (by decide +kernel) rfl rfl (by decide) (Nat.le_of_ble_eq_true rfl) (by decide) (by decide) dX6_init_46 dX6_init_49 dX6_init_50 rfl inX6 tyX6_ok nmX6 ⟨ha, by omega⟩ (by omega) A4 J4 (by decide) flX6_39 rfl rfl (by decide +kernel) (fun _ => rfl) (fun _ => rfl) (Nat.le_of_ble_eq_true rfl) dX6_init_53 (fun E5 J5 A5 O5 => ?_)
  refine wc_al X dX6_init_56 rfl 0 rfl ?_
  refine wc_fM X hAO hin (ci := 2) (Cn := RX2) (T := TX2) (N := 13) (ty0 := tyX2) (fs := [.int 0, .null, .null, .null, .null, .null, .null, .null, .int 0, .null, .null, .null, .null]) (sz2 := a + 62 + 12) (ci2 := 6) (Cn2 := RX6) (T2 := TX6) (N2 := 7) (j := 5) (rf := "ElasticTabs") (ty2 := tyX6) (ty := .object "ElasticTabs$Layout") (h := a + 49) rfl inX2 tyX2_ok clX6_36 insX2 iniX2 (fun j hj => by rcases (show j = 0 ∨ j = 1 ∨ j = 2 ∨ j = 3 ∨ j = 4 ∨ j = 5 ∨ j = 6 ∨ j = 7 ∨ j = 8 ∨ j = 9 ∨ j = 10 ∨ j = 11 ∨ j = 12 by omega) with rfl | rfl | rfl | rfl | rfl | rfl | rfl | rfl | rfl | rfl | rfl | rfl | rfl <;> rfl) (fun E1 h1 => ctX2_init hG (by omega) (by omega) hk62 h1) coX2_init mlX6_38 imX2_init rfl rfl (by decide +kernel) rfl rfl (by decide) (Nat.le_of_ble_eq_true rfl) (by decide) (by decide) dX6_init_57 dX6_init_60 dX6_init_61 rfl inX6 tyX6_ok nmX6 ⟨ha, by omega⟩ (by omega) A5 J5 (by decide) flX6_43 rfl rfl (by decide +kernel) (fun _ => rfl) (fun _ => rfl) (Nat.le_of_ble_eq_true rfl) dX6_init_64 (fun E6 J6 A6 O6 => ?_)
  have S6 : E6 (a + 49) = .inl (gC G 2, 2, .inr (.inr (.inr (.inr (fun _ => none))))) := by
    rw [O6 _ (by omega) (by omega), O5 _ (by omega) (by omega)]
    exact S4
  refine wc_ic X dX6_init_67 ?_
  refine wc_is X dX6_init_68 rfl (by decide) rfl ?_
  have loop : ∀ (k i : Nat), i + k = 2 → ∀ F : Nat → va_E, Jn G E F a (a + 49) (a + 74 + 47 * i) → F a = .inr (6, [.ref (a + 1), .ref (a + 5), .ref (a + 47), .ref (a + 49), .ref (a + 50), .ref (a + 62), .int 0]) → F (a + 49) = .inl (gC G 2, 2, .inr (.inr (.inr (.inr (fun j => if j < i then some (a + 74 + 47 * j) else none))))) → Wc p l e ({ frames := 4, cells := 167, slots := 14684, locals := 73 } : Room) s m [Value.ref a].toArray below meth c G (MQ below (va_Qv (S := Nat → va_E) (fun E2 => (∀ q, q < a → E2 q = E q) ∧ Ok G E2 a (a + 168)) (fun E2 t => Bw G (a + 168) E2 t.heap) (gA G)) [Value.ref a].toArray s 167 14684 (gA G)) 2 (a + 74 + 47 * i) F [(1, iV (i : Int)), (0, .ref a)] 69 [] (73 + 47 * i) (7392 + 3646 * i) := by
    intro k
    induction k with
    | zero =>
      intro i hi F JF AF SF
      have hi10 : i = 2 := by omega
      subst hi10
      refine wc_il X dX6_init_69 rfl 0 rfl ?_
      refine wc_ic X dX6_init_70 ?_
      refine wc_cge (tgt := 93) X (by omega) (by omega) dX6_init_71 (by decide) (fun _ => ?_) (fun h => absurd (by omega) h)
      refine wc_re (a := a + 49) (x := gF G (M0 G) (a + 49)) (fun H h => ?_) ?_
      · rw [SF] at h
        rw [gf10 hT49]
        have h' : H[a + 49]? = some (vp_cell _ _) := h
        show H[a + 49]? = some (vp_cell _ _)
        rw [h', vp_cell_q, vp_cell_q]
        refine congrArg some (arrV_c (fun j hj => ?_))
        rw [if_pos hj, show a + 49 + 25 + 47 * j = a + 74 + 47 * j by omega]
      refine wc_vret X ⟨fun q hq => ?_, fun q h1 h2 => ?_⟩ dX6_init_93
      · rw [uE_n _ _ (by omega)]; exact JF.1 q hq
      · by_cases hq1 : q = a + 49
        · rw [hq1, uE_s]
        · rw [uE_n _ _ hq1]
          by_cases hq : q = a
          · rw [hq, gf6 hk]; exact AF
          · exact JF.2 q (by omega) (by omega) hq1
    | succ k ih =>
      intro i hi F JF AF SF
      refine wc_il X dX6_init_69 rfl 0 rfl ?_
      refine wc_ic X dX6_init_70 ?_
      refine wc_cge (tgt := 93) X (by omega) (by omega) dX6_init_71 (by decide) (fun h => by omega) (fun _ => ?_)
      refine wc_al X dX6_init_74 rfl 1 rfl ?_
      refine wc_get X (ci := 6) (Cn := RX6) (T := TX6) (N := 7) (j := 3) (rf := "ElasticTabs") rfl inX6 ⟨ha, by omega⟩ AF (by decide) flX6_32 rfl rfl dX6_init_75 ?_
      refine wc_il X dX6_init_78 rfl 0 rfl ?_
      refine wc_el X hAO (ci := 1) (Cn := RX1) (T := TX1) (N := 3) (ty0 := tyX1) (fs := [.int 0, .null, .null]) (sz2 := a + 74 + 47 * i + 47) (t0 := 2) (a := a) (b := a + 49) (n := 2) (i := i) (f2 := fun j => if j < i + 1 then some (a + 74 + 47 * j) else none) (E0 := E) rfl inX1 tyX1_ok clX6_30 insX1 iniX1 (fun j hj => by rcases (show j = 0 ∨ j = 1 ∨ j = 2 by omega) with rfl | rfl | rfl <;> rfl) (fun E1 h1 => ctX1_init hG (by omega) (by omega) (hTp i (by omega)) h1) coX1_init mlX6_46 imX1_init rfl rfl (by decide +kernel) rfl rfl (by decide) (Nat.le_of_ble_eq_true rfl) (by show 73 + 47 * i + 1 + 46 ≤ 167; omega) (by show 7392 + 3646 * i + 3 + 3643 ≤ 14684; omega) dX6_init_79 dX6_init_82 dX6_init_83 dX6_init_86 rfl (gf1 (hTp i (by omega)) (by omega)) (by omega) SF (by omega) (by decide) (fun j => ?_) JF (fun F2 J2 A2 S2 => ?_)
      · by_cases hj : j = i
        · rw [if_pos hj, if_pos (by omega), hj]
        · rw [if_neg hj]
          by_cases hj2 : j < i
          · rw [if_pos hj2, if_pos (by omega)]
          · rw [if_neg hj2, if_neg (by omega)]
      refine wc_inc X dX6_init_87 0 rfl (by decide) rfl ?_
      refine wc_goto (tgt := 69) X dX6_init_90 (by decide) ?_
      have h := ih (i + 1) (by omega) F2 (by rw [show a + 74 + 47 * (i + 1) = a + 74 + 47 * i + 47 by omega]; exact J2) (by rw [A2]; exact AF) S2
      rw [show a + 74 + 47 * (i + 1) = a + 74 + 47 * i + 47 by omega, show 73 + 47 * (i + 1) = 73 + 47 * i + 1 + 46 by omega, show 7392 + 3646 * (i + 1) = 7392 + 3646 * i + 3 + 3643 by omega, show ((i + 1 : Nat) : Int) = (i : Int) + 1 by omega] at h
      exact h
  exact loop 2 0 rfl E6 J6 A6 S6
