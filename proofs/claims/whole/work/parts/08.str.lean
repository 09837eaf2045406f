theorem strOk : ∀ i, i < 18 → ∀ j, j < strLen.getD i 0 → (((((strByt.getD i []).getD j 0) &&& 255).toUInt32 % 65536).toInt32 = (strByt.getD i []).getD j 0 ∧ narrow .char (.int ((strByt.getD i []).getD j 0)) = .int ((strByt.getD i []).getD j 0)) := by decide +kernel
theorem strLenOk : ∀ i, i < 18 → strLen.getD i 0 ≤ 6 := by decide +kernel
theorem sLen_rg {i : Nat} (hi : i < 18) : inR (sLen i) := by
  have := strLenOk i hi
  unfold sLen
  omega
section STR
variable {p : Program} {l : Launch} {e : Env} {R : Room} {s : State} {m : MethodId} {args : Array Value} {below : List Frame} {meth : Method} {c : Code} {G : GG} {Qf : State → Prop} {nL : Nat} {M : Mm} {lv lv2 : List (Nat × Value)} {pc : Nat} {st rest : List Value} {cc : ByteArray} {ret : Option FieldType} {own : String}
theorem xs_coder (X : Cx p s m args meth c cc nL ret RJ0 G) {i : Nat} (hi : i < 18) (hd : decode cc pc = .ok (.getfield 15, 3)) (k : Wt p l e R s m args below meth c G Qf nL M lv (pc + 3) (iV 0 :: st)) : Wt p l e R s m args below meth c G Qf nL M lv pc (.ref (gS G i) :: st) := fun H locs ls hP hS hl => vk_getf X.1 X.2.1 (X.2.2.2.2.2.2.2.1.2.1.1 i hi).2.1 hS X.2.2.2.1 (X.2.2.2.2.1 _ flJ0_15) (fun _ h => h) hd (k H locs ls hP hS hl)
theorem xs_value (X : Cx p s m args meth c cc nL ret RJ0 G) {i : Nat} (hi : i < 18) (hd : decode cc pc = .ok (.getfield 9, 3)) (k : Wt p l e R s m args below meth c G Qf nL M lv (pc + 3) (.ref (gV G i) :: st)) : Wt p l e R s m args below meth c G Qf nL M lv pc (.ref (gS G i) :: st) := fun H locs ls hP hS hl => vk_getf X.1 X.2.1 (X.2.2.2.2.2.2.2.1.2.1.1 i hi).2.2.1 hS X.2.2.2.1 (X.2.2.2.2.1 _ flJ0_9) (fun _ h => h) hd (k H locs ls hP hS hl)
theorem xs_cs (X : Cx p s m args meth c cc nL ret RJ0 G) (hd : decode cc pc = .ok (.getstatic 38, 3)) (k : Wt p l e R s m args below meth c G Qf nL M lv (pc + 3) (iV 1 :: st)) : Wt p l e R s m args below meth c G Qf nL M lv pc st := fun H locs ls hP hS hl => va_gets X.1 X.2.1 X.2.2.2.2.2.2.2.1.2.2.2.1 hS X.2.2.2.1 (X.2.2.2.2.1 _ flJ0_38) (fun _ h => h) hd (k H locs ls hP hS hl)
theorem xs_fmt (X : Cx p s m args meth c cc nL ret RJ0 G) (hd : decode cc pc = .ok (.getstatic 1053, 3)) (k : ∀ v : Value, (v = .null ∨ ∃ t, v = .ref t) → Wt p l e R s m args below meth c G Qf nL M lv (pc + 3) (v :: st)) : Wt p l e R s m args below meth c G Qf nL M lv pc st := fun H locs ls hP hS hl => by
  rcases X.2.2.2.2.2.2.2.1.2.2.2.2 with hz | ⟨t, hz⟩
  · exact va_gets X.1 X.2.1 hz hS X.2.2.2.1 (X.2.2.2.2.1 _ flJ0_1053) (fun _ h => h) hd (k _ (Or.inl rfl) H locs ls hP hS hl)
  · exact va_gets X.1 X.2.1 hz hS X.2.2.2.1 (X.2.2.2.2.1 _ flJ0_1053) (fun _ h => h) hd (k _ (Or.inr ⟨t, rfl⟩) H locs ls hP hS hl)
theorem xs_len (X : Cx p s m args meth c cc nL ret own G) {i : Nat} (hi : i < 18) (hd : decode cc pc = .ok (.arraylength, 1)) (k : Wt p l e R s m args below meth c G Qf nL M lv (pc + 1) (iV (sLen i) :: st)) : Wt p l e R s m args below meth c G Qf nL M lv pc (.ref (gV G i) :: st) := fun H locs ls hP hS hl => va_tlen X.1 X.2.1 (X.2.2.2.2.2.2.2.1.2.1.1 i hi).2.2.2 hS (Int32.ofInt_eq_ofNat).symm hd (k H locs ls hP hS hl)
theorem xs_bald (X : Cx p s m args meth c cc nL ret own G) {i : Nat} {k : Int} (hi : i < 18) (hk : 0 ≤ k ∧ k < sLen i) (hd : decode cc pc = .ok (.baload, 1)) (kk : Wt p l e R s m args below meth c G Qf nL M lv (pc + 1) (.int ((strByt.getD i []).getD k.toNat 0) :: st)) : Wt p l e R s m args below meth c G Qf nL M lv pc (iV k :: .ref (gV G i) :: st) := fun H locs ls hP hS hl => by
  have h6 := strLenOk i hi
  have hk2 : k < ((strLen.getD i 0 : Nat) : Int) := hk.2
  exact va_tb X.1 X.2.1 (X.2.2.2.2.2.2.2.1.2.1.1 i hi).2.2.2 hS (i_in hk.1 hk2 (by omega)) (by rw [i_clamp hk.1 (by omega)]) hd (kk H locs ls hP hS hl)
theorem xs_nret {ty : FieldType} (X : Cx p s m args meth c cc nL (some ty) own G) {Q : Int → Mm → Prop} {z : Int} (hn : narrow ty (iV z) = iV z) (gz : inR z) (hq : Q z M) (hd : decode cc pc = .ok (.ireturn, 1)) : Wt p l e R s m args below meth c G (MQ below (PostI G Q) args s 0 0 (gA G)) nL M lv pc [iV z] := fun H locs ls hP hS hl => W.zret X.1 X.2.1 X.2.2.2.2.2.1 hn (fun t ht hW => ⟨⟨_, M, rfl, ⟨z, rfl, gz, hq⟩, by subst ht; exact hP⟩, hS.F ht⟩) hS.2.2 hd X.2.2.2.2.2.2.1
theorem xs_pop (X : Cx p s m args meth c cc nL ret own G) {v : Value} (hv : v.category = 1) (hd : decode cc pc = .ok (.pop, 1)) (k : Wt p l e R s m args below meth c G Qf nL M lv (pc + 1) st) : Wt p l e R s m args below meth c G Qf nL M lv pc (v :: st) := fun H locs ls hP hS hl => lv_pop X.1 X.2.1 hd hv (k H locs ls hP hS hl)
theorem r_VJ (X : Cx p s m args meth c cc nL ret own G) {y : MethodName} {bytes : ByteArray} {maxL idx i : Nat} {rc : Option FieldType} {rm : Room} {av : List Value} {Qc : Array Value → State → Outcome → State → Prop} {H : Heap} {locs : List Loc} {ls : Array Slot} (hi : i < 18)
    (hM : Met l y (Cond.code y bytes maxL rc :: tw) rm (Pre G M (.ref (gS G i) :: av)) Qc 0 0 (gA G)) (hg : GoodIn tw (wsV own idx RJ0 y (Cond.code y bytes maxL rc :: tw)))
    (hd2 : y.cls = RJ0 ∧ y.cls ≠ "java/lang/invoke/MethodHandle" ∧ y.cls ≠ "java/lang/invoke/VarHandle" ∧ (parseMethodDescriptor y.desc).map (fun d => d.parameters.length) = some av.length)
    (hrc : rm.cells = 0 ∧ rm.slots = 0) (hR : rm.frames + 1 ≤ R.frames ∧ 8 + (maxL + 11) + rm.locals ≤ R.locals)
    (hst : st = av.reverse ++ .ref (gS G i) :: rest) (hw : (rest.map fun v => v.category).sum ≤ 8) (hd : decode cc pc = .ok (.invokevirtual idx, 3)) (hP : Wp G M H) (hS : va_S (gA G) s.heap H locs) (hl : lv_has ls nL lv) :
    va_Run p l e R s m args below meth c H locs 0 0 0 0 (F0 m pc ls st) rest (Qc (Value.ref (gS G i) :: av).toArray) (gA G) :=
  va_runV (As := av) (rest := rest) ⟨X.1, X.2.1, X.2.2.1, X.2.2.2.1, X.2.2.2.2.1⟩ hM (cwV av.length X.2.2.2.2.1 hg rfl hrc.1 hrc.2 hd2 hR)
    ⟨p_blind G M _, vk_recv X.2.2.2.2.2.2.2.1.2.1 hi hS, fun U hU hW => ⟨rfl, X.2.2.2.2.2.2.2.1.to hW hU hS, by rw [hU]; exact hP⟩⟩ rfl rfl hl.1 hst (lv_room hw) hd ⟨Nat.zero_le _, Nat.zero_le _⟩
theorem xs_call (X : Cx p s m args meth c cc nL ret own G) {y : MethodName} {bytes : ByteArray} {maxL idx i : Nat} {rc : Option FieldType} {rm : Room} (av rest : List Value) {Qc : Int → Mm → Prop} (hi : i < 18)
    (hM : Met l y (Cond.code y bytes maxL rc :: tw) rm (Pre G M (.ref (gS G i) :: av)) (PostI G Qc) 0 0 (gA G)) (hg : GoodIn tw (wsV own idx RJ0 y (Cond.code y bytes maxL rc :: tw)))
    (hd2 : y.cls = RJ0 ∧ y.cls ≠ "java/lang/invoke/MethodHandle" ∧ y.cls ≠ "java/lang/invoke/VarHandle" ∧ (parseMethodDescriptor y.desc).map (fun d => d.parameters.length) = some av.length)
    (hrc : rm.cells = 0 ∧ rm.slots = 0) (hR : rm.frames + 1 ≤ R.frames ∧ 8 + (maxL + 11) + rm.locals ≤ R.locals)
    (hst : st = av.reverse ++ .ref (gS G i) :: rest) (hw : (rest.map fun v => v.category).sum ≤ 8) (hd : decode cc pc = .ok (.invokevirtual idx, 3)) (k : ∀ (z : Int) (M2 : Mm), inR z → Qc z M2 → Wt p l e R s m args below meth c G Qf nL M2 lv (pc + 3) (iV z :: rest)) : Wt p l e R s m args below meth c G Qf nL M lv pc st :=
  fun H locs ls hP hS hl => va_calli (r_VJ X hi hM hg hd2 hrc hR hst hw hd hP hS hl) hS (fun q _ h => h) (fun q h => h) (fun r u t H1 locs1 ht hvm hw1 hB hz1 hk1 hS1 => by obtain ⟨z, rfl, hz, hq⟩ := hw1; exact k z u hz hq H1 locs1 ls (by rw [← ht]; exact hB) hS1 hl)
end STR
abbrev rmJ0c : Room := { frames := 0, cells := 0, slots := 0, locals := 0 }
abbrev rmJ0l : Room := { frames := 1, cells := 0, slots := 0, locals := 20 }
abbrev rmJ0k : Room := { frames := 1, cells := 0, slots := 0, locals := 22 }
abbrev rmJ1a : Room := { frames := 2, cells := 0, slots := 0, locals := 43 }
abbrev rmJ0a : Room := { frames := 3, cells := 0, slots := 0, locals := 64 }
theorem pdJ3_checkIndex_8e157 : yJ3_checkIndex_8e157.cls ≠ "java/lang/invoke/MethodHandle" ∧ yJ3_checkIndex_8e157.cls ≠ "java/lang/invoke/VarHandle" ∧ (parseMethodDescriptor yJ3_checkIndex_8e157.desc).map (fun d => d.parameters.length) = some 3 := ⟨by decide, by decide, by decide +kernel⟩
theorem pdJ0_checkIndex_df160 : yJ0_checkIndex_df160.cls ≠ "java/lang/invoke/MethodHandle" ∧ yJ0_checkIndex_df160.cls ≠ "java/lang/invoke/VarHandle" ∧ (parseMethodDescriptor yJ0_checkIndex_df160.desc).map (fun d => d.parameters.length) = some 2 := ⟨by decide, by decide, by decide +kernel⟩
theorem pdJ1_charAt_3b067 : yJ1_charAt_3b067.cls ≠ "java/lang/invoke/MethodHandle" ∧ yJ1_charAt_3b067.cls ≠ "java/lang/invoke/VarHandle" ∧ (parseMethodDescriptor yJ1_charAt_3b067.desc).map (fun d => d.parameters.length) = some 2 := ⟨by decide, by decide, by decide +kernel⟩
theorem pdJ0_charAt_5068e : yJ0_charAt_5068e.cls = RJ0 ∧ yJ0_charAt_5068e.cls ≠ "java/lang/invoke/MethodHandle" ∧ yJ0_charAt_5068e.cls ≠ "java/lang/invoke/VarHandle" ∧ (parseMethodDescriptor yJ0_charAt_5068e.desc).map (fun d => d.parameters.length) = some 1 := ⟨rfl, by decide, by decide, by decide +kernel⟩
theorem gdJ0_335 : GoodIn tw (wsV RJ0 335 RJ0 yJ0_coder_7d493 (Cond.code yJ0_coder_7d493 cJ0_coder_7d493 1 (some .byte) :: tw)) := gdV mlJ0_335 imJ0_coder_7d493 seJ0_coder_7d493 iniJ0 coJ0_coder_7d493
theorem gdJ0_492 : GoodIn tw (wsV RJ0 492 RJ0 yJ0_isLatin1_aae02 (Cond.code yJ0_isLatin1_aae02 cJ0_isLatin1_aae02 1 (some .boolean) :: tw)) := gdV mlJ0_492 imJ0_isLatin1_aae02 seJ0_isLatin1_aae02 iniJ0 coJ0_isLatin1_aae02
theorem gdJ0_1059 : GoodIn tw (va_wsS RJ0 1059 yJ3_checkIndex_8e157 (Cond.code yJ3_checkIndex_8e157 cJ3_checkIndex_8e157 3 (some .int) :: tw)) := gdS mlJ0_1059 stJ3_checkIndex_8e157 iniJ3 coJ3_checkIndex_8e157
theorem gdJ1_9 : GoodIn tw (va_wsS RJ1 9 yJ0_checkIndex_df160 (Cond.code yJ0_checkIndex_df160 cJ0_checkIndex_df160 2 none :: tw)) := gdS mlJ1_9 stJ0_checkIndex_df160 iniJ0 coJ0_checkIndex_df160
theorem gdJ0_495 : GoodIn tw (va_wsS RJ0 495 yJ1_charAt_3b067 (Cond.code yJ1_charAt_3b067 cJ1_charAt_3b067 2 (some .char) :: tw)) := gdS mlJ0_495 stJ1_charAt_3b067 iniJ1 coJ1_charAt_3b067
set_option maxRecDepth 100000 in
theorem ctJ0_coder {l : Launch} {G : GG} (hG : Gd G) {i : Nat} (hi : i < 18) {M : Mm} : Met l yJ0_coder_7d493 (Cond.code yJ0_coder_7d493 cJ0_coder_7d493 1 (some .byte) :: tw) rmJ0c (Pre G M [.ref (gS G i)]) (PostI G (fun z u => z = 0 ∧ u = M)) 0 0 (gA G) := by
  refine met_of (own := RJ0) (by decide) rfl hG (Nat.le_of_ble_eq_true rfl) (fun p e s m below meth c X => ?_)
  generalize hargs : ([.ref (gS G i)] : List Value).toArray = args at X ⊢
  show Wt p l e rmJ0c s m args below meth c G (MQ below (PostI G (fun z u => z = 0 ∧ u = M)) args s 0 0 (gA G)) 1 M [(0, .ref (gS G i))] 0 []
  refine xs_cs X dJ0_coder_7d493_0 ?_
  refine xt_zeq (tgt := 13) X (i_rc 1 rfl) dJ0_coder_7d493_3 (by decide) (fun hc => absurd hc (by decide)) (fun hc => ?_)
  refine xt_als X dJ0_coder_7d493_6 rfl 0 rfl ?_
  refine xs_coder X hi dJ0_coder_7d493_7 ?_
  refine xt_goto (tgt := 14) X dJ0_coder_7d493_10 (by decide) ?_
  exact xs_nret X (by decide) (i_rc 0 rfl) ⟨rfl, rfl⟩ dJ0_coder_7d493_14
set_option maxRecDepth 100000 in
theorem ctJ0_isLatin1 {l : Launch} {G : GG} (hG : Gd G) {i : Nat} (hi : i < 18) {M : Mm} : Met l yJ0_isLatin1_aae02 (Cond.code yJ0_isLatin1_aae02 cJ0_isLatin1_aae02 1 (some .boolean) :: tw) rmJ0c (Pre G M [.ref (gS G i)]) (PostI G (fun z u => z = 1 ∧ u = M)) 0 0 (gA G) := by
  refine met_of (own := RJ0) (by decide) rfl hG (Nat.le_of_ble_eq_true rfl) (fun p e s m below meth c X => ?_)
  generalize hargs : ([.ref (gS G i)] : List Value).toArray = args at X ⊢
  show Wt p l e rmJ0c s m args below meth c G (MQ below (PostI G (fun z u => z = 1 ∧ u = M)) args s 0 0 (gA G)) 1 M [(0, .ref (gS G i))] 0 []
  refine xs_cs X dJ0_isLatin1_aae02_0 ?_
  refine xt_zeq (tgt := 17) X (i_rc 1 rfl) dJ0_isLatin1_aae02_3 (by decide) (fun hc => absurd hc (by decide)) (fun hc => ?_)
  refine xt_als X dJ0_isLatin1_aae02_6 rfl 0 rfl ?_
  refine xs_coder X hi dJ0_isLatin1_aae02_7 ?_
  refine xt_zne (tgt := 17) X (i_rc 0 rfl) dJ0_isLatin1_aae02_10 (by decide) (fun hc => absurd rfl hc) (fun hc => ?_)
  refine xt_ic X dJ0_isLatin1_aae02_13 ?_
  refine xt_goto (tgt := 18) X dJ0_isLatin1_aae02_14 (by decide) ?_
  exact xt_zret X (Or.inr rfl) ⟨rfl, rfl⟩ dJ0_isLatin1_aae02_18
set_option maxRecDepth 100000 in
theorem ctJ0_length {l : Launch} {G : GG} (hG : Gd G) {i : Nat} (hi : i < 18) {M : Mm} : Met l yJ0_length_8abf5 (Cond.code yJ0_length_8abf5 cJ0_length_8abf5 1 (some .int) :: tw) rmJ0l (Pre G M [.ref (gS G i)]) (PostI G (fun z u => z = sLen i ∧ u = M)) 0 0 (gA G) := by
  refine met_of (own := RJ0) (by decide) rfl hG (Nat.le_of_ble_eq_true rfl) (fun p e s m below meth c X => ?_)
  generalize hargs : ([.ref (gS G i)] : List Value).toArray = args at X ⊢
  show Wt p l e rmJ0l s m args below meth c G (MQ below (PostI G (fun z u => z = sLen i ∧ u = M)) args s 0 0 (gA G)) 1 M [(0, .ref (gS G i))] 0 []
  refine xt_als X dJ0_length_8abf5_0 rfl 0 rfl ?_
  refine xs_value X hi dJ0_length_8abf5_1 ?_
  refine xs_len X hi dJ0_length_8abf5_4 ?_
  refine xt_als X dJ0_length_8abf5_5 rfl 0 rfl ?_
  refine xs_call X [] [iV (sLen i)] hi (ctJ0_coder hG hi) gdJ0_335 ⟨rfl, by decide, by decide, by decide +kernel⟩ ⟨rfl, rfl⟩ ⟨Nat.le_of_ble_eq_true rfl, Nat.le_of_ble_eq_true rfl⟩ rfl (Nat.le_of_ble_eq_true rfl) dJ0_length_8abf5_6 (fun z M2 hz h => ?_)
  obtain ⟨rfl, rfl⟩ := h
  intro H locs ls hP hS hl
  refine lv_ishr X.1 X.2.1 dJ0_length_8abf5_9 ?_
  have e0 : Int32.ofInt 0 = (0 : Int32) := rfl
  rw [e0, sb_shr0]
  exact xt_iret X (sLen_rg hi) ⟨rfl, rfl⟩ dJ0_length_8abf5_10 H locs ls hP hS hl
set_option maxRecDepth 100000 in
theorem ctJ3_checkIndex {l : Launch} {G : GG} (hG : Gd G) {a b : Int} {v : Value} (hv : v = .null ∨ ∃ t, v = .ref t) (ha : 0 ≤ a ∧ a < b) (hb : inR b) {M : Mm} : Met l yJ3_checkIndex_8e157 (Cond.code yJ3_checkIndex_8e157 cJ3_checkIndex_8e157 3 (some .int) :: tw) rmJ0c (Pre G M [iV a, iV b, v]) (PostI G (fun z u => z = a ∧ u = M)) 0 0 (gA G) := by
  have hc1 : v.category = 1 := by rcases hv with rfl | ⟨t, rfl⟩ <;> rfl
  have hlen : (lg_sl [iV a, iV b, v]).length ≤ 3 := by rcases hv with rfl | ⟨t, rfl⟩ <;> exact Nat.le_of_ble_eq_true rfl
  refine met_of (own := RJ3) (by decide) rfl hG hlen (fun p e s m below meth c X => ?_)
  generalize hargs : ([iV a, iV b, v] : List Value).toArray = args at X ⊢
  have hlv : lv_args 0 [iV a, iV b, v] = [(0, iV a), (1, iV b), (2, v)] := by rcases hv with rfl | ⟨t, rfl⟩ <;> rfl
  rw [hlv]
  have ga : inR a := by omega
  refine xt_il X dJ3_checkIndex_8e157_0 rfl 0 rfl ?_
  refine xt_zlt (tgt := 9) X ga dJ3_checkIndex_8e157_1 (by decide) (fun hc => absurd hc (by omega)) (fun hc => ?_)
  refine xt_il X dJ3_checkIndex_8e157_4 rfl 0 rfl ?_
  refine xt_il X dJ3_checkIndex_8e157_5 rfl 1 rfl ?_
  refine xt_clt (tgt := 16) X ga hb dJ3_checkIndex_8e157_6 (by decide) (fun hc => ?_) (fun hc => absurd ha.2 hc)
  refine xt_il X dJ3_checkIndex_8e157_16 rfl 0 rfl ?_
  exact xt_iret X ga ⟨rfl, rfl⟩ dJ3_checkIndex_8e157_17
set_option maxRecDepth 100000 in
theorem ctJ0_checkIndex {l : Launch} {G : GG} (hG : Gd G) {a b : Int} (ha : 0 ≤ a ∧ a < b) (hb : inR b) {M : Mm} : Met l yJ0_checkIndex_df160 (Cond.code yJ0_checkIndex_df160 cJ0_checkIndex_df160 2 none :: tw) rmJ0k (Pre G M [iV a, iV b]) (PostV G (fun u => u = M)) 0 0 (gA G) := by
  refine met_of (own := RJ0) (by decide) rfl hG (Nat.le_of_ble_eq_true rfl) (fun p e s m below meth c X => ?_)
  generalize hargs : ([iV a, iV b] : List Value).toArray = args at X ⊢
  show Wt p l e rmJ0k s m args below meth c G (MQ below (PostV G (fun u => u = M)) args s 0 0 (gA G)) 2 M [(0, iV a), (1, iV b)] 0 []
  refine xt_il X dJ0_checkIndex_df160_0 rfl 0 rfl ?_
  refine xt_il X dJ0_checkIndex_df160_1 rfl 1 rfl ?_
  refine xs_fmt X dJ0_checkIndex_df160_2 (fun v hv => ?_)
  refine xt_cSI X [iV a, iV b, v] [] (ctJ3_checkIndex hG hv ha hb) gdJ0_1059 pdJ3_checkIndex_8e157 ⟨rfl, rfl⟩ ⟨Nat.le_of_ble_eq_true rfl, Nat.le_of_ble_eq_true rfl⟩ rfl (Nat.le_of_ble_eq_true rfl) dJ0_checkIndex_df160_5 (fun z M2 hz h => ?_)
  obtain ⟨rfl, rfl⟩ := h
  refine xt_pop X rfl dJ0_checkIndex_df160_8 ?_
  exact xt_vret X rfl dJ0_checkIndex_df160_9
set_option maxRecDepth 100000 in
theorem ctJ1_charAt {l : Launch} {G : GG} (hG : Gd G) {i : Nat} {k : Int} (hi : i < 18) (hk : 0 ≤ k ∧ k < sLen i) {M : Mm} : Met l yJ1_charAt_3b067 (Cond.code yJ1_charAt_3b067 cJ1_charAt_3b067 2 (some .char) :: tw) rmJ1a (Pre G M [.ref (gV G i), iV k]) (PostI G (fun z u => z = sCh i k ∧ u = M)) 0 0 (gA G) := by
  refine met_of (own := RJ1) (by decide) rfl hG (Nat.le_of_ble_eq_true rfl) (fun p e s m below meth c X => ?_)
  generalize hargs : ([.ref (gV G i), iV k] : List Value).toArray = args at X ⊢
  show Wt p l e rmJ1a s m args below meth c G (MQ below (PostI G (fun z u => z = sCh i k ∧ u = M)) args s 0 0 (gA G)) 2 M [(0, .ref (gV G i)), (1, iV k)] 0 []
  refine xt_il X dJ1_charAt_3b067_0 rfl 1 rfl ?_
  refine xt_als X dJ1_charAt_3b067_1 rfl 0 rfl ?_
  refine xs_len X hi dJ1_charAt_3b067_2 ?_
  refine xt_cSV X [iV k, iV (sLen i)] [] (ctJ0_checkIndex hG hk (sLen_rg hi)) gdJ1_9 pdJ0_checkIndex_df160 ⟨rfl, rfl⟩ ⟨Nat.le_of_ble_eq_true rfl, Nat.le_of_ble_eq_true rfl⟩ rfl (Nat.le_of_ble_eq_true rfl) dJ1_charAt_3b067_3 (fun M2 h => ?_)
  obtain rfl := h
  refine xt_als X dJ1_charAt_3b067_6 rfl 0 rfl ?_
  refine xt_il X dJ1_charAt_3b067_7 rfl 1 rfl ?_
  refine xs_bald X hi hk dJ1_charAt_3b067_8 ?_
  refine xt_si X dJ1_charAt_3b067_9 (by decide) ?_
  have h6 := strLenOk i hi
  have hk2 : k < ((strLen.getD i 0 : Nat) : Int) := hk.2
  obtain ⟨o1, o2⟩ := strOk i hi k.toNat (by omega)
  intro H locs ls hP hS hl
  refine lv_iand X.1 X.2.1 dJ1_charAt_3b067_12 ?_
  refine lv_i2c (v := (strByt.getD i []).getD k.toNat 0) X.1 X.2.1 dJ1_charAt_3b067_13 o1 ?_
  have ez : (strByt.getD i []).getD k.toNat 0 = Int32.ofInt (sCh i k) := (Int32.ofInt_toInt _).symm
  rw [ez] at o2 ⊢
  exact xs_nret X o2 (i_rg _) ⟨rfl, rfl⟩ dJ1_charAt_3b067_14 H locs ls hP hS hl
set_option maxRecDepth 100000 in
theorem ctJ0_charAt {l : Launch} {G : GG} (hG : Gd G) {i : Nat} {k : Int} (hi : i < 18) (hk : 0 ≤ k ∧ k < sLen i) {M : Mm} : Met l yJ0_charAt_5068e (Cond.code yJ0_charAt_5068e cJ0_charAt_5068e 2 (some .char) :: tw) rmJ0a (Pre G M [.ref (gS G i), iV k]) (PostI G (fun z u => z = sCh i k ∧ u = M)) 0 0 (gA G) := by
  refine met_of (own := RJ0) (by decide) rfl hG (Nat.le_of_ble_eq_true rfl) (fun p e s m below meth c X => ?_)
  generalize hargs : ([.ref (gS G i), iV k] : List Value).toArray = args at X ⊢
  show Wt p l e rmJ0a s m args below meth c G (MQ below (PostI G (fun z u => z = sCh i k ∧ u = M)) args s 0 0 (gA G)) 2 M [(0, .ref (gS G i)), (1, iV k)] 0 []
  refine xt_als X dJ0_charAt_5068e_0 rfl 0 rfl ?_
  refine xs_call X [] [] hi (ctJ0_isLatin1 hG hi) gdJ0_492 ⟨rfl, by decide, by decide, by decide +kernel⟩ ⟨rfl, rfl⟩ ⟨Nat.le_of_ble_eq_true rfl, Nat.le_of_ble_eq_true rfl⟩ rfl (Nat.le_of_ble_eq_true rfl) dJ0_charAt_5068e_1 (fun z M2 hz h => ?_)
  obtain ⟨rfl, rfl⟩ := h
  refine xt_zeq (tgt := 16) X (i_rc 1 rfl) dJ0_charAt_5068e_4 (by decide) (fun hc => absurd hc (by decide)) (fun hc => ?_)
  refine xt_als X dJ0_charAt_5068e_7 rfl 0 rfl ?_
  refine xs_value X hi dJ0_charAt_5068e_8 ?_
  refine xt_il X dJ0_charAt_5068e_11 rfl 1 rfl ?_
  refine xt_cSI X [.ref (gV G i), iV k] [] (ctJ1_charAt hG hi hk) gdJ0_495 pdJ1_charAt_3b067 ⟨rfl, rfl⟩ ⟨Nat.le_of_ble_eq_true rfl, Nat.le_of_ble_eq_true rfl⟩ rfl (Nat.le_of_ble_eq_true rfl) dJ0_charAt_5068e_12 (fun z M2 hz h => ?_)
  obtain ⟨rfl, rfl⟩ := h
  have hk2 : k < ((strLen.getD i 0 : Nat) : Int) := hk.2
  obtain ⟨o1, o2⟩ := strOk i hi k.toNat (by omega)
  have ez : (strByt.getD i []).getD k.toNat 0 = Int32.ofInt (sCh i k) := (Int32.ofInt_toInt _).symm
  rw [ez] at o2
  exact xs_nret X o2 hz ⟨rfl, rfl⟩ dJ0_charAt_5068e_15
section STR2
variable {p : Program} {l : Launch} {e : Env} {R : Room} {s : State} {m : MethodId} {args : Array Value} {below : List Frame} {meth : Method} {c : Code} {G : GG} {Qf : State → Prop} {nL : Nat} {M : Mm} {lv lv2 : List (Nat × Value)} {pc : Nat} {st : List Value} {cc : ByteArray} {ret : Option FieldType} {own : String}
theorem xt_slen (X : Cx p s m args meth c cc nL ret own G) {i idx : Nat} (hi : i < 18) (rest : List Value) (hst : st = .ref (gS G i) :: rest) (hw : (rest.map fun v => v.category).sum ≤ 8) (hml : Cond.methodLink own idx yJ0_length_8abf5 ∈ tw) (hR : rmJ0l.frames + 1 ≤ R.frames ∧ 8 + (1 + 11) + rmJ0l.locals ≤ R.locals) (hd : decode cc pc = .ok (.invokevirtual idx, 3)) (k : inR (sLen i) → Wt p l e R s m args below meth c G Qf nL M lv (pc + 3) (iV (sLen i) :: rest)) : Wt p l e R s m args below meth c G Qf nL M lv pc st :=
  xs_call X [] rest hi (ctJ0_length X.2.2.2.2.2.2.2.2 hi) (gdV hml imJ0_length_8abf5 seJ0_length_8abf5 iniJ0 coJ0_length_8abf5) ⟨rfl, by decide, by decide, by decide +kernel⟩ ⟨rfl, rfl⟩ hR hst hw hd (fun z M2 hz h => by obtain ⟨rfl, rfl⟩ := h; exact k hz)
theorem xt_schar (X : Cx p s m args meth c cc nL ret own G) {i idx : Nat} {q : Int} (hi : i < 18) (hq : 0 ≤ q ∧ q < sLen i) (rest : List Value) (hst : st = iV q :: .ref (gS G i) :: rest) (hw : (rest.map fun v => v.category).sum ≤ 8) (hml : Cond.methodLink own idx yJ0_charAt_5068e ∈ tw) (hR : rmJ0a.frames + 1 ≤ R.frames ∧ 8 + (2 + 11) + rmJ0a.locals ≤ R.locals) (hd : decode cc pc = .ok (.invokevirtual idx, 3)) (k : inR (sCh i q) → Wt p l e R s m args below meth c G Qf nL M lv (pc + 3) (iV (sCh i q) :: rest)) : Wt p l e R s m args below meth c G Qf nL M lv pc st :=
  xs_call X [iV q] rest hi (ctJ0_charAt X.2.2.2.2.2.2.2.2 hi hq) (gdV hml imJ0_charAt_5068e seJ0_charAt_5068e iniJ0 coJ0_charAt_5068e) pdJ0_charAt_5068e ⟨rfl, rfl⟩ hR hst hw hd (fun z M2 hz h => by obtain ⟨rfl, rfl⟩ := h; exact k hz)
end STR2
