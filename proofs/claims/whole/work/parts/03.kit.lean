theorem gdV {own C : String} {idx : Nat} {y : MethodName} {bytes : ByteArray} {maxL : Nat} {ret : Option FieldType} (h1 : Cond.methodLink own idx y ∈ tw) (h2 : Cond.instanceMethod y ∈ tw) (h3 : Cond.selects C y y ∈ tw) (h4 : Cond.initialized C ∈ tw) (h5 : Cond.code y bytes maxL ret ∈ tw) : GoodIn tw (wsV own idx C y (Cond.code y bytes maxL ret :: tw)) := by
  intro w hw
  simp only [wsV, List.cons_append, List.nil_append, List.mem_cons] at hw
  rcases hw with rfl | rfl | rfl | rfl | rfl | hw
  · exact tw_good _ h1
  · exact tw_good _ h2
  · exact tw_good _ h3
  · exact tw_good _ h4
  · exact tw_good _ h5
  · exact tw_good _ hw
theorem gdS {own : String} {idx : Nat} {y : MethodName} {bytes : ByteArray} {maxL : Nat} {ret : Option FieldType} (h1 : Cond.methodLink own idx y ∈ tw) (h2 : Cond.static y ∈ tw) (h4 : Cond.initialized y.cls ∈ tw) (h5 : Cond.code y bytes maxL ret ∈ tw) : GoodIn tw (va_wsS own idx y (Cond.code y bytes maxL ret :: tw)) := by
  intro w hw
  simp only [va_wsS, List.cons_append, List.nil_append, List.mem_cons] at hw
  rcases hw with rfl | rfl | rfl | rfl | hw
  · exact tw_good _ h1
  · exact tw_good _ h2
  · exact tw_good _ h4
  · exact tw_good _ h5
  · exact tw_good _ hw
theorem gdI {y : MethodName} {bytes : ByteArray} {maxL : Nat} {ret : Option FieldType} (h5 : Cond.code y bytes maxL ret ∈ tw) : GoodIn tw (Cond.code y bytes maxL ret :: tw) := by
  intro w hw
  simp only [List.mem_cons] at hw
  rcases hw with rfl | hw
  · exact tw_good _ h5
  · exact tw_good _ hw
/-! the memory: rows of numbers by address; all refs of a finished object stand at fixed places behind it, but layout and former -/
abbrev Mm : Type := Int → Int → Int
abbrev GG : Type := (Nat → ClassId) × (Nat → Nat → Nat) × (Nat → ClassId) × List Nat × (Int → Nat × Nat) × Nat × (Nat → Nat) × (Nat → Nat)
def gD (G : GG) : va_G := (G.1, G.2.1)
def gC (G : GG) : Nat → ClassId := G.2.2.1
def gL (G : GG) : List Nat := G.2.2.2.1
def gK (G : GG) : Int → Nat × Nat := G.2.2.2.2.1
def gB (G : GG) : Nat := G.2.2.2.2.2.1
def gS (G : GG) : Nat → Nat := G.2.2.2.2.2.2.1
def gV (G : GG) : Nat → Nat := G.2.2.2.2.2.2.2
def gA (G : GG) : Nat → Prop := fun q => gB G ≤ q
abbrev iV (z : Int) : Value := .int (Int32.ofInt z)
abbrev rV (z : Int) : Value := .ref z.toNat
abbrev inR (z : Int) : Prop := -2147483648 ≤ z ∧ z < 2147483648
def ur (r : Int → Int) (j x : Int) : Int → Int := fun k => if k = j then x else r k
def um (M : Mm) (a j x : Int) : Mm := fun b => if b = a then ur (M a) j x else M b
def cr (f g : Int → Int) (sp dp n : Int) : Int → Int := fun k => if dp ≤ k ∧ k < dp + n then f (sp + (k - dp)) else g k
def cp (M : Mm) (a sp d dp n : Int) : Mm := fun b => if b = d then cr (M a) (M d) sp dp n else M b
theorem um_at (M : Mm) (a j x : Int) : um M a j x a = ur (M a) j x := if_pos rfl
theorem um_ne (M : Mm) {a b : Int} (j x : Int) (h : b ≠ a) : um M a j x b = M b := if_neg h
theorem cp_at (M : Mm) (a sp d dp n : Int) : cp M a sp d dp n d = cr (M a) (M d) sp dp n := if_pos rfl
theorem cp_ne (M : Mm) {b d : Int} (a sp dp n : Int) (h : b ≠ d) : cp M a sp d dp n b = M b := if_neg h
/-- a cell, by its kind, its address and its row -/
def cR (C : Nat → ClassId) (k : Nat × Nat) (a : Int) (r : Int → Int) : va_E := match k with
  | (0, _) => .inr (0, [iV (r 0), iV (r 1), iV (r 2), iV (r 3), iV (r 4)])
  | (1, _) => .inr (1, [iV (r 0), rV (a + 1), rV (a + 5)])
  | (2, _) => .inr (2, [iV (r 0), rV (a + 1), rV (a + 2), rV (a + 3), rV (a + 4), rV (a + 5), rV (a + 6), rV (a + 7), iV (r 8), rV (a + 8), rV (a + 9), rV (a + 10), rV (a + 11)])
  | (3, _) => .inr (3, [iV (r 0), iV (r 1), iV (r 2), rV (a + 1), rV (a + 2), rV (a + 3)])
  | (4, _) => .inr (4, [iV (r 0), iV (r 1), rV (a + 1)])
  | (5, _) => .inr (5, [rV (a + 1), iV (r 1), iV (r 2), iV (r 3), iV (r 4), iV (r 5), iV (r 6), iV (r 7), iV (r 8)])
  | (6, _) => .inr (6, [rV (a + 1), rV (a + 5), rV (a + 47), rV (a + 49), rV (a + r 4), rV (a + r 5), iV (r 6)])
  | (7, _) => .inr (7, [rV (a + 1), rV (a + 2), rV (a + 3), iV (r 3), iV (r 4), iV (r 5), rV (a + 4), iV (r 7), rV (a + 5), iV (r 9), iV (r 10), iV (r 11), iV (r 12), iV (r 13), iV (r 14), iV (r 15), iV (r 16), rV (a + 6), rV (a + 7), rV (a + 8), rV (a + 9), rV (a + 10)])
  | (8, n) => .inl (C 0, n, .inl (fun j => Int32.ofInt (r (j : Int))))
  | (9, n) => .inl (C 1, n, .inl (fun j => Int32.ofInt (r (j : Int))))
  | (10, n) => .inl (C 2, n, .inr (.inr (.inr (.inr (fun j => some (a + 25 + 47 * (j : Int)).toNat)))))
  | (11, n) => .inl (C 3, n, .inr (.inr (.inr (.inr (fun j => some (a + 1 + 4 * (j : Int)).toNat)))))
  | _ => .inr (0, [])
def gF (G : GG) (M : Mm) : Nat → va_E := fun q => cR (gC G) (gK G (q : Int)) (q : Int) (M (q : Int))
/-- what stands behind an object of a kind -/
def Ty (K : Int → Nat × Nat) : Prop := ∀ a : Int,
  (K a = (1, 0) → K (a + 1) = (3, 0) ∧ K (a + 5) = (4, 0)) ∧
  (K a = (2, 0) → K (a + 1) = (8, 12) ∧ K (a + 2) = (8, 12) ∧ K (a + 3) = (8, 12) ∧ K (a + 4) = (8, 12) ∧ K (a + 5) = (8, 288) ∧ K (a + 6) = (8, 288) ∧ K (a + 7) = (8, 288) ∧ K (a + 8) = (0, 0) ∧ K (a + 9) = (8, 288) ∧ K (a + 10) = (8, 288) ∧ K (a + 11) = (8, 288)) ∧
  (K a = (3, 0) → K (a + 1) = (8, 12) ∧ K (a + 2) = (8, 288) ∧ K (a + 3) = (8, 24)) ∧
  (K a = (4, 0) → K (a + 1) = (11, 10)) ∧
  (K a = (5, 0) → K (a + 1) = (8, 150)) ∧
  (K a = (6, 0) → K (a + 1) = (3, 0) ∧ K (a + 5) = (4, 0) ∧ K (a + 47) = (5, 0) ∧ K (a + 49) = (10, 2)) ∧
  (K a = (7, 0) → K (a + 1) = (8, 327) ∧ K (a + 2) = (8, 327) ∧ K (a + 3) = (8, 12) ∧ K (a + 4) = (8, 3270) ∧ K (a + 5) = (8, 150) ∧ K (a + 6) = (9, 2) ∧ K (a + 7) = (8, 654) ∧ K (a + 8) = (8, 6540) ∧ K (a + 9) = (8, 2) ∧ K (a + 10) = (8, 2)) ∧
  (K a = (10, 2) → ∀ j : Int, 0 ≤ j → j < 2 → K (a + 25 + 47 * j) = (1, 0)) ∧
  (K a = (11, 10) → ∀ j : Int, 0 ≤ j → j < 10 → K (a + 1 + 4 * j) = (3, 0))
def Rg (M : Mm) : Prop := ∀ a j : Int, inR (M a j)
def Dy (K : Int → Nat × Nat) (M : Mm) : Prop := ∀ a : Int, K a = (6, 0) → K (a + M a 4) = (2, 0) ∧ K (a + M a 5) = (2, 0)
def Gd (G : GG) : Prop := (∀ f : Nat → va_E, va_D (gA G) (va_pl (gL G) f)) ∧ (∀ a : Int, (gK G a).1 < 12 → 0 ≤ a ∧ a.toNat ∈ gL G) ∧ Ty (gK G)
def Wp (G : GG) (M : Mm) (H : Heap) : Prop := va_P (gD G) vwCl (va_pl (gL G) (gF G M)) H ∧ Rg M ∧ Dy (gK G) M
abbrev gT (G : GG) : List (ClassId × FieldType) := [(gC G 0, .int), (gC G 1, .boolean), (gC G 2, .object RX1), (gC G 3, .object RX3)]
def strIdx : List Nat := [104, 106, 108, 110, 112, 114, 116, 118, 120, 122, 124, 126, 128, 130, 132, 134, 136, 138]
def strTxt : List String := ["left", "right", "middle", "point", "add", "drop", "split", "join", "put", "cut", "align", "pad", "least", "nt", "nn", "nns", "nw", "n"]
def strLen : List Nat := [4, 5, 6, 5, 3, 4, 5, 4, 3, 3, 5, 3, 5, 2, 2, 3, 2, 1]
def strByt : List (List Int32) := [[108, 101, 102, 116], [114, 105, 103, 104, 116], [109, 105, 100, 100, 108, 101], [112, 111, 105, 110, 116], [97, 100, 100], [100, 114, 111, 112], [115, 112, 108, 105, 116], [106, 111, 105, 110], [112, 117, 116], [99, 117, 116], [97, 108, 105, 103, 110], [112, 97, 100], [108, 101, 97, 115, 116], [110, 116], [110, 110], [110, 110, 115], [110, 119], [110]]
def Kn (G : GG) (U : State) (H : Heap) : Prop :=
  va_K (gD G) vwCl (gT G) U ∧ vk_S 18 strLen strByt (gS G) (gV G) (gA G) U H ∧ (∀ i : Nat, i < 18 → vk_R RX5 (strIdx.getD i 0) (strTxt.getD i "") (gS G i) U) ∧
  va_Z "java/lang/String" "COMPACT_STRINGS" "Z" (.int 1) (gA G) U H ∧ va_Zq "jdk/internal/util/Preconditions" "SIOOBE_FORMATTER" "Ljava/util/function/BiFunction;" (gA G) U H
theorem Kn.to {G : GG} {s U : State} {H : Heap} {locs : List Loc} (h : Kn G s s.heap) (hW : s.WarmedH U.vm) (hU : U.heap = H) (hS : va_S (gA G) s.heap H locs) : Kn G U U.heap := by
  obtain ⟨h1, h2, h3, h4, h5⟩ := h
  subst hU
  exact ⟨va_K.moved hW.alike h1, vk_S.moved hW.alike (h2.kept hS.2.1), fun i hi => vk_R.warm hW (h3 i hi), va_Z.moved hW.alike (h4.kept hS.2.1), va_Zq.moved hW.alike (h5.kept hS.2.1)⟩
theorem Kn.blind {G : GG} {U : State} (g : JFrame) (mk : MethodId) (a : Array Value) (h : Kn G U U.heap) : Kn G (U.calling g mk a) (U.calling g mk a).heap := by
  obtain ⟨h1, h2, h3, h4, h5⟩ := h
  exact ⟨va_K.moved (u := U) (U := U.calling g mk a) (Vm.Alike.refl U.vm) h1, vk_S.moved (u := U) (U := U.calling g mk a) (Vm.Alike.refl U.vm) h2, fun i hi => vk_R.same (u := U) rfl (h3 i hi), va_Z.moved (u := U) (U := U.calling g mk a) (Vm.Alike.refl U.vm) h4, va_Zq.moved (u := U) (U := U.calling g mk a) (Vm.Alike.refl U.vm) h5⟩
def Pre (G : GG) (M : Mm) (av : List Value) : Array Value → State → Prop := va_Pc av (fun U => Kn G U U.heap ∧ Wp G M U.heap)
def PostI (G : GG) (Q : Int → Mm → Prop) : Array Value → State → Outcome → State → Prop := va_Qi (S := Mm) (fun r u => ∃ z : Int, r = Int32.ofInt z ∧ inR z ∧ Q z u) (fun u t => Wp G u t.heap) (gA G)
def PostL (G : GG) (Q : Int64 → Mm → Prop) : Array Value → State → Outcome → State → Prop := va_Ql (S := Mm) Q (fun u t => Wp G u t.heap) (gA G)
def PostV (G : GG) (Q : Mm → Prop) : Array Value → State → Outcome → State → Prop := va_Qv (S := Mm) Q (fun u t => Wp G u t.heap) (gA G)
def PostR (G : GG) (kd : Nat × Nat) (Q : Int → Mm → Prop) : Array Value → State → Outcome → State → Prop := va_Qr (S := Int × Mm) (fun u => gK G u.1 = kd ∧ Q u.1 u.2) (fun u a t => a = u.1.toNat ∧ Wp G u.2 t.heap) (gA G)
def PostS (G : GG) (Q : Nat → Mm → Prop) : Array Value → State → Outcome → State → Prop := va_Qr (S := Nat × Mm) (fun u => u.1 < 18 ∧ Q u.1 u.2) (fun u a t => a = gS G u.1 ∧ Wp G u.2 t.heap) (gA G)
def Cx (p : Program) (s : State) (m : MethodId) (args : Array Value) (meth : Method) (c : Code) (cc : ByteArray) (nL : Nat) (ret : Option FieldType) (own : String) (G : GG) : Prop :=
  p.tables.exec = Jvm.exec ∧ c.code = cc ∧ c.maxLocals = nL ∧ s.vm.findClass own = some m.cls ∧ (∀ w ∈ tw, w.before args s = true) ∧ meth.sig.returnType = ret ∧ meth.locks = false ∧ Kn G s s.heap ∧ Gd G
def Wt (p : Program) (l : Launch) (e : Env) (R : Room) (s : State) (m : MethodId) (args : Array Value) (below : List Frame) (meth : Method) (c : Code) (G : GG) (Qf : State → Prop) (nL : Nat) (M : Mm) (lv : List (Nat × Value)) (pc : Nat) (st : List Value) : Prop :=
  ∀ (H : Heap) (locs : List Loc) (ls : Array Slot), Wp G M H → va_S (gA G) s.heap H locs → lv_has ls nL lv → W p l e R s m args below meth c H locs 0 0 Qf (F0 m pc ls st)
/-! numbers -/
theorem i_bmod {z : Int} (h : inR z) : z.bmod (2 ^ 32) = z := by
  rw [Int.bmod_eq_of_le (by omega) (by omega)]
theorem i_toInt {z : Int} (h : inR z) : (Int32.ofInt z).toInt = z := by
  rw [Int32.toInt_ofInt]
  exact i_bmod h
theorem i_r0 : inR 0 := by omega
theorem in_ix {i n : Int} (h : 0 ≤ i ∧ i < n) (hn : n ≤ 2147483648) : inR i := by omega
theorem in_max {a b : Int} (ha : inR a) (hb : inR b) : inR (max a b) := by omega
theorem in_min {a b : Int} (ha : inR a) (hb : inR b) : inR (min a b) := by omega
theorem i_rc (n : Int) (h : (decide (-2147483648 ≤ n) && decide (n < 2147483648)) = true) : inR n := by
  simp only [Bool.and_eq_true, decide_eq_true_eq] at h
  exact h
theorem i_lt {a b : Int} (ha : inR a) (hb : inR b) : Int32.ofInt a < Int32.ofInt b ↔ a < b := by
  rw [Int32.lt_iff_toInt_lt, i_toInt ha, i_toInt hb]
theorem i_le {a b : Int} (ha : inR a) (hb : inR b) : Int32.ofInt a ≤ Int32.ofInt b ↔ a ≤ b := by
  rw [Int32.le_iff_toInt_le, i_toInt ha, i_toInt hb]
theorem i_eq {a b : Int} (ha : inR a) (hb : inR b) : Int32.ofInt a = Int32.ofInt b ↔ a = b := by
  rw [← Int32.toInt_inj, i_toInt ha, i_toInt hb]
theorem i_0 : (0 : Int32) = Int32.ofInt 0 := rfl
theorem i_clamp {i : Int} (h0 : 0 ≤ i) (h1 : i < 2147483648) : (Int32.ofInt i).toNatClampNeg = i.toNat := by
  show (Int32.ofInt i).toInt.toNat = i.toNat
  rw [i_toInt ⟨by omega, h1⟩]
theorem i_in {i : Int} {n : Nat} (h0 : 0 ≤ i) (h1 : i < n) (hn : n ≤ 1000000) : vp_in (Int32.ofInt i) n := by
  rw [vp_in_iff, i_toInt ⟨by omega, by omega⟩]
  omega
theorem i_nI {i : Int} (h0 : 0 ≤ i) : Int32.ofInt i = nI i.toNat := by
  obtain ⟨n, rfl⟩ := Int.eq_ofNat_of_zero_le h0
  rw [Int.toNat_natCast]
  exact Int32.ofInt_eq_ofNat
theorem i_rg (x : Int32) : inR x.toInt := by
  have h1 := Int32.le_toInt x
  have h2 := Int32.toInt_lt x
  omega
theorem i_ne0 {b : Int} (h : 0 < b ∧ b < 2147483648) : ¬ Int32.ofInt b = 0 := by
  rw [i_0, i_eq ⟨by omega, h.2⟩ i_r0]
  omega
theorem i_div {a b : Int} (ha : 0 ≤ a ∧ a < 2147483648) (hb : 0 < b ∧ b < 2147483648) : Int32.ofInt (a / b) = Int32.ofInt a / Int32.ofInt b := by
  obtain ⟨n, rfl⟩ := Int.eq_ofNat_of_zero_le ha.1
  obtain ⟨d, rfl⟩ := Int.eq_ofNat_of_zero_le (show 0 ≤ b by omega)
  have h := pk_div (a := n) (d := d) (by omega) (by omega) (by omega)
  rw [i_nI (i := (n : Int)) (by omega), i_nI (i := (d : Int)) (by omega), i_nI (i := (n : Int) / (d : Int)) (Int.ediv_nonneg (by omega) (by omega)), Int.toNat_natCast, Int.toNat_natCast, h]
  congr 1
theorem i_rem {a b : Int} (ha : 0 ≤ a ∧ a < 2147483648) (hb : 0 < b ∧ b < 2147483648) : Int32.ofInt (a % b) = Int32.ofInt a - Int32.ofInt a / Int32.ofInt b * Int32.ofInt b := by
  obtain ⟨n, rfl⟩ := Int.eq_ofNat_of_zero_le ha.1
  obtain ⟨d, rfl⟩ := Int.eq_ofNat_of_zero_le (show 0 ≤ b by omega)
  have h := pk_rem (a := n) (d := d) (by omega) (by omega) (by omega)
  have h0 : (0 : Int) ≤ (n : Int) % (d : Int) := Int.emod_nonneg _ (by omega)
  rw [i_nI (i := (n : Int)) (by omega), i_nI (i := (d : Int)) (by omega), i_nI (i := (n : Int) % (d : Int)) h0, Int.toNat_natCast, Int.toNat_natCast, h]
  congr 1
theorem i_max {a b : Int} (ha : inR a) (hb : inR b) : (if Int32.ofInt a < Int32.ofInt b then Int32.ofInt b else Int32.ofInt a) = Int32.ofInt (max a b) := by
  by_cases h : a < b
  · rw [if_pos ((i_lt ha hb).mpr h)]
    congr 1
    omega
  · rw [if_neg (fun q => h ((i_lt ha hb).mp q))]
    congr 1
    omega
theorem i_min {a b : Int} (ha : inR a) (hb : inR b) : (if Int32.ofInt b < Int32.ofInt a then Int32.ofInt b else Int32.ofInt a) = Int32.ofInt (min a b) := by
  by_cases h : b < a
  · rw [if_pos ((i_lt hb ha).mpr h)]
    congr 1
    omega
  · rw [if_neg (fun q => h ((i_lt hb ha).mp q))]
    congr 1
    omega
def iOr (a b : Int) : Int := (Int32.ofInt a ||| Int32.ofInt b).toInt
def iAnd (a b : Int) : Int := (Int32.ofInt a &&& Int32.ofInt b).toInt
def iShl (a b : Int) : Int := (Int32.ofInt a <<< (Int32.ofInt b &&& 31)).toInt
