/-! ===== what the Statement gives of the start ===== -/
abbrev fl1 : List Cond := flatC (Jvm.Cond.and given_1 narrow_1)
def tmS (i : Nat) : Term := .string RX5 (strIdx.getD i 0)
set_option maxRecDepth 100000 in
theorem sx_ex : ∀ i, i < 18 → Cond.exactly (tmS i) "java/lang/String" ∈ fl1 := by decide +kernel
set_option maxRecDepth 100000 in
theorem sx_co : ∀ i, i < 18 → Cond.eq (.field (tmS i) "java/lang/String" "coder" "B") (.int 0) ∈ fl1 := by decide +kernel
set_option maxRecDepth 100000 in
theorem sx_ar : ∀ i, i < 18 → Cond.arrayOf (.field (tmS i) "java/lang/String" "value" "[B") .byte ∈ fl1 := by decide +kernel
set_option maxRecDepth 100000 in
theorem sx_le : ∀ i, i < 18 → Cond.eq (.length (.field (tmS i) "java/lang/String" "value" "[B")) (.int (Int32.ofNat (strLen.getD i 0))) ∈ fl1 := by decide +kernel
set_option maxRecDepth 100000 in
theorem sx_el : ∀ i, i < 18 → ∀ j, j < strLen.getD i 0 → Cond.eq (.elem (.field (tmS i) "java/lang/String" "value" "[B") (.int (Int32.ofNat j))) (.int ((strByt.getD i []).getD j 0)) ∈ fl1 := by decide +kernel
def isNE : Cond → Bool
  | .not (.eq _ _) => true
  | _ => false
def Prs : List (Nat × Nat) := [(4, 5), (4, 6), (5, 6), (4, 7), (5, 7), (6, 7), (4, 8), (5, 8), (6, 8), (7, 8), (4, 9), (5, 9), (6, 9), (7, 9), (8, 9), (4, 10), (5, 10), (6, 10), (7, 10), (8, 10), (9, 10), (4, 11), (5, 11), (6, 11), (7, 11), (8, 11), (9, 11), (10, 11), (4, 12), (5, 12), (6, 12), (7, 12), (8, 12), (9, 12), (10, 12), (11, 12), (4, 13), (5, 13), (6, 13), (7, 13), (8, 13), (9, 13), (10, 13), (11, 13), (12, 13), (4, 14), (5, 14), (6, 14), (7, 14), (8, 14), (9, 14), (10, 14), (11, 14), (12, 14), (13, 14), (4, 15), (5, 15), (6, 15), (7, 15), (8, 15), (9, 15), (10, 15), (11, 15), (12, 15), (13, 15), (14, 15), (4, 16), (5, 16), (6, 16), (7, 16), (8, 16), (9, 16), (10, 16), (11, 16), (12, 16), (13, 16), (14, 16), (15, 16), (4, 17), (5, 17), (6, 17), (7, 17), (8, 17), (9, 17), (10, 17), (11, 17), (12, 17), (13, 17), (14, 17), (15, 17), (16, 17), (4, 0), (5, 0), (6, 0), (7, 0), (8, 0), (9, 0), (10, 0), (11, 0), (12, 0), (13, 0), (14, 0), (15, 0), (16, 0), (17, 0), (4, 1), (5, 1), (6, 1), (7, 1), (8, 1), (9, 1), (10, 1), (11, 1), (12, 1), (13, 1), (14, 1), (15, 1), (16, 1), (17, 1), (0, 1), (4, 2), (5, 2), (6, 2), (7, 2), (8, 2), (9, 2), (10, 2), (11, 2), (12, 2), (13, 2), (14, 2), (15, 2), (16, 2), (17, 2), (0, 2), (1, 2), (4, 3), (5, 3), (6, 3), (7, 3), (8, 3), (9, 3), (10, 3), (11, 3), (12, 3), (13, 3), (14, 3), (15, 3), (16, 3), (17, 3), (0, 3), (1, 3), (2, 3)]
set_option maxRecDepth 100000 in
theorem sx_f : fl1.filter isNE = Prs.map (fun p => Cond.not (Cond.eq (tmS p.1) (tmS p.2))) := by decide +kernel
set_option maxRecDepth 100000 in
theorem sx_pb : ((List.range 18).all fun i => (List.range 18).all fun j => i == j || (Prs.contains (i, j) || Prs.contains (j, i))) = true := by decide +kernel
theorem sx_p : ∀ i, i < 18 → ∀ j, j < 18 → i ≠ j → (i, j) ∈ Prs ∨ (j, i) ∈ Prs := by
  intro i hi j hj hij
  have h1 := List.all_eq_true.mp sx_pb i (List.mem_range.mpr hi)
  have h2 := List.all_eq_true.mp h1 j (List.mem_range.mpr hj)
  simp only [Bool.or_eq_true, beq_iff_eq, List.contains_iff_mem] at h2
  rcases h2 with h | h
  · exact absurd h hij
  · exact h
theorem sx_q {i j : Nat} (h : (i, j) ∈ Prs) : Cond.not (Cond.eq (tmS i) (tmS j)) ∈ fl1 := by
  have h1 : Cond.not (Cond.eq (tmS i) (tmS j)) ∈ fl1.filter isNE := by
    rw [sx_f]
    exact List.mem_map.mpr ⟨(i, j), h, rfl⟩
  exact (List.mem_filter.mp h1).1
theorem sx_ne : ∀ i, i < 18 → ∀ j, j < 18 → i ≠ j → (Cond.not (Cond.eq (tmS i) (tmS j)) ∈ fl1 ∨ Cond.not (Cond.eq (tmS j) (tmS i)) ∈ fl1) := fun i hi j hj hij => (sx_p i hi j hj hij).imp sx_q sx_q
set_option maxRecDepth 100000 in
theorem sx_le2 : ∀ i, i < 18 → strLen.getD i 0 < 2 ^ 31 := by decide +kernel
set_option maxRecDepth 100000 in
theorem sx_cs : Cond.eq (.static "java/lang/String" "COMPACT_STRINGS" "Z") (.int 1) ∈ fl1 := by decide +kernel
set_option maxRecDepth 100000 in
theorem sx_sf : Cond.isRef (.static "jdk/internal/util/Preconditions" "SIOOBE_FORMATTER" "Ljava/util/function/BiFunction;") ∈ fl1 := by decide +kernel
set_option maxRecDepth 100000 in
theorem sx_rf : ∀ i, i < 18 → Cond.stringRef RX5 (strIdx.getD i 0) (strTxt.getD i "") ∈ tables_1 := by decide +kernel
set_option maxRecDepth 100000 in
theorem sx_ls1 : Cond.laysStatic "java/lang/String" "COMPACT_STRINGS" "Z" ∈ tables_1 := by decide +kernel
set_option maxRecDepth 100000 in
theorem sx_ls2 : Cond.laysStatic "jdk/internal/util/Preconditions" "SIOOBE_FORMATTER" "Ljava/util/function/BiFunction;" ∈ tables_1 := by decide +kernel
set_option maxRecDepth 100000 in
theorem sx_in1 : Cond.initialized "java/lang/String" ∈ tables_1 := by decide +kernel
set_option maxRecDepth 100000 in
theorem sx_in2 : Cond.initialized "jdk/internal/util/Preconditions" ∈ tables_1 := by decide +kernel
set_option maxRecDepth 100000 in
theorem sx_ao3 : Cond.arrayOver (.object RX3) ∈ tables_1 := List.mem_of_getElem? (i := 66) (by decide +kernel)
set_option maxRecDepth 100000 in
theorem sx_ao1 : Cond.arrayOver (.object RX1) ∈ tables_1 := List.mem_of_getElem? (i := 121) (by decide +kernel)
theorem arr_of {s : State} {cA comp : ClassId} {kA : Class} {ty : FieldType} (h2 : s.vm.classes[cA]? = some kA) (h3 : kA.kind = .array comp ty) : ArrOfT s cA ty := fun n z => ⟨fun k h => (by cases h), kA, h2, comp, h3⟩
/-- all that the law's walk knows at its entry -/
theorem start_kn {p : Program} {s : State} {m : MethodId} {meth : Method} {c : Code} {b L : Nat} {xs : Nat → Int32} (C0 : lw_At p s m meth c b L xs) : ∃ (dC : Nat → ClassId) (dI : Nat → Nat → Nat) (cs : Nat → ClassId) (S V : Nat → Nat), Kn (mkG dC dI cs s.heap.size S V) s s.heap ∧ AO s := by
  obtain ⟨hx, hb, hr, hml, hown, hts, hX, hbl, hlocks, hgv⟩ := C0
  have hgf := flat_of_before _ hgv
  have htb : ∀ w ∈ tables_1, w.before #[Value.ref b] s = true := fun w h => hts w (List.mem_append_right _ h)
  have htw : ∀ w ∈ tw, w.before #[Value.ref b] s = true := fun w h => hts w (List.mem_filter.mp h).1
  have hA : ∀ a : Nat, a < s.heap.size → ¬ (fun q => s.heap.size ≤ q) a := fun a h => by show ¬ s.heap.size ≤ a; omega
  obtain ⟨c0, i0, h0⟩ := u_known (C := RX0) (T := TX0) (N := 5) (n := 5) htw inX0 (htw _ insX0)
  obtain ⟨c1, i1, h1⟩ := u_known (C := RX1) (T := TX1) (N := 3) (n := 3) htw inX1 (htw _ insX1)
  obtain ⟨c2, i2, h2⟩ := u_known (C := RX2) (T := TX2) (N := 13) (n := 13) htw inX2 (htw _ insX2)
  obtain ⟨c3, i3, h3⟩ := u_known (C := RX3) (T := TX3) (N := 6) (n := 6) htw inX3 (htw _ insX3)
  obtain ⟨c4, i4, h4⟩ := u_known (C := RX4) (T := TX4) (N := 3) (n := 3) htw inX4 (htw _ insX4)
  obtain ⟨c5, i5, h5⟩ := u_known (C := RX5) (T := TX5) (N := 9) (n := 9) htw inX5 (htw _ insX5)
  obtain ⟨c6, i6, h6⟩ := u_known (C := RX6) (T := TX6) (N := 7) (n := 7) htw inX6 (htw _ insX6)
  obtain ⟨c7, i7, h7⟩ := u_known (C := RX7) (T := TX7) (N := 22) (n := 22) htw inX7 (htw _ insX7)
  obtain ⟨a0, ka0, co0, e01, e02, e03⟩ := Cond.arrayClass_spec (htw _ ac_int)
  obtain ⟨a1, ka1, co1, e11, e12, e13⟩ := Cond.arrayClass_spec (htw _ ac_boolean)
  obtain ⟨co2, a2, ka2, e21, e22, e23, e24, e25⟩ := Cond.arrayOver_spec (htb _ sx_ao1)
  obtain ⟨co3, a3, ka3, e31, e32, e33, e34, e35⟩ := Cond.arrayOver_spec (htb _ sx_ao3)
  obtain ⟨S, V, hS, hSe⟩ := vk_Sof (N := 18) (tm := tmS) (len := strLen) (byt := strByt) (A := fun q => s.heap.size ≤ q) sx_le2 (fun i hi => hgf _ (sx_ex i hi)) (fun i hi => hgf _ (sx_co i hi)) (fun i hi => hgf _ (sx_ar i hi)) (fun i hi => hgf _ (sx_le i hi)) (fun i hi j hj => hgf _ (sx_el i hi j hj)) (fun i j hi hj hij => (sx_ne i hi j hj hij).imp (fun h => hgf _ h) (fun h => hgf _ h)) hA
  refine ⟨fun k => [c0, c1, c2, c3, c4, c5, c6, c7].getD k 0, fun k => [i0, i1, i2, i3, i4, i5, i6, i7].getD k (fun _ => 0), fun k => [a0, a1, a2, a3].getD k 0, S, V, ⟨⟨fun k q hq => ?_, fun k q hq => ?_⟩, hS, fun i hi => vk_R.of (htb _ (sx_rf i hi)) (hSe i hi), va_Zof (htb _ sx_ls1) (htb _ sx_in1) (va_eqt (hgf _ sx_cs)) hA, va_Zqof (htb _ sx_ls2) (htb _ sx_in2) (hgf _ sx_sf) hA⟩, va_AO.of (htb _ sx_ao1), va_AO.of (htb _ sx_ao3)⟩
  · match k, hq with
    | 0, hq => cases hq; exact h0
    | 1, hq => cases hq; exact h1
    | 2, hq => cases hq; exact h2
    | 3, hq => cases hq; exact h3
    | 4, hq => cases hq; exact h4
    | 5, hq => cases hq; exact h5
    | 6, hq => cases hq; exact h6
    | 7, hq => cases hq; exact h7
    | k + 8, hq => simp [vwCl] at hq
  · match k, hq with
    | 0, hq => cases hq; exact ⟨arr_of e02 e03, e01⟩
    | 1, hq => cases hq; exact ⟨arr_of e12 e13, e11⟩
    | 2, hq => cases hq; exact ⟨arr_of e23 e24, ka2, co2, e23, e24, e21, e25⟩
    | 3, hq => cases hq; exact ⟨arr_of e33 e34, ka3, co3, e33, e34, e31, e35⟩
    | k + 4, hq => simp [gT] at hq
