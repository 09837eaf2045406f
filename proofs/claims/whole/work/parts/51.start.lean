/-! ===== what is there at the start ===== -/
def M0 (G : GG) : Mm := fun a j => if gK G a = (3, 0) ∧ j = 1 then 1 else if gK G a = (6, 0) ∧ j = 4 then 50 else if gK G a = (6, 0) ∧ j = 5 then 62 else if a = (gB G : Int) + 169 ∧ j = 1 then 1 else 0
theorem m0_z {G : GG} {a : Int} (h3 : gK G a ≠ (3, 0)) (h6 : gK G a ≠ (6, 0)) (hn : a ≠ (gB G : Int) + 169) (j : Int) : M0 G a j = 0 := by
  unfold M0
  rw [if_neg (fun z => h3 z.1), if_neg (fun z => h6 z.1), if_neg (fun z => h6 z.1), if_neg (fun z => hn z.1)]
def Ok (G : GG) (E : Nat → va_E) (a b : Nat) : Prop := ∀ q : Nat, a ≤ q → q < b → E q = gF G (M0 G) q
def Jn (G : GG) (E0 E : Nat → va_E) (a h sz : Nat) : Prop := (∀ q : Nat, q < a → E q = E0 q) ∧ ∀ q : Nat, a < q → q < sz → q ≠ h → E q = gF G (M0 G) q
theorem rvn (q i : Nat) : rV ((q : Int) + (i : Int)) = .ref (q + i) := by
  show Value.ref ((q : Int) + (i : Int)).toNat = _
  rw [show ((q : Int) + (i : Int)).toNat = q + i by omega]
theorem kc {K : Int → Nat × Nat} {a i : Nat} {x : Nat × Nat} (h : K ((a : Int) + (i : Int)) = x) : K ((a + i : Nat) : Int) = x := by
  rw [show ((a + i : Nat) : Int) = (a : Int) + (i : Int) by omega]
  exact h
section GF
variable {G : GG} {q N : Nat}
theorem gf8 (hk : gK G (q : Int) = (8, N)) (hn : q ≠ gB G + 169) : gF G (M0 G) q = .inl (gC G 0, N, .inl (fun _ => 0)) := by
  unfold gF
  rw [hk]
  show Sum.inl (gC G 0, N, Sum.inl (fun j : Nat => Int32.ofInt (M0 G (q : Int) (j : Int)))) = _
  congr 4
  funext j
  rw [m0_z (by rw [hk]; intro h; cases h) (by rw [hk]; intro h; cases h) (by omega)]
  rfl
theorem gf9 (hk : gK G (q : Int) = (9, N)) (hn : q ≠ gB G + 169) : gF G (M0 G) q = .inl (gC G 1, N, .inl (fun _ => 0)) := by
  unfold gF
  rw [hk]
  show Sum.inl (gC G 1, N, Sum.inl (fun j : Nat => Int32.ofInt (M0 G (q : Int) (j : Int)))) = _
  congr 4
  funext j
  rw [m0_z (by rw [hk]; intro h; cases h) (by rw [hk]; intro h; cases h) (by omega)]
  rfl
theorem gf0 (hk : gK G (q : Int) = (0, 0)) (hn : q ≠ gB G + 169) : gF G (M0 G) q = .inr (0, [.int 0, .int 0, .int 0, .int 0, .int 0]) := by
  unfold gF
  rw [hk]
  show Sum.inr (0, [iV (M0 G (q : Int) 0), iV (M0 G (q : Int) 1), iV (M0 G (q : Int) 2), iV (M0 G (q : Int) 3), iV (M0 G (q : Int) 4)]) = _
  have mz := m0_z (G := G) (a := (q : Int)) (by rw [hk]; intro h; cases h) (by rw [hk]; intro h; cases h) (by omega)
  rw [mz 0, mz 1, mz 2, mz 3, mz 4]
  rfl
theorem gf1 (hk : gK G (q : Int) = (1, 0)) (hn : q ≠ gB G + 169) : gF G (M0 G) q = .inr (1, [.int 0, .ref (q + 1), .ref (q + 5)]) := by
  unfold gF
  rw [hk]
  show Sum.inr (1, [iV (M0 G (q : Int) 0), rV ((q : Int) + (1 : Nat)), rV ((q : Int) + (5 : Nat))]) = _
  have mz := m0_z (G := G) (a := (q : Int)) (by rw [hk]; intro h; cases h) (by rw [hk]; intro h; cases h) (by omega)
  rw [mz 0, rvn, rvn]
  rfl
theorem gf2 (hk : gK G (q : Int) = (2, 0)) (hn : q ≠ gB G + 169) : gF G (M0 G) q = .inr (2, [.int 0, .ref (q + 1), .ref (q + 2), .ref (q + 3), .ref (q + 4), .ref (q + 5), .ref (q + 6), .ref (q + 7), .int 0, .ref (q + 8), .ref (q + 9), .ref (q + 10), .ref (q + 11)]) := by
  unfold gF
  rw [hk]
  show Sum.inr (2, [iV (M0 G (q : Int) 0), rV ((q : Int) + (1 : Nat)), rV ((q : Int) + (2 : Nat)), rV ((q : Int) + (3 : Nat)), rV ((q : Int) + (4 : Nat)), rV ((q : Int) + (5 : Nat)), rV ((q : Int) + (6 : Nat)), rV ((q : Int) + (7 : Nat)), iV (M0 G (q : Int) 8), rV ((q : Int) + (8 : Nat)), rV ((q : Int) + (9 : Nat)), rV ((q : Int) + (10 : Nat)), rV ((q : Int) + (11 : Nat))]) = _
  have mz := m0_z (G := G) (a := (q : Int)) (by rw [hk]; intro h; cases h) (by rw [hk]; intro h; cases h) (by omega)
  rw [mz 0, mz 8, rvn, rvn, rvn, rvn, rvn, rvn, rvn, rvn, rvn, rvn, rvn]
  rfl
theorem gf3 (hk : gK G (q : Int) = (3, 0)) (hn : q ≠ gB G + 169) : gF G (M0 G) q = .inr (3, [.int 0, .int 1, .int 0, .ref (q + 1), .ref (q + 2), .ref (q + 3)]) := by
  unfold gF
  rw [hk]
  show Sum.inr (3, [iV (M0 G (q : Int) 0), iV (M0 G (q : Int) 1), iV (M0 G (q : Int) 2), rV ((q : Int) + (1 : Nat)), rV ((q : Int) + (2 : Nat)), rV ((q : Int) + (3 : Nat))]) = _
  have m0 : ∀ j, j ≠ 1 → M0 G (q : Int) j = 0 := fun j hj => by unfold M0; rw [if_neg (fun z => hj z.2), if_neg (fun z => by rw [hk] at z; cases z.1), if_neg (fun z => by rw [hk] at z; cases z.1), if_neg (fun z => hj z.2)]
  have m1 : M0 G (q : Int) 1 = 1 := by unfold M0; rw [if_pos ⟨hk, rfl⟩]
  rw [m0 0 (by decide), m0 2 (by decide), m1, rvn, rvn, rvn]
  rfl
theorem gf4 (hk : gK G (q : Int) = (4, 0)) (hn : q ≠ gB G + 169) : gF G (M0 G) q = .inr (4, [.int 0, .int 0, .ref (q + 1)]) := by
  unfold gF
  rw [hk]
  show Sum.inr (4, [iV (M0 G (q : Int) 0), iV (M0 G (q : Int) 1), rV ((q : Int) + (1 : Nat))]) = _
  have mz := m0_z (G := G) (a := (q : Int)) (by rw [hk]; intro h; cases h) (by rw [hk]; intro h; cases h) (by omega)
  rw [mz 0, mz 1, rvn]
  rfl
theorem gf5 (hk : gK G (q : Int) = (5, 0)) (hn : q ≠ gB G + 169) : gF G (M0 G) q = .inr (5, [.ref (q + 1), .int 0, .int 0, .int 0, .int 0, .int 0, .int 0, .int 0, .int 0]) := by
  unfold gF
  rw [hk]
  show Sum.inr (5, [rV ((q : Int) + (1 : Nat)), iV (M0 G (q : Int) 1), iV (M0 G (q : Int) 2), iV (M0 G (q : Int) 3), iV (M0 G (q : Int) 4), iV (M0 G (q : Int) 5), iV (M0 G (q : Int) 6), iV (M0 G (q : Int) 7), iV (M0 G (q : Int) 8)]) = _
  have mz := m0_z (G := G) (a := (q : Int)) (by rw [hk]; intro h; cases h) (by rw [hk]; intro h; cases h) (by omega)
  rw [mz 1, mz 2, mz 3, mz 4, mz 5, mz 6, mz 7, mz 8, rvn]
  rfl
theorem gf7 (hk : gK G (q : Int) = (7, 0)) (hn : q ≠ gB G + 169) : gF G (M0 G) q = .inr (7, [.ref (q + 1), .ref (q + 2), .ref (q + 3), .int 0, .int 0, .int 0, .ref (q + 4), .int 0, .ref (q + 5), .int 0, .int 0, .int 0, .int 0, .int 0, .int 0, .int 0, .int 0, .ref (q + 6), .ref (q + 7), .ref (q + 8), .ref (q + 9), .ref (q + 10)]) := by
  unfold gF
  rw [hk]
  show Sum.inr (7, [rV ((q : Int) + (1 : Nat)), rV ((q : Int) + (2 : Nat)), rV ((q : Int) + (3 : Nat)), iV (M0 G (q : Int) 3), iV (M0 G (q : Int) 4), iV (M0 G (q : Int) 5), rV ((q : Int) + (4 : Nat)), iV (M0 G (q : Int) 7), rV ((q : Int) + (5 : Nat)), iV (M0 G (q : Int) 9), iV (M0 G (q : Int) 10), iV (M0 G (q : Int) 11), iV (M0 G (q : Int) 12), iV (M0 G (q : Int) 13), iV (M0 G (q : Int) 14), iV (M0 G (q : Int) 15), iV (M0 G (q : Int) 16), rV ((q : Int) + (6 : Nat)), rV ((q : Int) + (7 : Nat)), rV ((q : Int) + (8 : Nat)), rV ((q : Int) + (9 : Nat)), rV ((q : Int) + (10 : Nat))]) = _
  have mz := m0_z (G := G) (a := (q : Int)) (by rw [hk]; intro h; cases h) (by rw [hk]; intro h; cases h) (by omega)
  rw [mz 3, mz 4, mz 5, mz 7, mz 9, mz 10, mz 11, mz 12, mz 13, mz 14, mz 15, mz 16, rvn, rvn, rvn, rvn, rvn, rvn, rvn, rvn, rvn, rvn]
  rfl
theorem gf6 (hk : gK G (q : Int) = (6, 0)) : gF G (M0 G) q = .inr (6, [.ref (q + 1), .ref (q + 5), .ref (q + 47), .ref (q + 49), .ref (q + 50), .ref (q + 62), .int 0]) := by
  unfold gF
  rw [hk]
  have h4 : M0 G (q : Int) 4 = (50 : Nat) := by unfold M0; rw [if_neg (fun z => by cases z.2), if_pos ⟨hk, rfl⟩]; rfl
  have h5 : M0 G (q : Int) 5 = (62 : Nat) := by unfold M0; rw [if_neg (fun z => by cases z.2), if_neg (fun z => by cases z.2), if_pos ⟨hk, rfl⟩]; rfl
  have h6 : M0 G (q : Int) 6 = 0 := by unfold M0; rw [if_neg (fun z => by cases z.2), if_neg (fun z => by cases z.2), if_neg (fun z => by cases z.2), if_neg (fun z => by cases z.2)]
  show Sum.inr (6, [rV ((q : Int) + (1 : Nat)), rV ((q : Int) + (5 : Nat)), rV ((q : Int) + (47 : Nat)), rV ((q : Int) + (49 : Nat)), rV ((q : Int) + M0 G (q : Int) 4), rV ((q : Int) + M0 G (q : Int) 5), iV (M0 G (q : Int) 6)]) = _
  rw [h4, h5, h6, rvn, rvn, rvn, rvn, rvn, rvn]
  rfl
theorem gf10 (hk : gK G (q : Int) = (10, 2)) : gF G (M0 G) q = .inl (gC G 2, 2, .inr (.inr (.inr (.inr (fun j => some (q + 25 + 47 * j)))))) := by
  unfold gF
  rw [hk]
  show Sum.inl (gC G 2, 2, Sum.inr (Sum.inr (Sum.inr (Sum.inr (fun j : Nat => some ((q : Int) + 25 + 47 * (j : Int)).toNat))))) = _
  congr 8
theorem gf11 (hk : gK G (q : Int) = (11, 10)) : gF G (M0 G) q = .inl (gC G 3, 10, .inr (.inr (.inr (.inr (fun j => some (q + 1 + 4 * j)))))) := by
  unfold gF
  rw [hk]
  show Sum.inl (gC G 3, 10, Sum.inr (Sum.inr (Sum.inr (Sum.inr (fun j : Nat => some ((q : Int) + 1 + 4 * (j : Int)).toNat))))) = _
  congr 8
theorem arrV_c {cA : ClassId} {n : Nat} {f g : Nat → Value} (h : ∀ j, j < n → f j = g j) : arrV cA n f = arrV cA n g := by
  unfold arrV
  congr 2
  funext j
  exact h j.1 j.2
end GF
