/-! ===== the table of kinds, from the law's first cell on ===== -/
def Ktb : List (Nat × Nat) := [(6, 0), (3, 0), (8, 12), (8, 288), (8, 24), (4, 0), (11, 10), (3, 0), (8, 12), (8, 288), (8, 24), (3, 0), (8, 12), (8, 288), (8, 24), (3, 0), (8, 12), (8, 288), (8, 24), (3, 0), (8, 12), (8, 288), (8, 24), (3, 0), (8, 12), (8, 288), (8, 24), (3, 0), (8, 12), (8, 288), (8, 24), (3, 0), (8, 12), (8, 288), (8, 24), (3, 0), (8, 12), (8, 288), (8, 24), (3, 0), (8, 12), (8, 288), (8, 24), (3, 0), (8, 12), (8, 288), (8, 24), (5, 0), (8, 150), (10, 2), (2, 0), (8, 12), (8, 12), (8, 12), (8, 12), (8, 288), (8, 288), (8, 288), (0, 0), (8, 288), (8, 288), (8, 288), (2, 0), (8, 12), (8, 12), (8, 12), (8, 12), (8, 288), (8, 288), (8, 288), (0, 0), (8, 288), (8, 288), (8, 288), (1, 0), (3, 0), (8, 12), (8, 288), (8, 24), (4, 0), (11, 10), (3, 0), (8, 12), (8, 288), (8, 24), (3, 0), (8, 12), (8, 288), (8, 24), (3, 0), (8, 12), (8, 288), (8, 24), (3, 0), (8, 12), (8, 288), (8, 24), (3, 0), (8, 12), (8, 288), (8, 24), (3, 0), (8, 12), (8, 288), (8, 24), (3, 0), (8, 12), (8, 288), (8, 24), (3, 0), (8, 12), (8, 288), (8, 24), (3, 0), (8, 12), (8, 288), (8, 24), (3, 0), (8, 12), (8, 288), (8, 24), (1, 0), (3, 0), (8, 12), (8, 288), (8, 24), (4, 0), (11, 10), (3, 0), (8, 12), (8, 288), (8, 24), (3, 0), (8, 12), (8, 288), (8, 24), (3, 0), (8, 12), (8, 288), (8, 24), (3, 0), (8, 12), (8, 288), (8, 24), (3, 0), (8, 12), (8, 288), (8, 24), (3, 0), (8, 12), (8, 288), (8, 24), (3, 0), (8, 12), (8, 288), (8, 24), (3, 0), (8, 12), (8, 288), (8, 24), (3, 0), (8, 12), (8, 288), (8, 24), (3, 0), (8, 12), (8, 288), (8, 24), (7, 0), (8, 327), (8, 327), (8, 12), (8, 3270), (8, 150), (9, 2), (8, 654), (8, 6540), (8, 2), (8, 2)]
def tk (d : Nat) : Nat × Nat := Ktb.getD d (99, 0)
def kB (B : Nat) : Int → Nat × Nat := fun a => if (B : Int) ≤ a then tk (a - (B : Int)).toNat else (99, 0)
theorem kB_at (B d : Nat) : kB B (((B + d : Nat)) : Int) = tk d := by
  unfold kB
  rw [if_pos (by omega), show (((B + d : Nat) : Int) - (B : Int)).toNat = d by omega]
theorem tk_hi {d : Nat} (h : 179 ≤ d) : tk d = (99, 0) := by
  unfold tk
  rw [List.getD_eq_getElem?_getD, List.getElem?_eq_none (by show 179 ≤ d; exact h)]
  rfl
theorem kB_in {B : Nat} {a : Int} (h : (kB B a).1 < 12) : ∃ d : Nat, d < 179 ∧ a = ((B + d : Nat) : Int) := by
  unfold kB at h
  by_cases hc : (B : Int) ≤ a
  · rw [if_pos hc] at h
    refine ⟨(a - (B : Int)).toNat, ?_, by omega⟩
    rcases Nat.lt_or_ge (a - (B : Int)).toNat 179 with q | q
    · exact q
    · rw [tk_hi q] at h
      exact absurd h (by decide)
  · rw [if_neg hc] at h
    exact absurd h (by decide)
theorem kB_of {B k n : Nat} {a : Int} (h : kB B a = (k, n)) (hk : k < 12) : ∃ d : Nat, d < 179 ∧ a = ((B + d : Nat) : Int) ∧ tk d = (k, n) := by
  obtain ⟨d, h1, h2⟩ := kB_in (B := B) (a := a) (by rw [h]; exact hk)
  refine ⟨d, h1, h2, ?_⟩
  rw [← kB_at B d, ← h2]
  exact h
theorem kB_go {B d i : Nat} {x : Nat × Nat} (h : tk (d + i) = x) : kB B (((B + d : Nat) : Int) + (i : Int)) = x := by
  rw [show ((B + d : Nat) : Int) + (i : Int) = ((B + (d + i) : Nat) : Int) by omega, kB_at]
  exact h
theorem ty1 : ∀ d, d < 179 → tk d = (1, 0) → tk (d + 1) = (3, 0) ∧ tk (d + 5) = (4, 0) := by decide +kernel
theorem ty2a : ∀ d, d < 179 → tk d = (2, 0) → tk (d + 1) = (8, 12) ∧ tk (d + 2) = (8, 12) ∧ tk (d + 3) = (8, 12) ∧ tk (d + 4) = (8, 12) ∧ tk (d + 5) = (8, 288) := by decide +kernel
theorem ty2b : ∀ d, d < 179 → tk d = (2, 0) → tk (d + 6) = (8, 288) ∧ tk (d + 7) = (8, 288) ∧ tk (d + 8) = (0, 0) ∧ tk (d + 9) = (8, 288) ∧ tk (d + 10) = (8, 288) ∧ tk (d + 11) = (8, 288) := by decide +kernel
theorem ty2 : ∀ d, d < 179 → tk d = (2, 0) → tk (d + 1) = (8, 12) ∧ tk (d + 2) = (8, 12) ∧ tk (d + 3) = (8, 12) ∧ tk (d + 4) = (8, 12) ∧ tk (d + 5) = (8, 288) ∧ tk (d + 6) = (8, 288) ∧ tk (d + 7) = (8, 288) ∧ tk (d + 8) = (0, 0) ∧ tk (d + 9) = (8, 288) ∧ tk (d + 10) = (8, 288) ∧ tk (d + 11) = (8, 288) := fun d u v => ⟨(ty2a d u v).1, (ty2a d u v).2.1, (ty2a d u v).2.2.1, (ty2a d u v).2.2.2.1, (ty2a d u v).2.2.2.2, (ty2b d u v).1, (ty2b d u v).2.1, (ty2b d u v).2.2.1, (ty2b d u v).2.2.2.1, (ty2b d u v).2.2.2.2.1, (ty2b d u v).2.2.2.2.2⟩
theorem ty3 : ∀ d, d < 179 → tk d = (3, 0) → tk (d + 1) = (8, 12) ∧ tk (d + 2) = (8, 288) ∧ tk (d + 3) = (8, 24) := by decide +kernel
theorem ty4 : ∀ d, d < 179 → tk d = (4, 0) → tk (d + 1) = (11, 10) := by decide +kernel
theorem ty5 : ∀ d, d < 179 → tk d = (5, 0) → tk (d + 1) = (8, 150) := by decide +kernel
theorem ty6 : ∀ d, d < 179 → tk d = (6, 0) → tk (d + 1) = (3, 0) ∧ tk (d + 5) = (4, 0) ∧ tk (d + 47) = (5, 0) ∧ tk (d + 49) = (10, 2) := by decide +kernel
theorem ty6b : ∀ d, d < 179 → tk d = (6, 0) → tk (d + 50) = (2, 0) ∧ tk (d + 62) = (2, 0) := by decide +kernel
theorem ty7a : ∀ d, d < 179 → tk d = (7, 0) → tk (d + 1) = (8, 327) ∧ tk (d + 2) = (8, 327) ∧ tk (d + 3) = (8, 12) ∧ tk (d + 4) = (8, 3270) ∧ tk (d + 5) = (8, 150) := by decide +kernel
theorem ty7b : ∀ d, d < 179 → tk d = (7, 0) → tk (d + 6) = (9, 2) ∧ tk (d + 7) = (8, 654) ∧ tk (d + 8) = (8, 6540) ∧ tk (d + 9) = (8, 2) ∧ tk (d + 10) = (8, 2) := by decide +kernel
theorem ty7 : ∀ d, d < 179 → tk d = (7, 0) → tk (d + 1) = (8, 327) ∧ tk (d + 2) = (8, 327) ∧ tk (d + 3) = (8, 12) ∧ tk (d + 4) = (8, 3270) ∧ tk (d + 5) = (8, 150) ∧ tk (d + 6) = (9, 2) ∧ tk (d + 7) = (8, 654) ∧ tk (d + 8) = (8, 6540) ∧ tk (d + 9) = (8, 2) ∧ tk (d + 10) = (8, 2) := fun d u v => ⟨(ty7a d u v).1, (ty7a d u v).2.1, (ty7a d u v).2.2.1, (ty7a d u v).2.2.2.1, (ty7a d u v).2.2.2.2, (ty7b d u v).1, (ty7b d u v).2.1, (ty7b d u v).2.2.1, (ty7b d u v).2.2.2.1, (ty7b d u v).2.2.2.2⟩
theorem ty10 : ∀ d, d < 179 → tk d = (10, 2) → ∀ j, j < 2 → tk (d + (25 + 47 * j)) = (1, 0) := by decide +kernel
theorem ty11 : ∀ d, d < 179 → tk d = (11, 10) → ∀ j, j < 10 → tk (d + (1 + 4 * j)) = (3, 0) := by decide +kernel
theorem ty_all (B : Nat) : Ty (kB B) := by
  intro a
  refine ⟨fun h => ?_, fun h => ?_, fun h => ?_, fun h => ?_, fun h => ?_, fun h => ?_, fun h => ?_, fun h j j0 j1 => ?_, fun h j j0 j1 => ?_⟩
  · obtain ⟨d, d1, rfl, d2⟩ := kB_of h (by decide)
    obtain ⟨t1, t2⟩ := ty1 d d1 d2
    exact ⟨kB_go (i := 1) t1, kB_go (i := 5) t2⟩
  · obtain ⟨d, d1, rfl, d2⟩ := kB_of h (by decide)
    obtain ⟨t1, t2, t3, t4, t5, t6, t7, t8, t9, t10, t11⟩ := ty2 d d1 d2
    exact ⟨kB_go (i := 1) t1, kB_go (i := 2) t2, kB_go (i := 3) t3, kB_go (i := 4) t4, kB_go (i := 5) t5, kB_go (i := 6) t6, kB_go (i := 7) t7, kB_go (i := 8) t8, kB_go (i := 9) t9, kB_go (i := 10) t10, kB_go (i := 11) t11⟩
  · obtain ⟨d, d1, rfl, d2⟩ := kB_of h (by decide)
    obtain ⟨t1, t2, t3⟩ := ty3 d d1 d2
    exact ⟨kB_go (i := 1) t1, kB_go (i := 2) t2, kB_go (i := 3) t3⟩
  · obtain ⟨d, d1, rfl, d2⟩ := kB_of h (by decide)
    exact kB_go (i := 1) (ty4 d d1 d2)
  · obtain ⟨d, d1, rfl, d2⟩ := kB_of h (by decide)
    exact kB_go (i := 1) (ty5 d d1 d2)
  · obtain ⟨d, d1, rfl, d2⟩ := kB_of h (by decide)
    obtain ⟨t1, t2, t3, t4⟩ := ty6 d d1 d2
    exact ⟨kB_go (i := 1) t1, kB_go (i := 5) t2, kB_go (i := 47) t3, kB_go (i := 49) t4⟩
  · obtain ⟨d, d1, rfl, d2⟩ := kB_of h (by decide)
    obtain ⟨t1, t2, t3, t4, t5, t6, t7, t8, t9, t10⟩ := ty7 d d1 d2
    exact ⟨kB_go (i := 1) t1, kB_go (i := 2) t2, kB_go (i := 3) t3, kB_go (i := 4) t4, kB_go (i := 5) t5, kB_go (i := 6) t6, kB_go (i := 7) t7, kB_go (i := 8) t8, kB_go (i := 9) t9, kB_go (i := 10) t10⟩
  · obtain ⟨d, d1, rfl, d2⟩ := kB_of h (by decide)
    have := kB_go (B := B) (ty10 d d1 d2 j.toNat (by omega))
    rw [show ((B + d : Nat) : Int) + ((25 + 47 * j.toNat : Nat) : Int) = ((B + d : Nat) : Int) + 25 + 47 * j by omega] at this
    exact this
  · obtain ⟨d, d1, rfl, d2⟩ := kB_of h (by decide)
    have := kB_go (B := B) (ty11 d d1 d2 j.toNat (by omega))
    rw [show ((B + d : Nat) : Int) + ((1 + 4 * j.toNat : Nat) : Int) = ((B + d : Nat) : Int) + 1 + 4 * j by omega] at this
    exact this
/-- the launch's tables and the addresses from B on -/
def mkG (dC : Nat → ClassId) (dI : Nat → Nat → Nat) (cs : Nat → ClassId) (B : Nat) (S V : Nat → Nat) : GG := (dC, dI, cs, List.range' B 179, kB B, B, S, V)
section MKG
variable {dC : Nat → ClassId} {dI : Nat → Nat → Nat} {cs : Nat → ClassId} {B : Nat} {S V : Nat → Nat}
theorem pl_at (f : Nat → va_E) {k : Nat} {q : Nat × va_E} (h : (va_pl (List.range' B 179) f)[k]? = some q) : k < 179 ∧ q = (B + k, f (B + k)) := by
  unfold va_pl at h
  rw [List.getElem?_map] at h
  rcases Nat.lt_or_ge k 179 with hk | hk
  · rw [List.getElem?_range' hk] at h
    cases h
    refine ⟨hk, ?_⟩
    rw [show B + 1 * k = B + k by omega]
  · rw [List.getElem?_eq_none (by rw [List.length_range']; exact hk)] at h
    cases h
theorem gd_mk : Gd (mkG dC dI cs B S V) := by
  refine ⟨fun f => ⟨fun i j p q h1 h2 he => ?_, fun k q h => ?_⟩, fun a h => ?_, ty_all B⟩
  · obtain ⟨-, rfl⟩ := pl_at f h1
    obtain ⟨-, rfl⟩ := pl_at f h2
    have : B + i = B + j := he
    omega
  · obtain ⟨-, rfl⟩ := pl_at f h
    show B ≤ B + k
    omega
  · obtain ⟨d, d1, rfl⟩ := kB_in (B := B) h
    refine ⟨by omega, ?_⟩
    show (((B + d : Nat) : Int)).toNat ∈ List.range' B 179
    rw [Int.toNat_natCast, List.mem_range'_1]
    omega
theorem rg_0 (G : GG) : Rg (M0 G) := by
  intro a j
  unfold M0
  split
  · omega
  · split
    · omega
    · split
      · omega
      · split <;> omega
theorem m0_4 {G : GG} {a : Int} (hk : gK G a = (6, 0)) : M0 G a 4 = 50 ∧ M0 G a 5 = 62 ∧ M0 G a 6 = 0 := by
  refine ⟨?_, ?_, ?_⟩
  · unfold M0; rw [if_neg (fun z => by cases z.2), if_pos ⟨hk, rfl⟩]
  · unfold M0; rw [if_neg (fun z => by cases z.2), if_neg (fun z => by cases z.2), if_pos ⟨hk, rfl⟩]
  · unfold M0; rw [if_neg (fun z => by cases z.2), if_neg (fun z => by cases z.2), if_neg (fun z => by cases z.2), if_neg (fun z => by cases z.2)]
theorem wp_0 {E : Nat → va_E} {H : Heap} (hB : Bw (mkG dC dI cs B S V) (B + 179) E H) (hO : Ok (mkG dC dI cs B S V) E B (B + 179)) : Wp (mkG dC dI cs B S V) (M0 (mkG dC dI cs B S V)) H := by
  refine ⟨fun k q h => ?_, rg_0 _, fun a ha => ?_⟩
  · obtain ⟨hk, rfl⟩ := pl_at _ h
    rw [← hO (B + k) (by omega) (by omega)]
    exact hB.2 (B + k) (show B ≤ B + k by omega) (by omega)
  · obtain ⟨d, d1, rfl, d2⟩ := kB_of (B := B) ha (by decide)
    obtain ⟨t1, t2⟩ := ty6b d d1 d2
    obtain ⟨m4, m5, -⟩ := m0_4 (G := mkG dC dI cs B S V) ha
    rw [m4, m5]
    exact ⟨kB_go (i := 50) t1, kB_go (i := 62) t2⟩
/-- and the invariant holds there -/
theorem inv_0 : Inv (B : Int) (M0 (mkG dC dI cs B S V)) := by
  have z : ∀ d : Nat, tk d ≠ (3, 0) → tk d ≠ (6, 0) → d ≠ 169 → ∀ j, M0 (mkG dC dI cs B S V) ((B : Int) + (d : Int)) j = 0 := fun d h3 h6 hn j => by
    refine m0_z ?_ ?_ ?_ j
    · show kB B ((B : Int) + (d : Int)) ≠ (3, 0)
      rw [show (B : Int) + (d : Int) = ((B + d : Nat) : Int) by omega, kB_at]; exact h3
    · show kB B ((B : Int) + (d : Int)) ≠ (6, 0)
      rw [show (B : Int) + (d : Int) = ((B + d : Nat) : Int) by omega, kB_at]; exact h6
    · show (B : Int) + (d : Int) ≠ (B : Int) + 169
      omega
  have k1 : kB B ((B : Int) + 1) = (3, 0) := by rw [show (B : Int) + 1 = ((B + 1 : Nat) : Int) by omega, kB_at]; decide
  have k0 : kB B (B : Int) = (6, 0) := by have := kB_at B 0; rw [show ((B + 0 : Nat) : Int) = (B : Int) by omega] at this; rw [this]; decide
  have k169 : kB B ((B : Int) + 169) = (8, 327) := by rw [show (B : Int) + 169 = ((B + 169 : Nat) : Int) by omega, kB_at]; decide
  obtain ⟨b4, b5, b6⟩ := m0_4 (G := mkG dC dI cs B S V) (a := (B : Int)) k0
  have p0 : ∀ j, j ≠ 1 → M0 (mkG dC dI cs B S V) ((B : Int) + 1) j = 0 := fun j hj => by
    unfold M0
    rw [if_neg (fun z => hj z.2), if_neg (fun z => by rw [show gK (mkG dC dI cs B S V) ((B : Int) + 1) = (3, 0) from k1] at z; cases z.1), if_neg (fun z => by rw [show gK (mkG dC dI cs B S V) ((B : Int) + 1) = (3, 0) from k1] at z; cases z.1), if_neg (fun z => hj z.2)]
  have p1 : M0 (mkG dC dI cs B S V) ((B : Int) + 1) 1 = 1 := by
    unfold M0
    rw [if_pos ⟨k1, rfl⟩]
  have n0 : ∀ j, M0 (mkG dC dI cs B S V) ((B : Int) + 169) j = if j = 1 then 1 else 0 := fun j => by
    unfold M0
    rw [show gK (mkG dC dI cs B S V) ((B : Int) + 169) = (8, 327) from k169, if_neg (fun z => by cases z.1), if_neg (fun z => by cases z.1), if_neg (fun z => by cases z.1)]
    by_cases hj : j = 1
    · rw [if_pos ⟨rfl, hj⟩, if_pos hj]
    · rw [if_neg (fun z => hj z.2), if_neg hj]
  generalize M0 (mkG dC dI cs B S V) = M at *
  have v0 : vw M ((B : Int) + 1) 0 = 0 := p0 0 (by decide)
  have v1 : vw M ((B : Int) + 1) 1 = 1 := p1
  have v2 : vw M ((B : Int) + 1) 2 = 0 := p0 2 (by decide)
  have z4 := z 4 (by decide) (by decide) (by decide)
  have z5 := z 5 (by decide) (by decide) (by decide)
  have z47 := z 47 (by decide) (by decide) (by decide)
  have z50 := z 50 (by decide) (by decide) (by decide)
  have z74 := z 74 (by decide) (by decide) (by decide)
  have z121 := z 121 (by decide) (by decide) (by decide)
  have z168 := z 168 (by decide) (by decide) (by decide)
  have z174 := z 174 (by decide) (by decide) (by decide)
  have hw : WR (vw M ((B : Int) + 1)) := ⟨by omega, fun l a b => by omega, by omega, by omega⟩
  refine ⟨vw M ((B : Int) + 1), 0, fun _ => vw M ((B : Int) + 1), 0, ⟨Or.inl ⟨b4, b5⟩, hw, Eqv.rf _, ⟨z5 0, by omega, by rw [show M ((B : Int) + 5) 1 = 0 from z5 1]; omega, fun i a b => by omega⟩, b6, ?_⟩, ⟨hw, ?_, ⟨z168 4, by omega, by rw [show M ((B : Int) + 168) 5 = 0 from z168 5]; omega, fun i a b => by omega⟩, z168 3⟩, ⟨0, fun _ => 0, ⟨z47 1, fun i a b => by omega⟩, ⟨z168 7, fun i a b => by omega⟩, by omega, fun i a b => by omega⟩, fun _ => 0, fun _ => vw M ((B : Int) + 1), fun _ => 0, fun _ _ => vw M ((B : Int) + 1), fun j j0 j1 => ⟨⟨?_, fun h => absurd rfl h⟩, ⟨?_, fun h => absurd rfl h⟩⟩⟩
  · rw [b4]
    refine ⟨?_, ?_, fun l a b => by omega⟩
    · rw [v0]; exact z50 0
    · rw [v0]; exact z50 8
  · rw [show (B : Int) + 168 + 1 = (B : Int) + 169 by omega]
    refine ⟨?_, ?_, ?_, fun k a b => ?_, fun l a b => ?_⟩
    · rw [n0, v0, if_neg (by decide)]
    · rw [n0, v1, if_pos rfl]
    · rw [n0, v2, if_neg (by decide)]
    · rw [n0, if_neg (by omega), vw_al _ _ a, show (B : Int) + 1 + 3 = (B : Int) + 4 by omega]
      exact (z4 k).symm
    · rw [n0, if_neg (by decide)] at b
      omega
  · rcases (show j = 0 ∨ j = 1 by omega) with rfl | rfl
    · rw [show (B : Int) + 49 + 25 + 47 * 0 = (B : Int) + 74 by omega]; exact z74 0
    · rw [show (B : Int) + 49 + 25 + 47 * 1 = (B : Int) + 121 by omega]; exact z121 0
  · rw [show (B : Int) + 168 + 6 = (B : Int) + 174 by omega]
    exact z174 j
end MKG
