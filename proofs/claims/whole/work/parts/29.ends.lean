theorem eqv_cells {r q : Int → Int} (hw : WR r) (h : ∀ j, 0 ≤ j → j < 327 → q j = r j) : Eqv q r := by
  have h0 := h 0 (by omega) (by omega)
  have hm := hw.1
  refine ⟨h0, h 1 (by omega) (by omega), h 2 (by omega) (by omega), fun k a b => h _ (by omega) (by omega), fun l a b => ?_⟩
  have w := hw.2.1 l a (by omega)
  have h3 := h (3 + l) (by omega) (by omega)
  exact ⟨h3, fun i c d => h _ (by omega) (by omega)⟩
theorem chn_cg {r r2 q q2 : Int → Int} {l w : Int} (hw : WR r) (hwq : WR q) (he : Eqv r r2) (hf : Eqv q q2) (h0 : 0 ≤ l) (h1 : l < r 0) (g0 : 0 ≤ w) (g1 : w < q 0) (h : chn r q l w) : chn r2 q2 l w := by
  by_cases hs : sameL r2 l q2 w
  · right
    have e1 := he.1
    have e2 := hf.1
    have hs1 : sameL r l q w := sameL_cg he.sy hf.sy h0 (by omega) g0 (by omega) hs
    rcases h with h | ⟨k, k0, k1, k2⟩
    · exact absurd hs1 h
    · have hcc : cel r l = cel q w := by
        unfold cel
        rw [← hs1.1]
        exact cT_cong hs1.2
      refine ⟨k, k0, by rw [← cel_cg hw he h0 h1]; exact k1, ?_⟩
      rw [← wid_cg hw he h0 h1 k0 k1, ← wid_cg hwq hf g0 g1 k0 (by omega)]
      exact k2
  · exact Or.inl hs
theorem msk_cg {r r2 q q2 o : Int → Int} (hw : WR r) (hwq : WR q) (he : Eqv r r2) (hf : Eqv q q2) {n : Int} (hn : n ≤ r 0) (ho : ∀ l, 0 ≤ l → l < n → o l < q 0) (h0 : 0 ≤ n) : msk r q o n = msk r2 q2 o n := by
  obtain ⟨t, rfl⟩ := Int.eq_ofNat_of_zero_le h0
  induction t with
  | zero => rfl
  | succ t ih =>
    have e := ih (by omega) (fun l a b => ho l a (by omega)) (by omega)
    have e1 := he.1
    have e2 := hf.1
    have hot := ho t (by omega) (by omega)
    rw [show ((t + 1 : Nat) : Int) = (t : Int) + 1 by omega]
    by_cases hc : o t < 0 ∨ chn r q t (o t)
    · rw [msk_y (by omega) hc, msk_y (by omega) (hc.elim Or.inl (fun z => ?_)), e]
      rcases ilg (o t) 0 with y | y
      · exact Or.inl y
      · exact Or.inr (chn_cg hw hwq he hf (by omega) (by omega) y hot z)
    · rw [msk_n (by omega) hc, msk_n (by omega) (fun z => hc (z.elim Or.inl (fun z => ?_))), e]
      rcases ilg (o t) 0 with y | y
      · exact Or.inl y
      · exact Or.inr (chn_cg (he.wr hw) (hf.wr hwq) he.sy hf.sy (by omega) (by omega) y (by omega) z)
/-! ===== the Model's past ===== -/
def MPa (m : Int) (M : Mm) (n : Int) (ps : Int → Int → Int) : Prop := M m 4 = n ∧ (0 ≤ n ∧ n ≤ 10) ∧ (0 ≤ M m 5 ∧ M m 5 < 10) ∧ ∀ i, 0 ≤ i → i < n → Eqv (fun j => M (m + 4) ((327 * ((M m 5 + 9 - i) % 10)) + j)) (ps i) ∧ WR (ps i)
theorem MPa.keep {M M2 : Mm} {m n : Int} {ps : Int → Int → Int} (h : MPa m M n ps) (h4 : M2 m 4 = M m 4) (h5 : M2 m 5 = M m 5) (hf : M2 (m + 4) = M (m + 4)) : MPa m M2 n ps := by
  unfold MPa
  rw [h4, h5, hf]
  exact h
section ENDS
variable {M : Mm} {m : Int} {Q : Mm → Prop}
theorem s7_copies {a b : Int} (hab : a ≠ b) (hq : ∀ M2 : Mm, (∀ q, q ≠ b → M2 q = M q) → (∀ j, 0 ≤ j → j < 327 → M2 b j = M a j) → Q M2) : PX7_copies a b M Q := by
  unfold PX7_copies
  refine lr_I (fun v M2 => 0 ≤ v ∧ v ≤ 327 ∧ (∀ q, q ≠ b → M2 q = M q) ∧ (∀ j, 0 ≤ j → j < v → M2 b j = M a j)) (fun v _ => (327 - v).toNat) ?_ ⟨by omega, by omega, fun _ _ => rfl, fun j c d => by omega⟩
  rintro rec v M2 ⟨a0, a1, f2, e2⟩ hrec
  unfold BX7_copies_2
  refine ⟨fun hx => hq M2 f2 (fun j c d => e2 j c (by omega)), fun hx => ⟨by omega, by omega, ?_⟩⟩
  rintro M4 rfl
  refine ⟨by omega, hrec _ _ ⟨by omega, by omega, fun q hqb => by rw [um_ne _ _ _ hqb]; exact f2 q hqb, fun j c d => ?_⟩ (by omega)⟩
  by_cases hj : j = v
  · rw [hj, um_w, f2 a hab]
  · rw [um_r _ (by omega)]; exact e2 j c (by omega)
theorem s7_begins (hq : ∀ M2 : Mm, (∀ q, q ≠ m + 2 → q ≠ m + 3 → M2 q = M q) → (∀ j, 0 ≤ j → j < 327 → M2 (m + 2) j = M (m + 1) j) → (∀ l, 0 ≤ l → l < 12 → M2 (m + 3) l = l) → Q M2) : PX7_begins m M Q := by
  unfold PX7_begins
  refine s7_copies (by omega) (fun M1 f1 e1 => ?_)
  refine lr_I (fun v M2 => 0 ≤ v ∧ v ≤ 12 ∧ (∀ q, q ≠ m + 3 → M2 q = M1 q) ∧ (∀ j, 0 ≤ j → j < v → M2 (m + 3) j = j)) (fun v _ => (12 - v).toNat) ?_ ⟨by omega, by omega, fun _ _ => rfl, fun j c d => by omega⟩
  rintro rec v M2 ⟨a0, a1, f2, e2⟩ hrec
  unfold BX7_begins_13
  refine ⟨fun hx => hq M2 (fun q b1 b2 => by rw [f2 q b2, f1 q b1]) (fun j c d => by rw [f2 _ (by omega)]; exact e1 j c d) (fun l c d => e2 l c (by omega)), fun hx => ⟨by omega, ?_⟩⟩
  rintro M4 rfl
  refine ⟨by omega, hrec _ _ ⟨by omega, by omega, fun q hqb => by rw [um_ne _ _ _ hqb]; exact f2 q hqb, fun j c d => ?_⟩ (by omega)⟩
  by_cases hj : j = v
  · rw [hj, um_w]
  · rw [um_r _ (by omega)]; exact e2 j c (by omega)
theorem s7_isChanged {l w : Int} {Q : Int → Mm → Prop} (hw : WR (M (m + 1))) (hw2 : WR (M (m + 2))) (h0 : 0 ≤ l) (h1 : l < M (m + 1) 0) (ho : M (m + 3) l = w) (g : w = -9 ∨ (0 ≤ w ∧ w < M (m + 2) 0)) (hy : (w < 0 ∨ chn (M (m + 1)) (M (m + 2)) l w) → Q 1 M) (hn : ¬ (w < 0 ∨ chn (M (m + 1)) (M (m + 2)) l w) → Q 0 M) : PX7_isChanged m l M Q := by
  have hm := hw.1
  have hm2 := hw2.1
  have hs := hw.2.1 l h0 h1
  unfold PX7_isChanged
  rw [ho]
  refine ⟨by omega, fun hx => hy (Or.inl (by omega)), fun hx => ⟨by omega, by omega, fun he => ?_, fun he => hy (Or.inr (Or.inl (fun z => he z.1)))⟩⟩
  have g2 : 0 ≤ w ∧ w < M (m + 2) 0 := by omega
  refine lk_I (fun v => 0 ≤ v ∧ v ≤ M (m + 1) (3 + l) ∧ ∀ i, 0 ≤ i → i < v → ln (M (m + 1)) l i = ln (M (m + 2)) w i) (fun v => (M (m + 1) (3 + l) - v).toNat) ?_ ⟨Int.le_refl _, hs.1, fun i a b => by omega⟩
  rintro rec v ⟨a0, a1, hv⟩ hrec
  unfold BX7_isChanged_36 PX7_signAt
  refine ⟨by omega, fun hx2 => ?_, fun hx2 => ⟨by omega, by omega, fun hz => ⟨by omega, hrec _ ⟨by omega, by omega, fun i a b => ?_⟩ (by omega)⟩, fun hz => hy (Or.inr (Or.inl (fun z => hz (z.2 v a0 (by omega)))))⟩⟩
  · have hsm : sameL (M (m + 1)) l (M (m + 2)) w := ⟨he, fun i a b => hv i a (by omega)⟩
    have hcc : cel (M (m + 1)) l = cel (M (m + 2)) w := by
      unfold cel
      rw [← hsm.1]
      exact cT_cong hsm.2
    have hc := cel_rg hw h0 h1
    refine s7_cellsOf hw h0 h1 ?_
    refine lk_II (fun u k => 0 ≤ k ∧ k ≤ cel (M (m + 1)) l ∧ ((u = 0 ∧ ∀ j, 0 ≤ j → j < k → wid (M (m + 1)) l j = wid (M (m + 2)) w j) ∨ (u = 1 ∧ ∃ j, 0 ≤ j ∧ j < k ∧ wid (M (m + 1)) l j ≠ wid (M (m + 2)) w j))) (fun _ k => (cel (M (m + 1)) l - k).toNat) ?_ ⟨Int.le_refl _, hc.1, Or.inl ⟨rfl, fun j a b => by omega⟩⟩
    rintro rec2 u k ⟨k0, k1, hu⟩ hrec2
    unfold BX7_isChanged_92
    refine ⟨fun hx3 => ⟨by omega, ?_⟩, fun hx3 => ⟨fun hu0 => ?_, fun hu0 => ?_⟩⟩
    · rcases hu with ⟨rfl, hu⟩ | ⟨rfl, j, j0, j1, j2⟩
      · refine hn ?_
        rintro (z | z | ⟨j, j0, j1, j2⟩)
        · omega
        · exact z hsm
        · exact j2 (hu j j0 (by omega))
      · exact hy (Or.inr (Or.inr ⟨j, j0, by omega, j2⟩))
    · have hu2 : ∀ j, 0 ≤ j → j < k → wid (M (m + 1)) l j = wid (M (m + 2)) w j := by
        rcases hu with ⟨-, hu⟩ | ⟨z, -⟩
        · exact hu
        · omega
      refine s7_widthOf hw h0 h1 k0 (by omega) (s7_widthOf hw2 g2.1 g2.2 k0 (by omega) ⟨fun hz => ⟨by omega, hrec2 _ _ ⟨by omega, by omega, Or.inl ⟨rfl, fun j a b => ?_⟩⟩ (by omega)⟩, fun hz => ⟨by omega, hrec2 _ _ ⟨by omega, by omega, Or.inr ⟨rfl, k, k0, by omega, hz⟩⟩ (by omega)⟩⟩)
      by_cases hj : j = k
      · rw [hj]; exact hz
      · exact hu2 j a (by omega)
    · rcases hu with ⟨z, -⟩ | ⟨-, j, j0, j1, j2⟩
      · omega
      · exact ⟨by omega, hrec2 _ _ ⟨by omega, by omega, Or.inr ⟨rfl, j, j0, by omega, j2⟩⟩ (by omega)⟩
  · by_cases hi : i = v
    · rw [hi]; exact hz
    · exact hv i a (by omega)
theorem s7_ends {n : Int} {ps : Int → Int → Int} {r p o : Int → Int} (he : Eqv (M (m + 1)) r) (hw : WR r) (hf : Eqv (M (m + 2)) p) (hwp : WR p) (ho : ∀ l, 0 ≤ l → l < r 0 → M (m + 3) l = o l ∧ (o l = -9 ∨ (0 ≤ o l ∧ o l < p 0))) (hp : MPa m M n ps)
    (hq : ∀ M2 : Mm, (∀ a, a ≠ m → a ≠ m + 4 → M2 a = M a) → (∀ j, j ≠ 3 → j ≠ 4 → j ≠ 5 → M2 m j = M m j) → MPa m M2 (if n = 10 then 10 else n + 1) (fun i => if i = 0 then p else ps (i - 1)) → M2 m 3 = msk r p o (r 0) → Q M2) : PX7_ends m M Q := by
  obtain ⟨p0, p1, p2, p3⟩ := hp
  have hwr1 : WR (M (m + 1)) := he.sy.wr hw
  have hwr2 : WR (M (m + 2)) := hf.sy.wr hwp
  have hm := hw.1
  have e0 := he.1
  have e20 := hf.1
  unfold PX7_ends
  refine lr_I (fun v M2 => 0 ≤ v ∧ v ≤ 327 ∧ (∀ a, a ≠ m + 4 → M2 a = M a) ∧ (∀ j, (j < 327 * M m 5 ∨ 327 * M m 5 + 327 ≤ j) → M2 (m + 4) j = M (m + 4) j) ∧ (∀ j, 0 ≤ j → j < v → M2 (m + 4) ((327 * M m 5) + j) = M (m + 2) j)) (fun v _ => (327 - v).toNat) ?_ ⟨by omega, by omega, fun _ _ => rfl, fun _ _ => rfl, fun j c d => by omega⟩
  rintro rec v M1 ⟨a0, a1, f1, f1b, e1⟩ hrec
  unfold BX7_ends_2
  rw [f1 m (by omega)]
  refine ⟨fun hx => ?_, fun hx => ⟨by omega, by omega, ?_⟩⟩
  rotate_left
  · rintro M4 rfl
    refine ⟨by omega, hrec _ _ ⟨by omega, by omega, fun q hqb => by rw [um_ne _ _ _ hqb]; exact f1 q hqb, fun j hj => by rw [um_r _ (by omega)]; exact f1b j hj, fun j c d => ?_⟩ (by omega)⟩
    by_cases hj : j = v
    · rw [hj, um_w, f1 (m + 2) (by omega)]
    · rw [um_r _ (by omega)]; exact e1 j c (by omega)
  dsimp only
  rw [f1 m (by omega)]
  refine ⟨by omega, by omega, ?_⟩
  rintro M11 rfl
  -- the last pass, from whatever memory
  have last : ∀ M3 : Mm, (∀ a, a ≠ m → M3 a = M1 a) → (∀ j, j ≠ 3 → j ≠ 4 → j ≠ 5 → M3 m j = M m j) → M3 m 4 = (if n = 10 then 10 else n + 1) → M3 m 5 = (M m 5 + 1) % 10 → M3 m 3 = 0 → ∃ t, lp_I (BX7_ends_79 Q m) t 0 M3 := by
    intro M3 f3 g3 g4 g5 g6
    refine lr_I (fun v M2 => 0 ≤ v ∧ v ≤ r 0 ∧ (∀ a, a ≠ m → M2 a = M1 a) ∧ (∀ j, j ≠ 3 → M2 m j = M3 m j) ∧ M2 m 3 = msk r p o v) (fun v _ => (r 0 - v).toNat) ?_ ⟨Int.le_refl _, hm.1, f3, fun _ _ => rfl, g6⟩
    rintro rec3 v M2 ⟨b0, b1, f2, g2, e3⟩ hrec3
    have h1 : M2 (m + 1) = M (m + 1) := by rw [f2 _ (by omega), f1 _ (by omega)]
    have h2 : M2 (m + 2) = M (m + 2) := by rw [f2 _ (by omega), f1 _ (by omega)]
    have h3 : M2 (m + 3) = M (m + 3) := by rw [f2 _ (by omega), f1 _ (by omega)]
    unfold BX7_ends_79
    rw [h1, e0]
    refine ⟨fun hx2 => ?_, fun hx2 => ?_⟩
    · refine hq M2 (fun a c1 c2 => by rw [f2 a c1, f1 a c2]) (fun j c1 c2 c3 => by rw [g2 j c1]; exact g3 j c1 c2 c3) ⟨by rw [g2 4 (by omega)]; exact g4, by omega, by rw [g2 5 (by omega), g5]; omega, fun i c d => ?_⟩ (by rw [e3, show v = r 0 by omega])
      rw [g2 5 (by omega), g5, f2 (m + 4) (by omega)]
      dsimp only
      by_cases hi : i = 0
      · rw [if_pos hi]
        refine ⟨(eqv_cells hwr2 (fun j j0 j1 => ?_)).tr hf, hwp⟩
        rw [show ((M m 5 + 1) % 10 + 9 - i) % 10 = M m 5 by omega]
        exact e1 j j0 (by omega)
      · rw [if_neg hi]
        obtain ⟨q1, q2⟩ := p3 (i - 1) (by omega) (by omega)
        refine ⟨(eqv_cells (q1.sy.wr q2) (fun j j0 j1 => ?_)).tr q1, q2⟩
        rw [show ((M m 5 + 1) % 10 + 9 - i) % 10 = (M m 5 + 9 - (i - 1)) % 10 by omega]
        have hne : (M m 5 + 9 - (i - 1)) % 10 ≠ M m 5 := by omega
        exact f1b _ (by omega)
    · obtain ⟨o1, o2⟩ := ho v b0 (by omega)
      have conv : (o v < 0 ∨ chn (M (m + 1)) (M (m + 2)) v (o v)) ↔ (o v < 0 ∨ chn r p v (o v)) := by
        rcases ilg (o v) 0 with y | y
        · exact ⟨fun _ => Or.inl y, fun _ => Or.inl y⟩
        · exact ⟨fun z => z.elim Or.inl (fun z => Or.inr (chn_cg hwr1 hwr2 he hf b0 (by omega) y (by omega) z)), fun z => z.elim Or.inl (fun z => Or.inr (chn_cg hw hwp he.sy hf.sy b0 (by omega) y (by omega) z))⟩
      refine s7_isChanged (w := o v) (by rw [h1]; exact hwr1) (by rw [h2]; exact hwr2) b0 (by rw [h1]; omega) (by rw [h3]; exact o1) (by rw [h2]; omega) (fun hc => ⟨fun z => by omega, fun _ => ?_⟩) (fun hc => ⟨fun _ => ?_, fun z => absurd rfl z⟩)
      · rw [h1, h2] at hc
        rintro M24 rfl
        refine ⟨by omega, hrec3 _ _ ⟨by omega, by omega, fun a ha => by rw [um_ne _ _ _ ha]; exact f2 a ha, fun j hj => by rw [um_r _ (by omega)]; exact g2 j hj, ?_⟩ (by omega)⟩
        rw [um_w, e3, msk_y b0 (conv.1 hc)]
      · rw [h1, h2] at hc
        rintro M24 rfl
        refine ⟨by omega, hrec3 _ _ ⟨by omega, by omega, fun a ha => by rw [um_ne _ _ _ ha]; exact f2 a ha, fun j hj => by rw [um_r _ (by omega)]; exact g2 j hj, ?_⟩ (by omega)⟩
        rw [um_w, e3, msk_or, msk_n b0 (fun z => hc (conv.2 z))]
  have e4 : um M1 m 5 ((M m 5 + 1) % 10) m 4 = n := by rw [um_r _ (by omega), f1 m (by omega)]; exact p0
  rw [e4]
  refine ⟨fun h10 => ⟨by omega, ?_⟩, fun h10 => ⟨by omega, ?_⟩⟩
  · rintro M15 rfl
    rintro M17 rfl
    refine last _ (fun a ha => by rw [um_ne _ _ _ ha, um_ne _ _ _ ha, um_ne _ _ _ ha]) (fun j c1 c2 c3 => by rw [um_r _ (by omega), um_r _ (by omega), um_r _ (by omega), f1 m (by omega)]) ?_ ?_ (um_w _ _ _ _)
    · rw [um_r _ (by omega), um_w, if_pos (by omega)]; omega
    · rw [um_r _ (by omega), um_r _ (by omega), um_w]
  · rintro M15 rfl
    rintro M17 rfl
    refine last _ (fun a ha => by rw [um_ne _ _ _ ha, um_ne _ _ _ ha, um_ne _ _ _ ha]) (fun j c1 c2 c3 => by rw [um_r _ (by omega), um_r _ (by omega), um_r _ (by omega), f1 m (by omega)]) ?_ ?_ (um_w _ _ _ _)
    · rw [um_r _ (by omega), um_w, if_neg (by omega)]
    · rw [um_r _ (by omega), um_r _ (by omega), um_w]
end ENDS
