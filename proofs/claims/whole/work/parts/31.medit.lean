/-! ===== the state's parts, of the class and of the Model ===== -/
def nx (n : Int) : Int := if n = 10 then 10 else n + 1
def cons' (p : Int → Int) (ps : Int → Int → Int) : Int → Int → Int := fun i => if i = 0 then p else ps (i - 1)
def MP (m : Int) (M : Mm) (p : Int → Int) (n : Int) (ps : Int → Int → Int) (c : Int) : Prop := WR p ∧ Eqv (M (m + 1)) p ∧ MPa m M n ps ∧ M m 3 = c
def CP (x : Int) (M : Mm) (p : Int → Int) (n : Int) (ps : Int → Int → Int) (c : Int) : Prop := Two M x ∧ WR p ∧ Eqv (vw M (x + 1)) p ∧ PaC M (x + 5) n ps ∧ M x 6 = c ∧ Laid (x + M x 4) p M
def FM (m : Int) (M M2 : Mm) : Prop := (∀ a, a ≠ m → (a < m + 1 ∨ m + 4 < a) → M2 a = M a) ∧ ∀ j, j ≠ 3 → j ≠ 4 → j ≠ 5 → M2 m j = M m j
def FC (x : Int) (M M2 : Mm) : Prop := ∀ a, (a < x ∨ (x + 46 < a ∧ a < x + 50) ∨ x + 73 < a) → M2 a = M a
theorem FM.rf (m : Int) (M : Mm) : FM m M M := ⟨fun _ _ _ => rfl, fun _ _ _ _ => rfl⟩
theorem FC.rf (x : Int) (M : Mm) : FC x M M := fun _ _ => rfl
abbrev Kt : Type := Int → (Int → Int) → Int → (Int → Int → Int) → Int → Prop
def isS (s : Int) : Prop := (97 ≤ s ∧ s ≤ 122) ∨ (48 ≤ s ∧ s ≤ 57) ∨ s = 46 ∨ s = 45 ∨ s = 124
def Ked (K : Kt) (v : Int) (p r : Int → Int) (op cl n : Int) (ps : Int → Int → Int) : Prop := K v r (nx n) (cons' p ps) (msk r p (og op cl) (r 0))
theorem s7_in {M : Mm} {Q : Int → Mm → Prop} {v a b : Int} (hy : a ≤ v → v ≤ b → Q 1 M) (hn : ¬ (a ≤ v ∧ v ≤ b) → Q 0 M) : PX7_in v a b M Q := by
  unfold PX7_in JX7_in_14
  exact ⟨fun h => hn (by omega), fun h => ⟨fun h2 => hn (by omega), fun h2 => hy (by omega) (by omega)⟩⟩
theorem s7_isSign {M : Mm} {Q : Int → Mm → Prop} {s : Int} (hy : isS s → Q 1 M) (hn : ¬ isS s → Q 0 M) : PX7_isSign s M Q := by
  unfold isS at hy hn
  unfold PX7_isSign
  refine s7_in (fun a b => ⟨fun z => by omega, fun _ => hy (by omega)⟩) (fun a => ⟨fun _ => ?_, fun z => absurd rfl z⟩)
  refine s7_in (fun c d => ⟨fun z => by omega, fun _ => hy (by omega)⟩) (fun c => ⟨fun _ => ⟨fun h => hy (by omega), fun h => ⟨fun h2 => hy (by omega), fun h2 => ⟨fun h3 => hy (by omega), fun h3 => hn (by omega)⟩⟩⟩, fun z => absurd rfl z⟩)
theorem s5_isFig {M : Mm} {Q : Int → Mm → Prop} {s : Int} (hy : 48 ≤ s ∧ s ≤ 57 → Q 1 M) (hn : ¬ (48 ≤ s ∧ s ≤ 57) → Q 0 M) : PX5_isFigure s M Q := by
  unfold PX5_isFigure JX5_isFigure_16
  exact ⟨fun h => hn (by omega), fun h => ⟨fun h2 => hn (by omega), fun h2 => hy (by omega)⟩⟩
theorem s5_isSign {M : Mm} {Q : Int → Mm → Prop} {s : Int} (hy : isS s → Q 1 M) (hn : ¬ isS s → Q 0 M) : PX5_isSign s M Q := by
  unfold isS at hy hn
  have rest : ¬ (97 ≤ s ∧ s ≤ 122) → JX5_isSign_12 Q s M := by
    intro h
    unfold JX5_isSign_12
    refine s5_isFig (fun c => ⟨fun z => by omega, fun _ => hy (by omega)⟩) (fun c => ⟨fun _ => ⟨fun h => hy (by omega), fun h => ⟨fun h2 => hy (by omega), fun h2 => ⟨fun h3 => hy (by omega), fun h3 => hn (by omega)⟩⟩⟩, fun z => absurd rfl z⟩)
  unfold PX5_isSign
  exact ⟨fun h => rest (by omega), fun h => ⟨fun h2 => hy (by omega), fun h2 => rest (by omega)⟩⟩
theorem eqv_sz {r p : Int → Int} (he : Eqv r p) {l : Int} (h0 : 0 ≤ l) (h1 : l < p 0) : r (3 + l) = p (3 + l) := (he.2.2.2.2 l h0 (by rw [he.1]; exact h1)).1
theorem eqv_ln {r p : Int → Int} (he : Eqv r p) {l i : Int} (h0 : 0 ≤ l) (h1 : l < p 0) (hi : 0 ≤ i) (hj : i < p (3 + l)) : ln r l i = ln p l i := (he.2.2.2.2 l h0 (by rw [he.1]; exact h1)).2 i hi (by rw [eqv_sz he h0 h1]; exact hj)
section MED
variable {M : Mm} {m l n c : Int} {p : Int → Int} {ps : Int → Int → Int}
theorem s7_isLine {Q : Int → Mm → Prop} (hw : WR p) (he : Eqv (M (m + 1)) p) (hy : 0 ≤ l → l < p 0 → Q 1 M) (hn : ¬ (0 ≤ l ∧ l < p 0) → Q 0 M) : PX7_isLine m l M Q := by
  have hm := hw.1
  unfold PX7_isLine
  rw [he.1]
  exact ⟨by omega, s7_in (fun a b => ⟨by omega, hy a (by omega)⟩) (fun a => ⟨by omega, hn (by omega)⟩)⟩
theorem s7_isPlace {Q : Int → Mm → Prop} {a : Int} (hw : WR p) (he : Eqv (M (m + 1)) p) (hy : 0 ≤ l → l < p 0 → 0 ≤ a → a ≤ p (3 + l) → Q 1 M) (hn : ¬ (0 ≤ l ∧ l < p 0 ∧ 0 ≤ a ∧ a ≤ p (3 + l)) → Q 0 M) : PX7_isPlace m l a M Q := by
  have hm := hw.1
  unfold PX7_isPlace JX7_isPlace_28
  refine s7_isLine hw he (fun h0 h1 => ⟨fun z => by omega, fun _ => ⟨by omega, ?_⟩⟩) (fun h => ⟨fun _ => hn (fun z => h ⟨z.1, z.2.1⟩), fun z => absurd rfl z⟩)
  rw [eqv_sz he h0 h1]
  exact s7_in (fun c d => ⟨fun z => by omega, fun _ => hy h0 h1 c d⟩) (fun c => ⟨fun _ => hn (fun z => c ⟨z.2.2.1, z.2.2.2⟩), fun z => absurd rfl z⟩)
/-- an edit's end -/
theorem m_fin {M0 : Mm} {Q : Mm → Prop} {r o : Int → Int} (hfr : ∀ a, a ≠ m + 1 → a ≠ m + 2 → a ≠ m + 3 → M a = M0 a) (hp : MPa m M0 n ps) (he : Eqv (M (m + 1)) r) (hw : WR r) (hf : Eqv (M (m + 2)) p) (hwp : WR p) (ho : ∀ l, 0 ≤ l → l < r 0 → M (m + 3) l = o l ∧ (o l = -9 ∨ (0 ≤ o l ∧ o l < p 0)))
    (hq : ∀ M2 : Mm, FM m M0 M2 → M2 (m + 1) = M (m + 1) → MP m M2 r (nx n) (cons' p ps) (msk r p o (r 0)) → Q M2) : PX7_ends m M Q := by
  have e0 : M m = M0 m := hfr m (by omega) (by omega) (by omega)
  refine s7_ends he hw hf hwp ho (hp.keep (by rw [e0]) (by rw [e0]) (hfr _ (by omega) (by omega) (by omega))) (fun M2 f1 f2 f3 f4 => hq M2 ⟨fun a b1 b2 => ?_, fun j b1 b2 b3 => ?_⟩ (f1 _ (by omega) (by omega)) ⟨hw, ?_, f3, f4⟩)
  · rw [f1 a b1 (by omega), hfr a (by omega) (by omega) (by omega)]
  · rw [f2 j b1 b2 b3, e0]
  · rw [f1 _ (by omega) (by omega)]; exact he
theorem og_nn (l : Int) : og (-9) (-9) l = l := by
  unfold og
  rw [if_neg (by omega), if_neg (by omega)]
def Tput (p : Int → Int) (n : Int) (ps : Int → Int → Int) (c l a s : Int) (K : Kt) : Prop := (¬ (0 ≤ l ∧ l < p 0 ∧ 0 ≤ a ∧ a ≤ p (3 + l) ∧ isS s) → K (-1) p n ps c) ∧ ((0 ≤ l ∧ l < p 0 ∧ 0 ≤ a ∧ a ≤ p (3 + l) ∧ isS s) → p (3 + l) = 24 → K (-3) p n ps c) ∧ ((0 ≤ l ∧ l < p 0 ∧ 0 ≤ a ∧ a ≤ p (3 + l) ∧ isS s) → p (3 + l) < 24 → Ked K (p (3 + l) + 1) p (oI p l a s) (-9) (-9) n ps)
def Tcut (p : Int → Int) (n : Int) (ps : Int → Int → Int) (c l a : Int) (K : Kt) : Prop := (¬ (0 ≤ l ∧ l < p 0 ∧ 0 ≤ a ∧ a < p (3 + l)) → K (-1) p n ps c) ∧ ((0 ≤ l ∧ l < p 0 ∧ 0 ≤ a ∧ a < p (3 + l)) → Ked K (ln p l a) p (oC p l a) (-9) (-9) n ps)
def Tspl (p : Int → Int) (n : Int) (ps : Int → Int → Int) (c l a : Int) (K : Kt) : Prop := (¬ (0 ≤ l ∧ l < p 0 ∧ 0 ≤ a ∧ a ≤ p (3 + l)) → K (-1) p n ps c) ∧ ((0 ≤ l ∧ l < p 0 ∧ 0 ≤ a ∧ a ≤ p (3 + l)) → p 0 = 12 → K (-3) p n ps c) ∧ ((0 ≤ l ∧ l < p 0 ∧ 0 ≤ a ∧ a ≤ p (3 + l)) → p 0 < 12 → Ked K (p 0 + 1) p (oM (oW p (l + 1) 0 (fun _ => 0)) l a (l + 1)) (l + 1) (-9) n ps)
def Tjoi (p : Int → Int) (n : Int) (ps : Int → Int → Int) (c l : Int) (K : Kt) : Prop := (¬ (0 ≤ l ∧ l + 1 < p 0) → K (-1) p n ps c) ∧ ((0 ≤ l ∧ l + 1 < p 0) → 24 < p (3 + l) + p (3 + (l + 1)) → K (-3) p n ps c) ∧ ((0 ≤ l ∧ l + 1 < p 0) → p (3 + l) + p (3 + (l + 1)) ≤ 24 → Ked K (p 0 - 1) p (oX (oM p (l + 1) 0 l) (l + 1)) (-9) (l + 1) n ps)
theorem m_put {Q : Int → Mm → Prop} {a s : Int} (h : MP m M p n ps c) (hT : Tput p n ps c l a s (fun v p' n' ps' c' => ∀ M2 : Mm, FM m M M2 → MP m M2 p' n' ps' c' → Q v M2)) : PX7_put m l a s M Q := by
  obtain ⟨hw, he, hpa, hc⟩ := id h
  obtain ⟨T1, T2, T3⟩ := hT
  have hm := hw.1
  have hwR : WR (M (m + 1)) := he.sy.wr hw
  have e0 := he.1
  unfold PX7_put
  refine s7_isPlace hw he (fun h0 h1 h2 h3 => ⟨fun z => by omega, fun _ => ?_⟩) (fun hn => ⟨fun _ => T1 (fun z => hn ⟨z.1, z.2.1, z.2.2.1, z.2.2.2.1⟩) M (FM.rf m M) h, fun z => absurd rfl z⟩)
  refine s7_isSign (fun hs => ⟨fun z => by omega, fun _ => ⟨by omega, ?_⟩⟩) (fun hs => ⟨fun _ => T1 (fun z => hs z.2.2.2.2) M (FM.rf m M) h, fun z => absurd rfl z⟩)
  have cond : 0 ≤ l ∧ l < p 0 ∧ 0 ≤ a ∧ a ≤ p (3 + l) ∧ isS s := ⟨h0, h1, h2, h3, hs⟩
  have hsz := hw.2.1 l h0 h1
  have esz := eqv_sz he h0 h1
  rw [esz]
  refine ⟨fun h24 => T2 cond h24 M (FM.rf m M) h, fun h24 => ?_⟩
  refine s7_begins (fun M8 f8 g8 o8 => ⟨by omega, ?_⟩)
  have e81 : M8 (m + 1) = M (m + 1) := f8 _ (by omega) (by omega)
  rw [e81, esz]
  refine lr_I (fun v M2 => a ≤ v ∧ v ≤ p (3 + l) ∧ (∀ q, q ≠ m + 1 → M2 q = M8 q) ∧ (∀ j, (j ≤ (15 + 24 * l) + v ∨ (15 + 24 * l) + p (3 + l) < j) → M2 (m + 1) j = M (m + 1) j) ∧ (∀ i, v < i → i ≤ p (3 + l) → M2 (m + 1) ((15 + 24 * l) + i) = M (m + 1) ((15 + 24 * l) + (i - 1)))) (fun v _ => (v - a).toNat) ?_ ⟨h3, Int.le_refl _, fun _ _ => rfl, fun j _ => by rw [e81], fun i b d => by omega⟩
  rintro rec v M2 ⟨a0, a1, f2, g2, s2⟩ hrec
  unfold BX7_put_48 PX7_signAt
  refine ⟨fun hx => ?_, fun hx => ⟨by omega, by omega, by omega, ?_⟩⟩
  · have ev : v = a := by omega
    subst ev
    refine ⟨by omega, ?_⟩
    rintro M20 rfl
    rw [show um M2 (m + 1) (15 + 24 * l + v) s (m + 1) (3 + l) = p (3 + l) by rw [um_r _ (by omega), g2 _ (by omega)]; exact esz]
    refine ⟨by omega, by omega, by omega, ?_⟩
    rintro M25 rfl
    have hE : Eqv (um (um M2 (m + 1) (15 + 24 * l + v) s) (m + 1) (3 + l) (p (3 + l) + 1) (m + 1)) (oI (M (m + 1)) l v s) := by
      refine eqv_mk (by omega) ?_ ?_ ?_ (fun k x y => ?_) (fun j x y => ?_)
      · rw [um_r _ (by omega), um_r _ (by omega), g2 _ (by omega)]
      · rw [um_r _ (by omega), um_r _ (by omega), g2 _ (by omega)]
      · rw [um_r _ (by omega), um_r _ (by omega), g2 _ (by omega)]
      · rw [um_r _ (by omega), um_r _ (by omega), g2 _ (by omega)]
      · have hj := hwR.2.1 j x (by omega)
        by_cases hjl : j = l
        · subst hjl
          rw [um_w, if_pos rfl]
          refine ⟨by omega, by omega, fun i y1 y2 => ?_⟩
          show um (um M2 (m + 1) (15 + 24 * j + v) s) (m + 1) (3 + j) (p (3 + j) + 1) (m + 1) ((15 + 24 * j) + i) = _
          rw [um_r _ (by omega), if_pos rfl]
          by_cases hi : i < v
          · rw [if_pos hi, um_r _ (by omega), g2 _ (by omega)]; rfl
          · rw [if_neg hi]
            by_cases hi2 : i = v
            · rw [if_pos hi2, hi2, um_w]
            · rw [if_neg hi2, um_r _ (by omega), s2 i (by omega) (by omega)]; rfl
        · rw [if_neg hjl, um_r _ (by omega), um_r _ (by omega), g2 _ (by omega)]
          refine ⟨rfl, by omega, fun i y1 y2 => ?_⟩
          show um (um M2 (m + 1) (15 + 24 * l + v) s) (m + 1) (3 + l) (p (3 + l) + 1) (m + 1) ((15 + 24 * j) + i) = _
          rw [if_neg hjl, um_r _ (by omega), um_r _ (by omega), g2 _ (by omega)]; rfl
    obtain ⟨k1, k2⟩ := oI_cg (l := l) (at' := v) (s := s) hwR he h0 (by omega) ⟨h2, by omega⟩ (by omega)
    refine m_fin (M0 := M) (o := og (-9) (-9)) (fun q b1 b2 b3 => by rw [um_ne _ _ _ b1, um_ne _ _ _ b1, f2 q b1, f8 q b2 b3]) hpa (hE.tr k1) (k1.wr k2) ?_ hw (fun j x y => ?_) (fun M27 f27 e27 p27 => ⟨by omega, ?_⟩)
    · rw [um_ne _ _ _ (by omega), um_ne _ _ _ (by omega), f2 _ (by omega)]
      exact (eqv_cells hwR g8).tr he
    · have y2 : j < p 0 := y
      rw [um_ne _ _ _ (by omega), um_ne _ _ _ (by omega), f2 _ (by omega), o8 j x (by omega), og_nn]
      exact ⟨rfl, by omega⟩
    · rw [e27, um_w]
      exact T3 cond (by omega) M27 f27 p27
  · rintro M15 rfl
    refine ⟨by omega, hrec _ _ ⟨by omega, by omega, fun q hqb => by rw [um_ne _ _ _ hqb]; exact f2 q hqb, fun j hj => by rw [um_r _ (by omega)]; exact g2 j (by omega), fun i b1 b2 => ?_⟩ (by omega)⟩
    by_cases hi : i = v
    · subst hi
      rw [um_w, g2 _ (by omega)]
    · rw [um_r _ (by omega)]; exact s2 i (by omega) b2
theorem m_cut {Q : Int → Mm → Prop} {a : Int} (h : MP m M p n ps c) (hT : Tcut p n ps c l a (fun v p' n' ps' c' => ∀ M2 : Mm, FM m M M2 → MP m M2 p' n' ps' c' → Q v M2)) : PX7_cut m l a M Q := by
  obtain ⟨hw, he, hpa, hc⟩ := id h
  obtain ⟨T1, T3⟩ := hT
  have hm := hw.1
  have hwR : WR (M (m + 1)) := he.sy.wr hw
  have e0 := he.1
  unfold PX7_cut
  refine s7_isPlace hw he (fun h0 h1 h2 h3 => ⟨fun z => by omega, fun _ => ⟨by omega, ?_⟩⟩) (fun hn => ⟨fun _ => T1 (fun z => hn ⟨z.1, z.2.1, z.2.2.1, by omega⟩) M (FM.rf m M) h, fun z => absurd rfl z⟩)
  have hsz := hw.2.1 l h0 h1
  have esz := eqv_sz he h0 h1
  rw [esz]
  refine ⟨fun h24 => T1 (by omega) M (FM.rf m M) h, fun h24 => ?_⟩
  have cond : 0 ≤ l ∧ l < p 0 ∧ 0 ≤ a ∧ a < p (3 + l) := ⟨h0, h1, h2, by omega⟩
  refine s7_begins (fun M8 f8 g8 o8 => ?_)
  have e81 : M8 (m + 1) = M (m + 1) := f8 _ (by omega) (by omega)
  unfold PX7_signAt
  dsimp only
  rw [e81, esz]
  refine ⟨by omega, by omega, by omega, by omega, ?_⟩
  rintro M13 rfl
  have eln : M (m + 1) ((15 + 24 * l) + a) = ln p l a := eqv_ln he h0 h1 h2 (by omega)
  rw [eln]
  refine lr_I (fun v M2 => a ≤ v ∧ v ≤ p (3 + l) - 1 ∧ (∀ q, q ≠ m + 1 → M2 q = M8 q) ∧ M2 (m + 1) (3 + l) = p (3 + l) - 1 ∧ (∀ j, j ≠ 3 + l → (j < (15 + 24 * l) + a ∨ (15 + 24 * l) + v ≤ j) → M2 (m + 1) j = M (m + 1) j) ∧ (∀ i, a ≤ i → i < v → M2 (m + 1) ((15 + 24 * l) + i) = M (m + 1) ((15 + 24 * l) + (i + 1)))) (fun v _ => (p (3 + l) - v).toNat) ?_ ⟨Int.le_refl _, by omega, fun q hq => um_ne _ _ _ hq, um_w _ _ _ _, fun j b1 b2 => by rw [um_r _ (by omega), e81], fun i b d => by omega⟩
  rintro rec v M2 ⟨a0, a1, f2, z2, g2, s2⟩ hrec
  unfold BX7_cut_52 PX7_signAt
  rw [z2]
  refine ⟨by omega, fun hx => ?_, fun hx => ⟨by omega, by omega, by omega, ?_⟩⟩
  · have ev : v = p (3 + l) - 1 := by omega
    have hE : Eqv (M2 (m + 1)) (oC (M (m + 1)) l a) := by
      refine eqv_mk (by omega) (g2 _ (by omega) (by omega)) (g2 _ (by omega) (by omega)) (g2 _ (by omega) (by omega)) (fun k x y => g2 _ (by omega) (by omega)) (fun j x y => ?_)
      have hj := hwR.2.1 j x (by omega)
      by_cases hjl : j = l
      · subst hjl
        rw [z2, if_pos rfl]
        refine ⟨by omega, by omega, fun i y1 y2 => ?_⟩
        show M2 (m + 1) ((15 + 24 * j) + i) = _
        rw [if_pos rfl]
        by_cases hi : i < a
        · rw [if_pos hi, g2 _ (by omega) (by omega)]; rfl
        · rw [if_neg hi, s2 i (by omega) (by omega)]; rfl
      · rw [if_neg hjl, g2 _ (by omega) (by omega)]
        refine ⟨rfl, by omega, fun i y1 y2 => ?_⟩
        show M2 (m + 1) ((15 + 24 * j) + i) = _
        rw [if_neg hjl, g2 _ (by omega) (by omega)]; rfl
    obtain ⟨k1, k2⟩ := oC_cg (l := l) (at' := a) hwR he h0 (by omega) ⟨h2, by omega⟩
    refine m_fin (M0 := M) (o := og (-9) (-9)) (fun q b1 b2 b3 => by rw [f2 q b1, f8 q b2 b3]) hpa (hE.tr k1) (k1.wr k2) ?_ hw (fun j x y => ?_) (fun M27 f27 e27 p27 => ?_)
    · rw [f2 _ (by omega)]
      exact (eqv_cells hwR g8).tr he
    · have y2 : j < p 0 := y
      rw [f2 _ (by omega), o8 j x (by omega), og_nn]
      exact ⟨rfl, by omega⟩
    · exact T3 cond M27 f27 p27
  · rintro M15 rfl
    refine ⟨by omega, hrec _ _ ⟨by omega, by omega, fun q hqb => by rw [um_ne _ _ _ hqb]; exact f2 q hqb, by rw [um_r _ (by omega)]; exact z2, fun j b1 b2 => by rw [um_r _ (by omega)]; exact g2 j b1 (by omega), fun i b1 b2 => ?_⟩ (by omega)⟩
    by_cases hi : i = v
    · subst hi
      rw [um_w, g2 _ (by omega) (by omega)]
    · rw [um_r _ (by omega)]; exact s2 i b1 (by omega)
end MED
