def Tadd (p : Int → Int) (n : Int) (ps : Int → Int → Int) (c l w : Int) (f : Int → Int) (K : Kt) : Prop := (¬ (0 ≤ l ∧ l ≤ p 0 ∧ p 0 < 12) → K (-1) p n ps c) ∧ ((0 ≤ l ∧ l ≤ p 0 ∧ p 0 < 12) → Ked K 1 p (oW p l w f) l (-9) n ps)
def Tdro (p : Int → Int) (n : Int) (ps : Int → Int → Int) (c l : Int) (K : Kt) : Prop := (¬ (0 ≤ l ∧ l < p 0) → K (-1) p n ps c) ∧ ((0 ≤ l ∧ l < p 0) → Ked K 1 p (oX p l) (-9) l n ps)
def Tali (p : Int → Int) (n : Int) (ps : Int → Int → Int) (c k v : Int) (K : Kt) : Prop := (¬ (0 ≤ k ∧ k < 24) → K (-1) p n ps c) ∧ ((0 ≤ k ∧ k < 24) → Ked K 1 p (oA p k v) (-9) (-9) n ps)
def Tpad (p : Int → Int) (n : Int) (ps : Int → Int → Int) (c v : Int) (K : Kt) : Prop := (¬ (0 ≤ v ∧ v ≤ 4) → K (-1) p n ps c) ∧ ((0 ≤ v ∧ v ≤ 4) → Ked K 1 p (oP p v) (-9) (-9) n ps)
def Tlea (p : Int → Int) (n : Int) (ps : Int → Int → Int) (c v : Int) (K : Kt) : Prop := (¬ (0 ≤ v ∧ v ≤ 9) → K (-1) p n ps c) ∧ ((0 ≤ v ∧ v ≤ 9) → Ked K 1 p (oL p v) (-9) (-9) n ps)
/-- an empty line filled -/
theorem AP_oW {p R S : Int → Int} {l w : Int} {f g : Int → Int} (hw : WR p) (h0 : 0 ≤ l) (h1 : l ≤ p 0) (hz : p 0 < 12) (hn : 0 ≤ w ∧ w ≤ 24) (hR : Eqv R (oW p l 0 f)) (hA : AP R S l 0 w g) : Eqv S (oW p l w g) := by
  obtain ⟨A1, A2, A3⟩ := hA
  have hm := hw.1
  have es : ∀ j, 0 ≤ j → j < p 0 + 1 → R (3 + j) = if j < l then p (3 + j) else if j = l then 0 else p (3 + (j - 1)) := fun j a b => by
    rw [eqv_sz hR a b]
    exact mk_sz a (by omega)
  have el : ∀ j i, 0 ≤ j → j < p 0 + 1 → 0 ≤ i → i < 24 → i < R (3 + j) → ln R j i = if j < l then ln p j i else if j = l then f i else ln p (j - 1) i := fun j i a b c d e => by
    rw [(hR.2.2.2.2 j a (by rw [hR.1]; exact b)).2 i c e]
    exact mk_ln a (by omega) c d
  have r0 : R 0 = p 0 + 1 := hR.1
  refine eqv_mk (by omega) (by rw [A3 _ (by omega) (by omega)]; exact r0) (by rw [A3 _ (by omega) (by omega)]; exact hR.2.1) (by rw [A3 _ (by omega) (by omega)]; exact hR.2.2.1) (fun k a b => ?_) (fun j a b => ?_)
  · rw [A3 _ (by omega) (by omega), hR.2.2.2.1 k a b]
    exact mk_al a
  · by_cases hj : j = l
    · subst hj
      rw [A1, if_neg (by omega), if_pos rfl]
      refine ⟨by omega, by omega, fun i c d => ?_⟩
      rw [if_neg (by omega), if_pos rfl, ← A2 i c d]
      show S ((15 + 24 * j) + i) = S ((15 + 24 * j) + (0 + i))
      rw [show (0 : Int) + i = i by omega]
    · rw [A3 _ (by omega) (by omega), es j a b]
      by_cases hjl : j < l
      · have hs := hw.2.1 j a (by omega)
        have e := es j a b
        rw [if_pos hjl] at e
        rw [if_pos hjl, if_pos hjl]
        refine ⟨rfl, by omega, fun i c d => ?_⟩
        rw [if_pos hjl]
        have := el j i a b c (by omega) (by omega)
        rw [if_pos hjl] at this
        rw [← this]
        exact A3 _ (by omega) (by omega)
      · have hs := hw.2.1 (j - 1) (by omega) (by omega)
        have e := es j a b
        rw [if_neg hjl, if_neg hj] at e
        rw [if_neg hjl, if_neg hj, if_neg hjl, if_neg hj]
        refine ⟨rfl, by omega, fun i c d => ?_⟩
        rw [if_neg hjl, if_neg hj]
        have := el j i a b c (by omega) (by omega)
        rw [if_neg hjl, if_neg hj] at this
        rw [← this]
        exact A3 _ (by omega) (by omega)
section MED3
variable {M : Mm} {m l n c : Int} {p : Int → Int} {ps : Int → Int → Int}
theorem m_adds {Q : Int → Mm → Prop} {w : Int} (hr : 0 ≤ M m 10 ∧ 1 ≤ M m 11 ∧ M m 11 ≤ 24 ∧ M m 10 + M m 11 ≤ 150) (hwd : w = if M m 11 = 1 ∧ M (m + 5) (M m 10) = 45 then 0 else M m 11) (h : MP m M p n ps c) (hT : Tadd p n ps c (M m 15) w (fun i => M (m + 5) (M m 10 + i)) (fun v p' n' ps' c' => ∀ M2 : Mm, FM m M M2 → MP m M2 p' n' ps' c' → Q v M2)) : PX7_adds m M Q := by
  obtain ⟨hw, he, hpa, hc⟩ := id h
  obtain ⟨T1, T3⟩ := hT
  have hm := hw.1
  have hwR : WR (M (m + 1)) := he.sy.wr hw
  have e0 := he.1
  unfold PX7_adds
  rw [e0]
  refine s7_in (fun h0 h1 => ⟨fun z => by omega, fun _ => ?_⟩) (fun hn => ⟨fun _ => T1 (by omega) M (FM.rf m M) h, fun z => absurd rfl z⟩)
  rw [e0]
  refine ⟨fun h12 => T1 (by omega) M (FM.rf m M) h, fun h12 => ?_⟩
  have cond : 0 ≤ M m 15 ∧ M m 15 ≤ p 0 ∧ p 0 < 12 := ⟨h0, h1, by omega⟩
  refine s7_begins (fun M8 f8 g8 o8 => ?_)
  have e81 : M8 (m + 1) = M (m + 1) := f8 _ (by omega) (by omega)
  have e8m : M8 m = M m := f8 _ (by omega) (by omega)
  rw [e8m]
  refine s7_opens (fun _ => 0) e81 hwR h0 (by omega) (by omega) (fun M1 f1 E1 O1 => ?_)
  have e1m : M1 m = M m := by rw [f1 _ (by omega) (by omega)]; exact e8m
  have e15 : M1 (m + 5) = M (m + 5) := by rw [f1 _ (by omega) (by omega), f8 _ (by omega) (by omega)]
  obtain ⟨k1, k2⟩ := oW_cg (l := M m 15) (n := 0) (f := fun _ => 0) (g := fun _ => 0) hwR he h0 (by omega) (by omega) (by omega) (fun _ _ _ => rfl)
  have EP : Eqv (M1 (m + 1)) (oW p (M m 15) 0 (fun _ => 0)) := E1.tr k1
  have eMb : M1 (m + 1) (3 + M m 15) = 0 := by
    rw [eqv_sz EP h0 (show M m 15 < p 0 + 1 by omega)]
    unfold oW
    rw [mk_sz h0 (by omega), if_neg (by omega), if_pos rfl]
  -- behind the signs
  have fin : ∀ M2 : Mm, (∀ q, q ≠ m + 1 → M2 q = M1 q) → AP (M1 (m + 1)) (M2 (m + 1)) (M m 15) 0 w (fun i => M (m + 5) (M m 10 + i)) → (0 ≤ w ∧ w ≤ 24) → PX7_ends m M2 (fun M14 => Q 1 M14) := by
    intro M2 f2 A2 hwz
    have E2 := AP_oW hw h0 h1 (by omega) hwz EP A2
    obtain ⟨-, W2⟩ := oW_cg (l := M m 15) (n := w) (f := fun i => M (m + 5) (M m 10 + i)) (g := fun i => M (m + 5) (M m 10 + i)) hw (Eqv.rf p) h0 h1 (by omega) hwz (fun _ _ _ => rfl)
    refine m_fin (M0 := M) (o := og (M m 15) (-9)) (fun q b1 b2 b3 => by rw [f2 q b1, f1 q b1 b3, f8 q b2 b3]) hpa E2 W2 ?_ hw (fun j x y => ?_) (fun M27 f27 e27 p27 => T3 cond M27 f27 p27)
    · rw [f2 _ (by omega), f1 _ (by omega) (by omega)]
      exact (eqv_cells hwR g8).tr he
    · have y2 : j < p 0 + 1 := y
      rw [f2 _ (by omega), O1 j x (by omega), og_op h0]
      by_cases hj : j < M m 15
      · rw [if_pos hj, if_pos hj, o8 j x (by omega)]
        exact ⟨rfl, by omega⟩
      · rw [if_neg hj, if_neg hj]
        by_cases hj2 : j = M m 15
        · rw [if_pos hj2, if_pos hj2]
          exact ⟨rfl, Or.inl rfl⟩
        · rw [if_neg hj2, if_neg hj2, o8 (j - 1) (by omega) (by omega)]
          exact ⟨rfl, by omega⟩
  have all : w = M m 11 → JX7_adds_68 Q m M1 := by
    intro hwe
    unfold JX7_adds_68
    refine lr_I (fun v M2 => 0 ≤ v ∧ v ≤ w ∧ (∀ q, q ≠ m + 1 → M2 q = M1 q) ∧ AP (M1 (m + 1)) (M2 (m + 1)) (M m 15) 0 v (fun i => M (m + 5) (M m 10 + i))) (fun v _ => (w - v).toNat) ?_ ⟨Int.le_refl _, by omega, fun _ _ => rfl, AP_0 eMb⟩
    rintro rec v M2 ⟨a0, a1, f2, A2⟩ hrec
    unfold BX7_adds_72
    rw [f2 m (by omega), e1m, f2 (m + 5) (by omega), e15, ← hwe]
    refine ⟨fun hx => fin M2 f2 (by rw [show w = v by omega]; exact A2) (by omega), fun hx => ⟨fun _ => ⟨by omega, ?_⟩, fun z => absurd rfl z⟩⟩
    exact s7_appends (t := v) (g := fun i => M (m + 5) (M m 10 + i)) A2 (by omega) (by omega) (fun M3 f3 A3 => ⟨by omega, hrec _ _ ⟨by omega, by omega, fun q hq => by rw [f3 q hq, f2 q hq], A3⟩ (by omega)⟩)
  rw [e1m, e15]
  refine ⟨fun hd => ⟨by omega, fun hd2 => ?_, fun hd2 => all (by rw [hwd, if_neg (fun z => hd2 z.2)])⟩, fun hd => all (by rw [hwd, if_neg (fun z => hd z.1)])⟩
  have hw0 : w = 0 := by rw [hwd, if_pos ⟨hd, hd2⟩]
  refine lk_I (fun v => v = 0) (fun _ => 0) ?_ rfl
  rintro rec v rfl hrec
  unfold BX7_adds_72
  rw [e1m, hd]
  refine ⟨fun z => by omega, fun _ => ⟨fun z => by omega, fun _ => fin M1 (fun _ _ => rfl) (by rw [hw0]; exact AP_0 eMb) (by omega)⟩⟩
theorem m_drops {Q : Int → Mm → Prop} (h : MP m M p n ps c) (hT : Tdro p n ps c (M m 15) (fun v p' n' ps' c' => ∀ M2 : Mm, FM m M M2 → MP m M2 p' n' ps' c' → Q v M2)) : PX7_drops m M Q := by
  obtain ⟨hw, he, hpa, hc⟩ := id h
  obtain ⟨T1, T3⟩ := hT
  have hm := hw.1
  have hwR : WR (M (m + 1)) := he.sy.wr hw
  have e0 := he.1
  unfold PX7_drops
  refine s7_isLine hw he (fun h0 h1 => ⟨fun z => by omega, fun _ => ?_⟩) (fun hn => ⟨fun _ => T1 hn M (FM.rf m M) h, fun z => absurd rfl z⟩)
  refine s7_begins (fun M8 f8 g8 o8 => ?_)
  have e81 : M8 (m + 1) = M (m + 1) := f8 _ (by omega) (by omega)
  have e8m : M8 m = M m := f8 _ (by omega) (by omega)
  rw [e8m]
  refine s7_shuts e81 hwR h0 (by omega) (fun M5 f5 E5 O5 => ?_)
  obtain ⟨t1, t2⟩ := oX_cg (l := M m 15) hwR he h0 (by omega)
  refine m_fin (M0 := M) (o := og (-9) (M m 15)) (fun q b1 b2 b3 => by rw [f5 q b1 b3, f8 q b2 b3]) hpa (E5.tr t1) (t1.wr t2) ?_ hw (fun j x y => ?_) (fun M27 f27 e27 p27 => T3 ⟨h0, h1⟩ M27 f27 p27)
  · rw [f5 _ (by omega) (by omega)]
    exact (eqv_cells hwR g8).tr he
  · have y2 : j < p 0 - 1 := y
    rw [O5 j x (by omega), og_cl h0]
    by_cases hj : j < M m 15
    · rw [if_pos hj, if_pos hj, o8 j x (by omega)]
      exact ⟨rfl, by omega⟩
    · rw [if_neg hj, if_neg hj, o8 (j + 1) (by omega) (by omega)]
      exact ⟨rfl, by omega⟩
theorem m_becomes {Q : Int → Mm → Prop} {j v : Int} {r : Int → Int} (hj : 0 ≤ j ∧ j < 327) (h : MP m M p n ps c) (he2 : Eqv (ur (M (m + 1)) j v) r) (hwr : WR r) (hr0 : r 0 = p 0) (hq : Ked (fun v p' n' ps' c' => ∀ M2 : Mm, FM m M M2 → MP m M2 p' n' ps' c' → Q v M2) 1 p r (-9) (-9) n ps) : PX7_becomes m j v 1 M Q := by
  obtain ⟨hw, he, hpa, hc⟩ := id h
  have hm := hw.1
  have hwR : WR (M (m + 1)) := he.sy.wr hw
  have e0 := he.1
  unfold PX7_becomes
  refine ⟨fun z => by omega, fun _ => s7_begins (fun M8 f8 g8 o8 => ⟨hj, ?_⟩)⟩
  rintro M4 rfl
  have e81 : M8 (m + 1) = M (m + 1) := f8 _ (by omega) (by omega)
  refine m_fin (M0 := M) (o := og (-9) (-9)) (fun q b1 b2 b3 => by rw [um_ne _ _ _ b1, f8 q b2 b3]) hpa ?_ hwr ?_ hw (fun i x y => ?_) (fun M27 f27 e27 p27 => hq M27 f27 p27)
  · rw [um_at, e81]; exact he2
  · rw [um_ne _ _ _ (by omega)]
    exact (eqv_cells hwR g8).tr he
  · rw [um_ne _ _ _ (by omega), o8 i x (by omega), og_nn]
    exact ⟨rfl, by omega⟩
theorem m_no {Q : Int → Mm → Prop} {j v : Int} (hq : Q (-1) M) : PX7_becomes m j v 0 M Q := ⟨fun _ => hq, fun z => absurd rfl z⟩
theorem ur_w (r : Int → Int) (j v : Int) : ur r j v j = v := by unfold ur; rw [if_pos rfl]
theorem ur_r (r : Int → Int) {j v k : Int} (h : k ≠ j) : ur r j v k = r k := by unfold ur; rw [if_neg h]
theorem eq_oA {R : Int → Int} {k v : Int} (hw : WR R) (hk : 0 ≤ k ∧ k < 24) : Eqv (ur R (303 + k) v) (oA R k v) := by
  have hm := hw.1
  refine eqv_mk (by omega) (ur_r _ (by omega)) (ur_r _ (by omega)) (ur_r _ (by omega)) (fun q a b => ?_) (fun j a b => ?_)
  · by_cases hq : q = k
    · rw [hq, ur_w, if_pos rfl]
    · rw [ur_r _ (by omega), if_neg hq]
  · have := hw.2.1 j a b
    rw [ur_r _ (by omega)]
    refine ⟨rfl, by omega, fun i c d => ?_⟩
    exact ur_r _ (by omega)
theorem eq_oP {R : Int → Int} {v : Int} (hw : WR R) : Eqv (ur R 1 v) (oP R v) := by
  have hm := hw.1
  refine eqv_mk (by omega) (ur_r _ (by omega)) (ur_w _ _ _) (ur_r _ (by omega)) (fun q a b => ur_r _ (by omega)) (fun j a b => ?_)
  have := hw.2.1 j a b
  rw [ur_r _ (by omega)]
  exact ⟨rfl, by omega, fun i c d => ur_r _ (by omega)⟩
theorem eq_oL {R : Int → Int} {v : Int} (hw : WR R) : Eqv (ur R 2 v) (oL R v) := by
  have hm := hw.1
  refine eqv_mk (by omega) (ur_r _ (by omega)) (ur_r _ (by omega)) (ur_w _ _ _) (fun q a b => ur_r _ (by omega)) (fun j a b => ?_)
  have := hw.2.1 j a b
  rw [ur_r _ (by omega)]
  exact ⟨rfl, by omega, fun i c d => ur_r _ (by omega)⟩
end MED3
