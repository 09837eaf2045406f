section MED2
variable {M : Mm} {m l n c : Int} {p : Int → Int} {ps : Int → Int → Int}
theorem og_op {op l : Int} (h : 0 ≤ op) : og op (-9) l = if l < op then l else if l = op then -9 else l - 1 := by
  unfold og
  by_cases h1 : l < op
  · rw [if_neg (by omega), if_neg (by omega), if_pos h1]
  · rw [if_pos (by omega), if_neg h1]
theorem og_cl {cl l : Int} (h : 0 ≤ cl) : og (-9) cl l = if l < cl then l else l + 1 := by
  unfold og
  rw [if_neg (by omega)]
  by_cases h1 : l < cl
  · rw [if_neg (by omega), if_pos h1]
  · rw [if_pos (by omega), if_neg h1]
theorem m_split {Q : Int → Mm → Prop} {a : Int} (h : MP m M p n ps c) (hT : Tspl p n ps c l a (fun v p' n' ps' c' => ∀ M2 : Mm, FM m M M2 → MP m M2 p' n' ps' c' → Q v M2)) : PX7_split m l a M Q := by
  obtain ⟨hw, he, hpa, hc⟩ := id h
  obtain ⟨T1, T2, T3⟩ := hT
  have hm := hw.1
  have hwR : WR (M (m + 1)) := he.sy.wr hw
  have e0 := he.1
  unfold PX7_split
  refine s7_isPlace hw he (fun h0 h1 h2 h3 => ⟨fun z => by omega, fun _ => ?_⟩) (fun hn => ⟨fun _ => T1 hn M (FM.rf m M) h, fun z => absurd rfl z⟩)
  have cond : 0 ≤ l ∧ l < p 0 ∧ 0 ≤ a ∧ a ≤ p (3 + l) := ⟨h0, h1, h2, h3⟩
  have hsz := hw.2.1 l h0 h1
  have esz := eqv_sz he h0 h1
  rw [e0]
  refine ⟨fun h12 => T2 cond h12 M (FM.rf m M) h, fun h12 => ?_⟩
  refine s7_begins (fun M8 f8 g8 o8 => ⟨by omega, ?_⟩)
  have e81 : M8 (m + 1) = M (m + 1) := f8 _ (by omega) (by omega)
  refine s7_opens (fun _ => 0) e81 hwR (by omega) (by omega) (by omega) (fun M1 f1 E1 O1 => ?_)
  obtain ⟨k1, k2⟩ := oW_cg (l := l + 1) (n := 0) (f := fun _ => 0) (g := fun _ => 0) hwR he (by omega) (by omega) (by omega) (by omega) (fun _ _ _ => rfl)
  have EP : Eqv (M1 (m + 1)) (oW p (l + 1) 0 (fun _ => 0)) := E1.tr k1
  have WP' : WR (oW p (l + 1) 0 (fun _ => 0)) := k1.wr k2
  have WM1 : WR (M1 (m + 1)) := EP.sy.wr WP'
  have eM0 : M1 (m + 1) 0 = p 0 + 1 := EP.1
  have eMl : M1 (m + 1) (3 + l) = p (3 + l) := by
    rw [eqv_sz EP h0 (show l < p 0 + 1 by omega)]
    unfold oW
    rw [mk_sz h0 (by omega), if_pos (by omega)]
  have eMb : M1 (m + 1) (3 + (l + 1)) = 0 := by
    rw [eqv_sz EP (by omega) (show l + 1 < p 0 + 1 by omega)]
    unfold oW
    rw [mk_sz (by omega) (by omega), if_neg (by omega), if_pos rfl]
  refine lr_I (fun v M2 => a ≤ v ∧ v ≤ p (3 + l) ∧ (∀ q, q ≠ m + 1 → M2 q = M1 q) ∧ AP (M1 (m + 1)) (M2 (m + 1)) (l + 1) 0 (v - a) (fun i => M1 (m + 1) ((15 + 24 * l) + (a + i)))) (fun v _ => (p (3 + l) - v).toNat) ?_ ⟨Int.le_refl _, h3, fun _ _ => rfl, by rw [show a - a = 0 by omega]; exact AP_0 eMb⟩
  rintro rec v M2 ⟨a0, a1, f2, A2⟩ hrec
  unfold BX7_split_38 PX7_signAt
  rw [show M2 (m + 1) (3 + l) = p (3 + l) by rw [A2.2.2 _ (by omega) (by omega)]; exact eMl]
  refine ⟨by omega, fun hx => ⟨by omega, ?_⟩, fun hx => ⟨by omega, by omega, ?_⟩⟩
  · have ev : v = p (3 + l) := by omega
    subst ev
    rintro M20 rfl
    obtain ⟨A1, A3, A4⟩ := A2
    have hE : Eqv (um M2 (m + 1) (3 + l) a (m + 1)) (oM (M1 (m + 1)) l a (l + 1)) := by
      refine eqv_mk (by omega) ?_ ?_ ?_ (fun k x y => ?_) (fun j x y => ?_)
      · rw [um_r _ (by omega), A4 _ (by omega) (by omega)]
      · rw [um_r _ (by omega), A4 _ (by omega) (by omega)]
      · rw [um_r _ (by omega), A4 _ (by omega) (by omega)]
      · rw [um_r _ (by omega), A4 _ (by omega) (by omega)]
      · have hj := WM1.2.1 j x y
        by_cases hjb : j = l + 1
        · subst hjb
          rw [um_r _ (by omega), A1, if_pos rfl, eMb, eMl]
          refine ⟨by omega, by omega, fun i y1 y2 => ?_⟩
          show um M2 (m + 1) (3 + l) a (m + 1) ((15 + 24 * (l + 1)) + i) = _
          have := A3 i y1 (by omega)
          rw [show (0 : Int) + i = i by omega] at this
          rw [um_r _ (by omega), if_pos rfl, if_neg (by omega), this]
          show _ = M1 (m + 1) ((15 + 24 * l) + (a + (i - 0)))
          rw [show i - 0 = i by omega]
        · rw [if_neg hjb]
          by_cases hja : j = l
          · subst hja
            rw [um_w, if_pos rfl]
            refine ⟨rfl, by omega, fun i y1 y2 => ?_⟩
            show um M2 (m + 1) (3 + j) a (m + 1) ((15 + 24 * j) + i) = _
            rw [if_neg hjb, um_r _ (by omega), A4 _ (by omega) (by omega)]; rfl
          · rw [if_neg hja, um_r _ (by omega), A4 _ (by omega) (by omega)]
            refine ⟨rfl, by omega, fun i y1 y2 => ?_⟩
            show um M2 (m + 1) (3 + l) a (m + 1) ((15 + 24 * j) + i) = _
            rw [if_neg hjb, um_r _ (by omega), A4 _ (by omega) (by omega)]; rfl
    obtain ⟨q1, q2⟩ := oM_cg (a := l) (at' := a) (b := l + 1) WM1 EP h0 (by omega) (by omega) (by omega) ⟨h2, by omega⟩ (by omega)
    refine m_fin (M0 := M) (o := og (l + 1) (-9)) (fun q b1 b2 b3 => by rw [um_ne _ _ _ b1, f2 q b1, f1 q b1 b3, f8 q b2 b3]) hpa (hE.tr q1) (q1.wr q2) ?_ hw (fun j x y => ?_) (fun M27 f27 e27 p27 => ?_)
    · rw [um_ne _ _ _ (by omega), f2 _ (by omega), f1 _ (by omega) (by omega)]
      exact (eqv_cells hwR g8).tr he
    · have y2 : j < p 0 + 1 := y
      rw [um_ne _ _ _ (by omega), f2 _ (by omega), O1 j x (by omega), og_op (by omega)]
      by_cases hj : j < l + 1
      · rw [if_pos hj, if_pos hj, o8 j x (by omega)]
        exact ⟨rfl, by omega⟩
      · rw [if_neg hj, if_neg hj]
        by_cases hj2 : j = l + 1
        · rw [if_pos hj2, if_pos hj2]
          exact ⟨rfl, Or.inl rfl⟩
        · rw [if_neg hj2, if_neg hj2, o8 (j - 1) (by omega) (by omega)]
          exact ⟨rfl, by omega⟩
    · rw [show M27 (m + 1) 0 = p 0 + 1 by rw [e27, um_r _ (by omega), A4 _ (by omega) (by omega)]; exact eM0]
      exact T3 cond (by omega) M27 f27 p27
  · rw [show M2 (m + 1) ((15 + 24 * l) + v) = (fun i => M1 (m + 1) ((15 + 24 * l) + (a + i))) (v - a) by rw [A2.2.2 _ (by omega) (by omega)]; show M1 (m + 1) ((15 + 24 * l) + v) = M1 (m + 1) ((15 + 24 * l) + (a + (v - a))); congr 1; omega]
    refine s7_appends (t := v - a) (g := fun i => M1 (m + 1) ((15 + 24 * l) + (a + i))) A2 (by omega) (by omega) (fun M3 f3 A3 => ⟨by omega, hrec _ _ ⟨by omega, by omega, fun q hq => by rw [f3 q hq, f2 q hq], ?_⟩ (by omega)⟩)
    rw [show v + 1 - a = v - a + 1 by omega]
    exact A3
theorem m_join {Q : Int → Mm → Prop} (hl : l < 2147483647) (h : MP m M p n ps c) (hT : Tjoi p n ps c l (fun v p' n' ps' c' => ∀ M2 : Mm, FM m M M2 → MP m M2 p' n' ps' c' → Q v M2)) : PX7_join m l M Q := by
  obtain ⟨hw, he, hpa, hc⟩ := id h
  obtain ⟨T1, T2, T3⟩ := hT
  have hm := hw.1
  have hwR : WR (M (m + 1)) := he.sy.wr hw
  have e0 := he.1
  unfold PX7_join
  refine s7_isLine hw he (fun h0 h1 => ⟨fun z => by omega, fun _ => ⟨by omega, ?_⟩⟩) (fun hn => ⟨fun _ => T1 (by omega) M (FM.rf m M) h, fun z => absurd rfl z⟩)
  refine s7_isLine hw he (fun h2 h3 => ⟨fun z => by omega, fun _ => ⟨by omega, by omega, ?_⟩⟩) (fun hn => ⟨fun _ => T1 (by omega) M (FM.rf m M) h, fun z => absurd rfl z⟩)
  have cond : 0 ≤ l ∧ l + 1 < p 0 := ⟨h0, h3⟩
  have hsz := hw.2.1 l h0 h1
  have esz := eqv_sz he h0 h1
  have hsz2 := hw.2.1 (l + 1) h2 h3
  have esz2 := eqv_sz he h2 h3
  rw [show 3 + l + 1 = 3 + (l + 1) by omega, esz, esz2]
  refine ⟨by omega, fun h24 => ?_, fun h24 => T2 cond (by omega) M (FM.rf m M) h⟩
  refine s7_begins (fun M1 f8 g8 o8 => ?_)
  have e81 : M1 (m + 1) = M (m + 1) := f8 _ (by omega) (by omega)
  refine lr_I (fun v M2 => 0 ≤ v ∧ v ≤ p (3 + (l + 1)) ∧ (∀ q, q ≠ m + 1 → M2 q = M1 q) ∧ AP (M (m + 1)) (M2 (m + 1)) l (p (3 + l)) v (fun i => M (m + 1) ((15 + 24 * (l + 1)) + i))) (fun v _ => (p (3 + (l + 1)) - v).toNat) ?_ ⟨Int.le_refl _, hsz2.1, fun _ _ => rfl, by rw [e81]; exact AP_0 esz⟩
  rintro rec v M2 ⟨a0, a1, f2, A2⟩ hrec
  unfold BX7_join_53 PX7_signAt
  rw [show 3 + l + 1 = 3 + (l + 1) by omega, show M2 (m + 1) (3 + (l + 1)) = p (3 + (l + 1)) by rw [A2.2.2 _ (by omega) (by omega)]; exact esz2]
  refine ⟨by omega, fun hx => ⟨by omega, ?_⟩, fun hx => ⟨by omega, by omega, ?_⟩⟩
  · have ev : v = p (3 + (l + 1)) := by omega
    subst ev
    obtain ⟨A1, A3, A4⟩ := A2
    have eS0 : M2 (m + 1) 0 = M (m + 1) 0 := A4 _ (by omega) (by omega)
    have eSz : ∀ j, 0 ≤ j → j < 12 → j ≠ l → M2 (m + 1) (3 + j) = M (m + 1) (3 + j) := fun j x y z => A4 _ (by omega) (by omega)
    have eSl : ∀ j i, 0 ≤ j → j < 12 → j ≠ l → 0 ≤ i → i < 24 → ln (M2 (m + 1)) j i = ln (M (m + 1)) j i := fun j i x y z u w => A4 _ (by omega) (by omega)
    have W2 : WR (M2 (m + 1)) := by
      refine ⟨by rw [eS0]; exact hwR.1, fun j x y => ?_, by rw [A4 _ (by omega) (by omega)]; exact hwR.2.2.1, by rw [A4 _ (by omega) (by omega)]; exact hwR.2.2.2⟩
      rw [eS0] at y
      by_cases hj : j = l
      · rw [hj, A1]; omega
      · rw [eSz j x (by omega) hj]; exact hwR.2.1 j x y
    obtain ⟨q1, q2⟩ := oM_cg (a := l + 1) (at' := 0) (b := l) hwR he h2 (by omega) h0 (by omega) ⟨Int.le_refl _, by omega⟩ (by omega)
    have eOM : ∀ j, 0 ≤ j → j < 12 → oM (M (m + 1)) (l + 1) 0 l (3 + j) = if j = l then M (m + 1) (3 + l) + (M (m + 1) (3 + (l + 1)) - 0) else if j = l + 1 then 0 else M (m + 1) (3 + j) := fun j x y => mk_sz x y
    have hE : Eqv (oX (M2 (m + 1)) (l + 1)) (oX (oM (M (m + 1)) (l + 1) 0 l) (l + 1)) := by
      refine oX_cg2 W2 eS0 (A4 _ (by omega) (by omega)) (A4 _ (by omega) (by omega)) (fun k x y => ?_) (fun j x y z => ?_) h2 (by omega)
      · show _ = mk _ _ _ _ _ _ (303 + k)
        rw [mk_al x]
        exact A4 _ (by omega) (by omega)
      · rw [eOM j x (by omega)]
        by_cases hj : j = l
        · subst hj
          rw [if_pos rfl, A1]
          refine ⟨by omega, fun i y1 y2 => ?_⟩
          have y3 : ln (oM (M (m + 1)) (j + 1) 0 j) j i = if j = j then (if i < M (m + 1) (3 + j) then ln (M (m + 1)) j i else ln (M (m + 1)) (j + 1) (0 + (i - M (m + 1) (3 + j)))) else ln (M (m + 1)) j i := mk_ln x (by omega) y1 (by omega)
          rw [y3, if_pos rfl, esz]
          by_cases hi : i < p (3 + j)
          · rw [if_pos hi]
            exact A4 _ (by omega) (by omega)
          · rw [if_neg hi]
            have := A3 (i - p (3 + j)) (by omega) (by omega)
            rw [show p (3 + j) + (i - p (3 + j)) = i by omega] at this
            show M2 (m + 1) ((15 + 24 * j) + i) = M (m + 1) ((15 + 24 * (j + 1)) + (0 + (i - p (3 + j))))
            rw [this, show (0 : Int) + (i - p (3 + j)) = i - p (3 + j) by omega]
        · have hjs := W2.2.1 j x y
          rw [if_neg hj, if_neg z]
          refine ⟨eSz j x (by omega) hj, fun i y1 y2 => ?_⟩
          have y3 : ln (oM (M (m + 1)) (l + 1) 0 l) j i = if j = l then (if i < M (m + 1) (3 + l) then ln (M (m + 1)) l i else ln (M (m + 1)) (l + 1) (0 + (i - M (m + 1) (3 + l)))) else ln (M (m + 1)) j i := mk_ln x (by omega) y1 (by omega)
          rw [y3, if_neg hj]
          exact eSl j i x (by omega) hj y1 (by omega)
    have c0 : oM (M (m + 1)) (l + 1) 0 l 0 = M (m + 1) 0 := rfl
    obtain ⟨t1, t2⟩ := oX_cg (l := l + 1) q2 q1 h2 (by omega)
    refine s7_shuts (R := M2 (m + 1)) rfl W2 h2 (by omega) (fun M5 f5 E5 O5 => ?_)
    have E6 := (E5.tr hE).tr t1
    refine m_fin (M0 := M) (o := og (-9) (l + 1)) (fun q b1 b2 b3 => by rw [f5 q b1 b3, f2 q b1, f8 q b2 b3]) hpa E6 (t1.wr t2) ?_ hw (fun j x y => ?_) (fun M27 f27 e27 p27 => ?_)
    · rw [f5 _ (by omega) (by omega), f2 _ (by omega)]
      exact (eqv_cells hwR g8).tr he
    · have y2 : j < p 0 - 1 := y
      rw [O5 j x (by omega), f2 _ (by omega), og_cl (by omega)]
      by_cases hj : j < l + 1
      · rw [if_pos hj, if_pos hj, o8 j x (by omega)]
        exact ⟨rfl, by omega⟩
      · rw [if_neg hj, if_neg hj, o8 (j + 1) (by omega) (by omega)]
        exact ⟨rfl, by omega⟩
    · rw [show M27 (m + 1) 0 = p 0 - 1 by rw [e27]; exact E6.1]
      exact T3 cond h24 M27 f27 p27
  · rw [show M2 (m + 1) ((15 + 24 * (l + 1)) + v) = (fun i => M (m + 1) ((15 + 24 * (l + 1)) + i)) v by rw [A2.2.2 _ (by omega) (by omega)]]
    exact s7_appends (t := v) (g := fun i => M (m + 1) ((15 + 24 * (l + 1)) + i)) A2 (by omega) (by omega) (fun M3 f3 A3 => ⟨by omega, hrec _ _ ⟨by omega, by omega, fun q hq => by rw [f3 q hq, f2 q hq], A3⟩ (by omega)⟩)
end MED2
