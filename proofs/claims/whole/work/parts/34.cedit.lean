section CED
variable {M : Mm} {x l n c : Int} {p : Int → Int} {ps : Int → Int → Int}
theorem vc_sz (hw : WR p) (he : Eqv (vw M (x + 1)) p) (h0 : 0 ≤ l) (h1 : l < p 0) : M (x + 1 + 1) l = p (3 + l) := by
  have hm := hw.1
  rw [← eqv_sz he h0 h1]
  exact (vw_sz M (x + 1) h0 (by omega)).symm
theorem vc_ln {i : Int} (hw : WR p) (he : Eqv (vw M (x + 1)) p) (h0 : 0 ≤ l) (h1 : l < p 0) (hi : 0 ≤ i) (hj : i < p (3 + l)) : M (x + 1 + 2) ((l * 24) + i) = ln p l i := by
  have hm := hw.1
  have hs := hw.2.1 l h0 h1
  rw [← eqv_ln he h0 h1 hi hj]
  exact (vw_ln M (x + 1) h0 (by omega) hi (by omega)).symm
theorem vc_al {k : Int} (he : Eqv (vw M (x + 1)) p) (h0 : 0 ≤ k) (h1 : k < 24) : M (x + 1 + 3) k = p (303 + k) := by
  rw [← he.2.2.2.1 k h0 h1]
  exact (vw_al M (x + 1) h0).symm
theorem s3_hasLine {Q : Int → Mm → Prop} (he : Eqv (vw M (x + 1)) p) (hy : 0 ≤ l → l < p 0 → Q 1 M) (hn : ¬ (0 ≤ l ∧ l < p 0) → Q 0 M) : PX3_hasLine (x + 1) l M Q := by
  unfold PX3_hasLine JX3_hasLine_16
  rw [show M (x + 1) 0 = p 0 from he.1]
  exact ⟨fun h => hn (by omega), fun h => ⟨fun h2 => hn (by omega), fun h2 => hy (by omega) (by omega)⟩⟩
theorem s3_hasSign {Q : Int → Mm → Prop} {a : Int} (hw : WR p) (he : Eqv (vw M (x + 1)) p) (hy : 0 ≤ l → l < p 0 → 0 ≤ a → a < p (3 + l) → Q 1 M) (hn : ¬ (0 ≤ l ∧ l < p 0 ∧ 0 ≤ a ∧ a < p (3 + l)) → Q 0 M) : PX3_hasSign (x + 1) l a M Q := by
  have hm := hw.1
  unfold PX3_hasSign JX3_hasSign_26
  refine s3_hasLine he (fun h0 h1 => ⟨fun z => by omega, fun _ => ⟨fun h2 => hn (by omega), fun h2 => ⟨by omega, ?_⟩⟩⟩) (fun h => ⟨fun _ => hn (fun z => h ⟨z.1, z.2.1⟩), fun z => absurd rfl z⟩)
  rw [vc_sz hw he h0 h1]
  exact ⟨fun h3 => hn (by omega), fun h3 => hy h0 h1 (by omega) (by omega)⟩
theorem c_rem {Q : Mm → Prop} (h : CP x M p n ps c) (hq : ∀ M1 : Mm, (∀ a, (a < x + 5 ∨ x + 46 < a) → M1 a = M a) → PaC M1 (x + 5) (nx n) (cons' p ps) → Eqv (vw M1 (x + 1)) p → Q M1) : PX4_remember (x + 5) (x + 1) M Q := by
  obtain ⟨h45, hw, he, hpa, hc, hL⟩ := id h
  refine s4_remember hpa rfl (he.sy.wr hw) (by omega) (fun M1 f1 p1 => hq M1 (fun a ha => f1 a (by omega)) (p1.cg (fun i a b => ?_)) ?_)
  · unfold cons'
    by_cases hi : i = 0
    · rw [if_pos hi, if_pos hi]; exact he
    · rw [if_neg hi, if_neg hi]; exact Eqv.rf _
  · rw [vw_same (f1 _ (by omega)) (f1 _ (by omega)) (f1 _ (by omega)) (f1 _ (by omega))]; exact he
theorem c_fin {M0 : Mm} {Q : Mm → Prop} {r : Int → Int} {op cl : Int} (h : CP x M0 p n ps c) (hfr : ∀ a, (a < x + 1 ∨ x + 46 < a) → M a = M0 a) (hp : PaC M (x + 5) (nx n) (cons' p ps)) (he : Eqv (vw M (x + 1)) r) (hw : WR r) (ho : ∀ l, 0 ≤ l → l < r 0 → og op cl l < p 0)
    (hq : ∀ M2 : Mm, FC x M0 M2 → CP x M2 r (nx n) (cons' p ps) (msk r p (og op cl) (r 0)) → Q M2) : PX6_settle x op cl M Q := by
  obtain ⟨h45, hwp, hep, hpa, hc, hL⟩ := id h
  have ex : M x = M0 x := hfr x (by omega)
  have hn : 0 < nx n := by
    have := hpa.2.1
    unfold nx
    split <;> omega
  have h45b : Two M x := by unfold Two; rw [ex]; exact h45
  have hLb : Laid (x + M x 4) p M := by
    rw [ex]
    refine hL.keep (fun a b1 b2 _ => hfr a ?_)
    unfold Two at h45
    omega
  refine s6_settle h45b hLb hp hn rfl he hw ho (fun M2 f2 e2 e6 L2 => hq M2 (fun a ha => ?_) ⟨?_, hw, ?_, hp.keep (fun a b1 b2 => f2 a (by omega) (by omega)), e6, L2⟩)
  · rw [f2 a (by omega) (by omega), hfr a (by omega)]
  · unfold Two at h45b ⊢
    omega
  · rw [vw_same (f2 _ (by omega) (by omega)) (f2 _ (by omega) (by omega)) (f2 _ (by omega) (by omega)) (f2 _ (by omega) (by omega))]; exact he
theorem c_put {Q : Int → Mm → Prop} {a s : Int} (h : CP x M p n ps c) (hT : Tput p n ps c l a s (fun v p' n' ps' c' => ∀ M2 : Mm, FC x M M2 → CP x M2 p' n' ps' c' → Q v M2)) : PX6_put x l a s M Q := by
  obtain ⟨h45, hw, he, hpa, hc, hL⟩ := id h
  obtain ⟨T1, T2, T3⟩ := hT
  have hm := hw.1
  unfold PX6_put
  refine s3_hasLine he (fun h0 h1 => ⟨fun z => by omega, fun _ => ⟨fun h2 => T1 (by omega) M (FC.rf x M) h, fun h2 => ⟨by omega, ?_⟩⟩⟩) (fun hn => ⟨fun _ => T1 (fun z => hn ⟨z.1, z.2.1⟩) M (FC.rf x M) h, fun z => absurd rfl z⟩)
  have hsz := hw.2.1 l h0 h1
  rw [vc_sz hw he h0 h1]
  refine ⟨fun h3 => T1 (by omega) M (FC.rf x M) h, fun h3 => ?_⟩
  refine s5_isSign (fun hs => ⟨fun z => by omega, fun _ => ⟨by omega, ?_⟩⟩) (fun hs => ⟨fun _ => T1 (fun z => hs z.2.2.2.2) M (FC.rf x M) h, fun z => absurd rfl z⟩)
  rw [vc_sz hw he h0 h1]
  have cond : 0 ≤ l ∧ l < p 0 ∧ 0 ≤ a ∧ a ≤ p (3 + l) ∧ isS s := ⟨h0, h1, by omega, by omega, hs⟩
  refine ⟨fun h24 => c_rem h (fun M1 f1 p1 e1 => ?_), fun h24 => T2 cond (by omega) M (FC.rf x M) h⟩
  have w1 : WR (vw M1 (x + 1)) := e1.sy.wr hw
  have z1 := eqv_sz e1 h0 h1
  have n1 := e1.1
  refine s3_insert rfl w1 h0 (by omega) ⟨by omega, by omega⟩ (by omega) (fun M2 f2 E2 _ => ?_)
  obtain ⟨k1, k2⟩ := oI_cg (l := l) (at' := a) (s := s) w1 e1 h0 (by omega) ⟨by omega, by omega⟩ (by omega)
  refine c_fin h (fun q hq => by rw [f2 q (by omega) (by omega), f1 q (by omega)]) (p1.keep (fun q b1 b2 => f2 q (by omega) (by omega))) (E2.tr k1) (k1.wr k2) (fun j y1 y2 => by rw [og_nn]; exact y2) (fun M3 f3 c3 => ⟨by omega, ?_⟩)
  have e3 : M3 (x + 1 + 1) l = p (3 + l) + 1 := by
    rw [vc_sz c3.2.1 c3.2.2.1 h0 h1]
    show mk _ _ _ _ _ _ (3 + l) = _
    rw [mk_sz h0 (by omega), if_pos rfl]
  rw [e3]
  exact T3 cond h24 M3 f3 c3
theorem c_cut {Q : Int → Mm → Prop} {a : Int} (h : CP x M p n ps c) (hT : Tcut p n ps c l a (fun v p' n' ps' c' => ∀ M2 : Mm, FC x M M2 → CP x M2 p' n' ps' c' → Q v M2)) : PX6_cut x l a M Q := by
  obtain ⟨h45, hw, he, hpa, hc, hL⟩ := id h
  obtain ⟨T1, T3⟩ := hT
  have hm := hw.1
  unfold PX6_cut
  refine s3_hasSign hw he (fun h0 h1 h2 h3 => ⟨fun z => by omega, fun _ => ?_⟩) (fun hn => ⟨fun _ => T1 hn M (FC.rf x M) h, fun z => absurd rfl z⟩)
  have hsz := hw.2.1 l h0 h1
  unfold PX3_signAt
  rw [vc_ln hw he h0 h1 h2 h3]
  refine ⟨by omega, c_rem h (fun M1 f1 p1 e1 => ?_)⟩
  have w1 : WR (vw M1 (x + 1)) := e1.sy.wr hw
  have z1 := eqv_sz e1 h0 h1
  have n1 := e1.1
  refine s3_remove rfl w1 h0 (by omega) ⟨by omega, by omega⟩ (fun M2 f2 E2 => ?_)
  obtain ⟨k1, k2⟩ := oC_cg (l := l) (at' := a) w1 e1 h0 (by omega) ⟨by omega, by omega⟩
  exact c_fin h (fun q hq => by rw [f2 q (by omega) (by omega), f1 q (by omega)]) (p1.keep (fun q b1 b2 => f2 q (by omega) (by omega))) (E2.tr k1) (k1.wr k2) (fun j y1 y2 => by rw [og_nn]; exact y2) (fun M3 f3 c3 => T3 ⟨h0, h1, h2, h3⟩ M3 f3 c3)
theorem c_split {Q : Int → Mm → Prop} {a : Int} (h : CP x M p n ps c) (hT : Tspl p n ps c l a (fun v p' n' ps' c' => ∀ M2 : Mm, FC x M M2 → CP x M2 p' n' ps' c' → Q v M2)) : PX6_split x l a M Q := by
  obtain ⟨h45, hw, he, hpa, hc, hL⟩ := id h
  obtain ⟨T1, T2, T3⟩ := hT
  have hm := hw.1
  unfold PX6_split
  refine s3_hasLine he (fun h0 h1 => ⟨fun z => by omega, fun _ => ⟨fun h2 => T1 (by omega) M (FC.rf x M) h, fun h2 => ⟨by omega, ?_⟩⟩⟩) (fun hn => ⟨fun _ => T1 (fun z => hn ⟨z.1, z.2.1⟩) M (FC.rf x M) h, fun z => absurd rfl z⟩)
  have hsz := hw.2.1 l h0 h1
  rw [vc_sz hw he h0 h1, show M (x + 1) 0 = p 0 from he.1]
  refine ⟨fun h3 => ⟨fun h12 => c_rem h (fun M1 f1 p1 e1 => ⟨by omega, ?_⟩), fun h12 => T2 (by omega) (by omega) M (FC.rf x M) h⟩, fun h3 => T1 (by omega) M (FC.rf x M) h⟩
  have w1 : WR (vw M1 (x + 1)) := e1.sy.wr hw
  have n1 := e1.1
  refine s3_open rfl w1 (by omega) (by omega) (by omega) (fun _ => 0) (fun M2 f2 E2 _ => ⟨by omega, ?_⟩)
  obtain ⟨k1, k2⟩ := oW_cg (l := l + 1) (n := 0) (f := fun _ => 0) (g := fun _ => 0) w1 e1 (by omega) (by omega) (by omega) (by omega) (fun _ _ _ => rfl)
  have EP := E2.tr k1
  have W2 := EP.sy.wr (k1.wr k2)
  have n2 : vw M2 (x + 1) 0 = p 0 + 1 := EP.1
  have z2 : vw M2 (x + 1) (3 + l) = p (3 + l) := by
    rw [eqv_sz EP h0 (show l < p 0 + 1 by omega)]
    unfold oW
    rw [mk_sz h0 (by omega), if_pos (by omega)]
  have z3 : vw M2 (x + 1) (3 + (l + 1)) = 0 := by
    rw [eqv_sz EP (by omega) (show l + 1 < p 0 + 1 by omega)]
    unfold oW
    rw [mk_sz (by omega) (by omega), if_neg (by omega), if_pos rfl]
  refine s3_move rfl W2 h0 (by omega) (by omega) (by omega) (by omega) ⟨by omega, by omega⟩ (by omega) (fun M3 f3 E3 => ⟨by omega, ?_⟩)
  obtain ⟨q1, q2⟩ := oM_cg (a := l) (at' := a) (b := l + 1) W2 EP h0 (by omega) (by omega) (by omega) ⟨by omega, by omega⟩ (by omega)
  refine c_fin h (fun q hq => by rw [f3 q (by omega) (by omega), f2 q (by omega) (by omega) (by omega), f1 q (by omega)]) (p1.keep (fun q b1 b2 => by rw [f3 q (by omega) (by omega), f2 q (by omega) (by omega) (by omega)])) (E3.tr q1) (q1.wr q2) (fun j y1 y2 => ?_) (fun M4 f4 c4 => ?_)
  · have y3 : j < p 0 + 1 := y2
    rw [og_op (by omega)]
    split
    · omega
    · split <;> omega
  · rw [show M4 (x + 1) 0 = p 0 + 1 from c4.2.2.1.1]
    exact T3 (by omega) h12 M4 f4 c4
theorem c_join {Q : Int → Mm → Prop} (h : CP x M p n ps c) (hT : Tjoi p n ps c l (fun v p' n' ps' c' => ∀ M2 : Mm, FC x M M2 → CP x M2 p' n' ps' c' → Q v M2)) : PX6_join x l M Q := by
  obtain ⟨h45, hw, he, hpa, hc, hL⟩ := id h
  obtain ⟨T1, T2, T3⟩ := hT
  have hm := hw.1
  unfold PX6_join
  refine s3_hasLine he (fun h0 h1 => ⟨fun z => by omega, fun _ => ⟨by omega, ?_⟩⟩) (fun hn => ⟨fun _ => T1 (by omega) M (FC.rf x M) h, fun z => absurd rfl z⟩)
  refine s3_hasLine he (fun h2 h3 => ⟨fun z => by omega, fun _ => ⟨by omega, by omega, ?_⟩⟩) (fun hn => ⟨fun _ => T1 (by omega) M (FC.rf x M) h, fun z => absurd rfl z⟩)
  have hsz := hw.2.1 l h0 h1
  have hsz2 := hw.2.1 (l + 1) h2 h3
  rw [vc_sz hw he h0 h1, vc_sz hw he h2 h3]
  have cond : 0 ≤ l ∧ l + 1 < p 0 := ⟨h0, h3⟩
  refine ⟨by omega, fun h24 => c_rem h (fun M1 f1 p1 e1 => ⟨by omega, ?_⟩), fun h24 => T2 cond (by omega) M (FC.rf x M) h⟩
  have w1 : WR (vw M1 (x + 1)) := e1.sy.wr hw
  have n1 := e1.1
  have z1 := eqv_sz e1 h0 h1
  have z2 := eqv_sz e1 h2 h3
  refine s3_move rfl w1 h2 (by omega) h0 (by omega) (by omega) ⟨Int.le_refl _, by omega⟩ (by omega) (fun M2 f2 E2 => ⟨by omega, ?_⟩)
  obtain ⟨q1, q2⟩ := oM_cg (a := l + 1) (at' := 0) (b := l) w1 e1 h2 (by omega) h0 (by omega) ⟨Int.le_refl _, by omega⟩ (by omega)
  have EP := E2.tr q1
  have W2 := EP.sy.wr (q1.wr q2)
  have n2 : vw M2 (x + 1) 0 = p 0 := EP.1
  refine s3_close rfl W2 h2 (by omega) (fun M3 f3 E3 _ => ⟨by omega, ?_⟩)
  obtain ⟨t1, t2⟩ := oX_cg (l := l + 1) W2 EP h2 (by omega)
  refine c_fin h (fun q hq => by rw [f3 q (by omega) (by omega) (by omega), f2 q (by omega) (by omega), f1 q (by omega)]) (p1.keep (fun q b1 b2 => by rw [f3 q (by omega) (by omega) (by omega), f2 q (by omega) (by omega)])) (E3.tr t1) (t1.wr t2) (fun j y1 y2 => ?_) (fun M4 f4 c4 => ?_)
  · have y3 : j < p 0 - 1 := y2
    rw [og_cl (by omega)]
    split <;> omega
  · rw [show M4 (x + 1) 0 = p 0 - 1 from c4.2.2.1.1]
    exact T3 cond h24 M4 f4 c4
theorem c_drop {Q : Int → Mm → Prop} (h : CP x M p n ps c) (hT : Tdro p n ps c l (fun v p' n' ps' c' => ∀ (v2 : Int) (M2 : Mm), (v2 < 0 ↔ v < 0) → FC x M M2 → CP x M2 p' n' ps' c' → Q v2 M2)) : PX6_dropLine x l M Q := by
  obtain ⟨h45, hw, he, hpa, hc, hL⟩ := id h
  obtain ⟨T1, T3⟩ := hT
  have hm := hw.1
  unfold PX6_dropLine
  refine s3_hasLine he (fun h0 h1 => ⟨fun z => by omega, fun _ => c_rem h (fun M1 f1 p1 e1 => ?_)⟩) (fun hn => ⟨fun _ => T1 hn _ M (by omega) (FC.rf x M) h, fun z => absurd rfl z⟩)
  have w1 : WR (vw M1 (x + 1)) := e1.sy.wr hw
  have n1 := e1.1
  refine s3_close rfl w1 h0 (by omega) (fun M3 f3 E3 _ => ?_)
  obtain ⟨t1, t2⟩ := oX_cg (l := l) w1 e1 h0 (by omega)
  refine c_fin h (fun q hq => by rw [f3 q (by omega) (by omega) (by omega), f1 q (by omega)]) (p1.keep (fun q b1 b2 => f3 q (by omega) (by omega) (by omega))) (E3.tr t1) (t1.wr t2) (fun j y1 y2 => ?_) (fun M4 f4 c4 => ?_)
  · have y3 : j < p 0 - 1 := y2
    rw [og_cl h0]
    split <;> omega
  · rw [show M4 (x + 1) 0 = p 0 - 1 from c4.2.2.1.1]
    exact T3 ⟨h0, h1⟩ _ M4 (by omega) f4 c4
/-- one sign more behind a line that is being filled -/
theorem oI_oW {t : Int} {f : Int → Int} (hw : WR p) (h0 : 0 ≤ l) (h1 : l ≤ p 0) (hz : p 0 < 12) (ht : 0 ≤ t ∧ t < 24) : Eqv (oI (oW p l t f) l t (f t)) (oW p l (t + 1) f) := by
  have hm := hw.1
  have es : ∀ j, 0 ≤ j → j < 12 → oW p l t f (3 + j) = if j < l then p (3 + j) else if j = l then t else p (3 + (j - 1)) := fun j a b => mk_sz a b
  have el : ∀ j i, 0 ≤ j → j < 12 → 0 ≤ i → i < 24 → ln (oW p l t f) j i = if j < l then ln p j i else if j = l then f i else ln p (j - 1) i := fun j i a b c d => mk_ln a b c d
  have esl : oW p l t f (3 + l) = t := by rw [es l h0 (by omega), if_neg (by omega), if_pos rfl]
  refine eqv_mk (by omega) rfl rfl rfl (fun k a b => ?_) (fun j a b => ?_)
  · show mk _ _ _ _ _ _ (303 + k) = _
    rw [mk_al a]
    exact mk_al a
  · have e1 : oI (oW p l t f) l t (f t) (3 + j) = if j = l then oW p l t f (3 + l) + 1 else oW p l t f (3 + j) := mk_sz a (by omega)
    have e2 : ∀ i, 0 ≤ i → i < 24 → ln (oI (oW p l t f) l t (f t)) j i = if j = l then (if i < t then ln (oW p l t f) l i else if i = t then f t else ln (oW p l t f) l (i - 1)) else ln (oW p l t f) j i := fun i c d => mk_ln a (by omega) c d
    rw [e1]
    by_cases hj : j = l
    · subst hj
      rw [if_pos rfl, esl, if_neg (by omega), if_pos rfl]
      refine ⟨rfl, by omega, fun i c d => ?_⟩
      rw [e2 i c (by omega), if_pos rfl, if_neg (show ¬ j < j by omega), if_pos rfl]
      by_cases hi : i < t
      · rw [if_pos hi, el j i a (by omega) c (by omega), if_neg (show ¬ j < j by omega), if_pos rfl]
      · rw [if_neg hi, if_pos (by omega), show i = t by omega]
    · rw [if_neg hj, es j a (by omega), if_neg hj, if_neg hj]
      refine ⟨rfl, ?_, fun i c d => ?_⟩
      · split
        · have := hw.2.1 j a (by omega); omega
        · have := hw.2.1 (j - 1) (by omega) (by omega); omega
      · have hi24 : i < 24 := by
          by_cases hjl : j < l
          · rw [if_pos hjl] at d
            have := hw.2.1 j a (by omega); omega
          · rw [if_neg hjl] at d
            have := hw.2.1 (j - 1) (by omega) (by omega); omega
        rw [e2 i c hi24, if_neg hj, el j i a (by omega) c hi24, if_neg hj]
theorem c_add {Q : Int → Mm → Prop} {w : Int} (hr : 0 ≤ M (x + 47) 5 ∧ M (x + 47) 5 < M (x + 47) 6 ∧ M (x + 47) 6 - M (x + 47) 5 ≤ 24 ∧ M (x + 47) 6 ≤ 150) (hwd : w = if M (x + 47) 6 - M (x + 47) 5 = 1 ∧ M (x + 47 + 1) (M (x + 47) 5) = 45 then 0 else M (x + 47) 6 - M (x + 47) 5) (h : CP x M p n ps c) (hT : Tadd p n ps c l w (fun i => M (x + 47 + 1) (M (x + 47) 5 + i)) (fun v p' n' ps' c' => ∀ (v2 : Int) (M2 : Mm), (v2 < 0 ↔ v < 0) → FC x M M2 → CP x M2 p' n' ps' c' → Q v2 M2)) : PX6_addLine x l M Q := by
  obtain ⟨h45, hw, he, hpa, hc, hL⟩ := id h
  obtain ⟨T1, T3⟩ := hT
  have hm := hw.1
  unfold PX6_addLine
  rw [show M (x + 1) 0 = p 0 from he.1]
  refine ⟨fun h0 => T1 (by omega) _ M (by omega) (FC.rf x M) h, fun h0 => ⟨fun h1 => ⟨fun h12 => c_rem h (fun M1 f1 p1 e1 => ?_), fun h12 => T1 (by omega) _ M (by omega) (FC.rf x M) h⟩, fun h1 => T1 (by omega) _ M (by omega) (FC.rf x M) h⟩⟩
  have cond : 0 ≤ l ∧ l ≤ p 0 ∧ p 0 < 12 := ⟨by omega, h1, h12⟩
  have w1 : WR (vw M1 (x + 1)) := e1.sy.wr hw
  have n1 := e1.1
  refine s3_open rfl w1 (by omega) (by omega) (by omega) (fun i => M (x + 47 + 1) (M (x + 47) 5 + i)) (fun M2 f2 E2 _ => ?_)
  obtain ⟨k1, k2⟩ := oW_cg (l := l) (n := 0) (f := fun i => M (x + 47 + 1) (M (x + 47) 5 + i)) (g := fun i => M (x + 47 + 1) (M (x + 47) 5 + i)) w1 e1 (by omega) (by omega) (by omega) (by omega) (fun _ _ _ => rfl)
  have EP := E2.tr k1
  have f12 : ∀ a, (a < x + 1 ∨ x + 46 < a) → M2 a = M a := fun a ha => by rw [f2 a (by omega) (by omega) (by omega), f1 a (by omega)]
  have p2 : PaC M2 (x + 5) (nx n) (cons' p ps) := p1.keep (fun q b1 b2 => f2 q (by omega) (by omega) (by omega))
  have wr : ∀ t, 0 ≤ t → t ≤ 24 → WR (oW p l t (fun i => M (x + 47 + 1) (M (x + 47) 5 + i))) := fun t t0 t1 => (oW_cg (g := fun i => M (x + 47 + 1) (M (x + 47) 5 + i)) hw (Eqv.rf p) (by omega) h1 h12 ⟨t0, t1⟩ (fun _ _ _ => rfl)).2
  have fin : ∀ M3 : Mm, (∀ a, (a < x + 1 ∨ x + 46 < a) → M3 a = M a) → PaC M3 (x + 5) (nx n) (cons' p ps) → Eqv (vw M3 (x + 1)) (oW p l w (fun i => M (x + 47 + 1) (M (x + 47) 5 + i))) → (0 ≤ w ∧ w ≤ 24) → JX6_addLine_112 Q x l M3 := by
    intro M3 f3 p3 E3 hwz
    unfold JX6_addLine_112
    refine c_fin h f3 p3 E3 (wr w hwz.1 hwz.2) (fun j y1 y2 => ?_) (fun M4 f4 c4 => ?_)
    · have y3 : j < p 0 + 1 := y2
      rw [og_op (by omega)]
      split
      · omega
      · split <;> omega
    · rw [show M4 (x + 1) 0 = p 0 + 1 from c4.2.2.1.1]
      exact T3 cond _ M4 (by omega) f4 c4
  unfold PX5_isLoneDash JX5_isLoneDash_31
  rw [f12 (x + 47) (by omega), f12 (x + 47 + 1) (by omega)]
  have fill : w = M (x + 47) 6 - M (x + 47) 5 → ∃ t, lp_I (BX6_addLine_69 (fun M_22 => JX6_addLine_112 Q x l M_22) Q x l) t (M2 (x + 47) 5) M2 := by
    intro hwe
    rw [f12 (x + 47) (by omega)]
    refine lr_I (fun v M3 => M (x + 47) 5 ≤ v ∧ v ≤ M (x + 47) 6 ∧ (∀ a, (a < x + 1 ∨ x + 46 < a) → M3 a = M a) ∧ PaC M3 (x + 5) (nx n) (cons' p ps) ∧ Eqv (vw M3 (x + 1)) (oW p l (v - M (x + 47) 5) (fun i => M (x + 47 + 1) (M (x + 47) 5 + i)))) (fun v _ => (M (x + 47) 6 - v).toNat) ?_ ⟨Int.le_refl _, by omega, f12, p2, by rw [show M (x + 47) 5 - M (x + 47) 5 = 0 by omega]; exact EP⟩
    rintro rec v M3 ⟨a0, a1, f3, p3, E3⟩ hrec
    unfold BX6_addLine_69
    rw [f3 (x + 47) (by omega), f3 (x + 47 + 1) (by omega)]
    refine ⟨fun hx => fin M3 f3 p3 (by rw [show w = v - M (x + 47) 5 by omega]; exact E3) (by omega), fun hx => ⟨by omega, by omega, ?_⟩⟩
    have W3 := E3.sy.wr (wr (v - M (x + 47) 5) (by omega) (by omega))
    have n3 : vw M3 (x + 1) 0 = p 0 + 1 := E3.1
    have z3 : vw M3 (x + 1) (3 + l) = v - M (x + 47) 5 := by
      rw [eqv_sz E3 (by omega) (show l < p 0 + 1 by omega)]
      show mk _ _ _ _ _ _ (3 + l) = _
      rw [mk_sz (by omega) (by omega), if_neg (by omega), if_pos rfl]
    refine s3_insert rfl W3 (by omega) (by omega) ⟨by omega, by omega⟩ (by omega) (fun M4 f4 E4 _ => ⟨by omega, hrec _ _ ⟨by omega, by omega, fun q hq => by rw [f4 q (by omega) (by omega), f3 q hq], p3.keep (fun q b1 b2 => f4 q (by omega) (by omega)), ?_⟩ (by omega)⟩)
    obtain ⟨t1, t2⟩ := oI_cg (l := l) (at' := v - M (x + 47) 5) (s := M (x + 47 + 1) v) W3 E3 (by omega) (by omega) ⟨by omega, by omega⟩ (by omega)
    have t3 := oI_oW (l := l) (t := v - M (x + 47) 5) (f := fun i => M (x + 47 + 1) (M (x + 47) 5 + i)) hw (by omega) h1 h12 (by omega)
    rw [show M (x + 47) 5 + (v - M (x + 47) 5) = v by omega, show v - M (x + 47) 5 + 1 = v + 1 - M (x + 47) 5 by omega] at t3
    exact (E4.tr t1).tr t3
  refine ⟨by omega, fun hd => ⟨by omega, fun hd2 => ⟨fun z => by omega, fun _ => ?_⟩, fun hd2 => ⟨fun _ => fill (by rw [hwd, if_neg (fun z => hd2 z.2)]), fun z => absurd rfl z⟩⟩, fun hd => ⟨fun _ => fill (by rw [hwd, if_neg (fun z => hd z.1)]), fun z => absurd rfl z⟩⟩
  have hw0 : w = 0 := by rw [hwd, if_pos ⟨hd, hd2⟩]
  exact fin M2 f12 p2 (by rw [hw0]; exact EP) (by omega)
/-- a page's number that is set: pad, least, an align -/
theorem c_set {M1 : Mm} {Q : Mm → Prop} {r : Int → Int} {a j v : Int} (h : CP x M p n ps c) (f1 : ∀ a, (a < x + 5 ∨ x + 46 < a) → M1 a = M a) (p1 : PaC M1 (x + 5) (nx n) (cons' p ps)) (ha : x + 1 ≤ a ∧ a ≤ x + 4) (E : Eqv (vw (um M1 a j v) (x + 1)) r) (hw : WR r) (hr0 : r 0 = p 0) (hq : ∀ M2 : Mm, FC x M M2 → CP x M2 r (nx n) (cons' p ps) (msk r p (og (-9) (-9)) (r 0)) → Q M2) : PX6_settle x (-9) (-9) (um M1 a j v) Q :=
  c_fin h (fun q hq => by rw [um_ne _ _ _ (by omega), f1 q (by omega)]) (p1.keep (fun q b1 b2 => um_ne _ _ _ (by omega))) E hw (fun i y1 y2 => by rw [og_nn]; omega) hq
theorem c_align {Q : Int → Mm → Prop} {k v : Int} (hv : 0 ≤ v ∧ v < 4) (h : CP x M p n ps c) (hT : Tali p n ps c k v (fun v p' n' ps' c' => ∀ (v2 : Int) (M2 : Mm), (v2 < 0 ↔ v < 0) → FC x M M2 → CP x M2 p' n' ps' c' → Q v2 M2)) : PX6_setAlign x k v M Q := by
  obtain ⟨h45, hw, he, hpa, hc, hL⟩ := id h
  obtain ⟨T1, T3⟩ := hT
  unfold PX6_setAlign
  refine ⟨fun h0 => T1 (by omega) _ M (by omega) (FC.rf x M) h, fun h0 => ⟨fun h1 => T1 (by omega) _ M (by omega) (FC.rf x M) h, fun h1 => ⟨fun z => by omega, fun _ => ⟨fun _ => c_rem h (fun M1 f1 p1 e1 => ⟨by omega, ?_⟩), fun z => by omega⟩⟩⟩⟩
  rintro M4 rfl
  obtain ⟨k1, k2⟩ := oA_cg (k := k) (v := v) hw (Eqv.rf p)
  refine c_set h f1 p1 (by omega) ?_ k2 rfl (fun M2 f2 c2 => T3 (by omega) _ M2 (by omega) f2 c2)
  have hm := hw.1
  obtain ⟨a0, a1, a2, a3, a4⟩ := e1
  have v1 : ∀ i, i ≠ 303 + k → 0 ≤ i → vw (um M1 (x + 1 + 3) k v) (x + 1) i = vw M1 (x + 1) i := fun i b0 b1 => by
    unfold vw
    rw [um_r _ (by omega), um_r _ (by omega), um_r _ (by omega)]
    by_cases b2 : i < 303
    · rw [if_pos b2, if_pos b2]
    · rw [if_neg b2, if_neg b2, um_r _ (by omega)]
  refine eqv_mk (by omega) (by rw [v1 _ (by omega) (by omega)]; exact a0) (by rw [v1 _ (by omega) (by omega)]; exact a1) (by rw [v1 _ (by omega) (by omega)]; exact a2) (fun q b0 b1 => ?_) (fun j b0 b1 => ?_)
  · by_cases hq : q = k
    · rw [hq, vw_al _ _ (by omega), um_w, if_pos rfl]
    · rw [v1 _ (by omega) (by omega), if_neg hq]; exact a3 q b0 b1
  · obtain ⟨g1, g2⟩ := a4 j b0 (by omega)
    have hj := hw.2.1 j b0 b1
    rw [v1 _ (by omega) (by omega)]
    refine ⟨g1, by omega, fun i c0 c1 => ?_⟩
    rw [← g2 i c0 (by omega)]
    exact v1 _ (by omega) (by omega)
theorem c_pad {Q : Int → Mm → Prop} {v : Int} (h : CP x M p n ps c) (hT : Tpad p n ps c v (fun v p' n' ps' c' => ∀ (v2 : Int) (M2 : Mm), (v2 < 0 ↔ v < 0) → FC x M M2 → CP x M2 p' n' ps' c' → Q v2 M2)) : PX6_setPad x v M Q := by
  obtain ⟨h45, hw, he, hpa, hc, hL⟩ := id h
  obtain ⟨T1, T3⟩ := hT
  unfold PX6_setPad
  refine ⟨fun h0 => T1 (by omega) _ M (by omega) (FC.rf x M) h, fun h0 => ⟨fun h1 => c_rem h (fun M1 f1 p1 e1 => ?_), fun h1 => T1 (by omega) _ M (by omega) (FC.rf x M) h⟩⟩
  rintro M4 rfl
  obtain ⟨k1, k2⟩ := oP_cg (v := v) hw (Eqv.rf p) (by omega)
  refine c_set h f1 p1 (by omega) ?_ k2 rfl (fun M2 f2 c2 => T3 (by omega) _ M2 (by omega) f2 c2)
  have hm := hw.1
  obtain ⟨a0, a1, a2, a3, a4⟩ := e1
  have v1 : ∀ i, i ≠ 1 → vw (um M1 (x + 1) 1 v) (x + 1) i = vw M1 (x + 1) i := fun i b0 => by
    unfold vw
    rw [um_r _ (by omega), um_r _ (by omega), um_r _ (by omega), um_r _ (by omega)]
  refine eqv_mk (by omega) (by rw [v1 _ (by omega)]; exact a0) (um_w _ _ _ _) (by rw [v1 _ (by omega)]; exact a2) (fun q b0 b1 => by rw [v1 _ (by omega)]; exact a3 q b0 b1) (fun j b0 b1 => ?_)
  obtain ⟨g1, g2⟩ := a4 j b0 (by omega)
  have hj := hw.2.1 j b0 b1
  rw [v1 _ (by omega)]
  refine ⟨g1, by omega, fun i c0 c1 => ?_⟩
  rw [← g2 i c0 (by omega)]
  exact v1 _ (by omega)
theorem c_least {Q : Int → Mm → Prop} {v : Int} (h : CP x M p n ps c) (hT : Tlea p n ps c v (fun v p' n' ps' c' => ∀ (v2 : Int) (M2 : Mm), (v2 < 0 ↔ v < 0) → FC x M M2 → CP x M2 p' n' ps' c' → Q v2 M2)) : PX6_setLeast x v M Q := by
  obtain ⟨h45, hw, he, hpa, hc, hL⟩ := id h
  obtain ⟨T1, T3⟩ := hT
  unfold PX6_setLeast
  refine ⟨fun h0 => T1 (by omega) _ M (by omega) (FC.rf x M) h, fun h0 => ⟨fun h1 => c_rem h (fun M1 f1 p1 e1 => ?_), fun h1 => T1 (by omega) _ M (by omega) (FC.rf x M) h⟩⟩
  rintro M4 rfl
  obtain ⟨k1, k2⟩ := oL_cg (v := v) hw (Eqv.rf p) (by omega)
  refine c_set h f1 p1 (by omega) ?_ k2 rfl (fun M2 f2 c2 => T3 (by omega) _ M2 (by omega) f2 c2)
  have hm := hw.1
  obtain ⟨a0, a1, a2, a3, a4⟩ := e1
  have v1 : ∀ i, i ≠ 2 → vw (um M1 (x + 1) 2 v) (x + 1) i = vw M1 (x + 1) i := fun i b0 => by
    unfold vw
    rw [um_r _ (by omega), um_r _ (by omega), um_r _ (by omega), um_r _ (by omega)]
  refine eqv_mk (by omega) (by rw [v1 _ (by omega)]; exact a0) (by rw [v1 _ (by omega)]; exact a1) (um_w _ _ _ _) (fun q b0 b1 => by rw [v1 _ (by omega)]; exact a3 q b0 b1) (fun j b0 b1 => ?_)
  obtain ⟨g1, g2⟩ := a4 j b0 (by omega)
  have hj := hw.2.1 j b0 b1
  rw [v1 _ (by omega)]
  refine ⟨g1, by omega, fun i c0 c1 => ?_⟩
  rw [← g2 i c0 (by omega)]
  exact v1 _ (by omega)
end CED
