section ROPS
variable {M : Mm} {m l : Int} {Q : Mm → Prop}
theorem s7_opens (f : Int → Int) {R : Int → Int} (hR : M (m + 1) = R) (hw : WR R) (h0 : 0 ≤ l) (h1 : l ≤ R 0) (hz : R 0 < 12) (hq : ∀ M2 : Mm, (∀ a, a ≠ m + 1 → a ≠ m + 3 → M2 a = M a) → Eqv (M2 (m + 1)) (oW R l 0 f) → (∀ j, 0 ≤ j → j ≤ R 0 → M2 (m + 3) j = if j < l then M (m + 3) j else if j = l then -9 else M (m + 3) (j - 1)) → Q M2) : PX7_opens m l M Q := by
  have hm := hw.1
  unfold PX7_opens
  rw [hR]
  refine lr_I (fun k M2 => l ≤ k ∧ k ≤ R 0 ∧ (∀ a, a ≠ m + 1 → a ≠ m + 3 → M2 a = M a) ∧ (∀ j, (j < 3 ∨ 303 ≤ j) → M2 (m + 1) j = R j) ∧ (∀ j, 0 ≤ j → j ≤ R 0 → M2 (m + 1) (3 + j) = if k < j then R (3 + (j - 1)) else R (3 + j)) ∧ (∀ j i, 0 ≤ j → j ≤ R 0 → 0 ≤ i → i < 24 → M2 (m + 1) ((15 + (24 * j)) + i) = if k < j then ln R (j - 1) i else ln R j i) ∧ (∀ j, 0 ≤ j → j ≤ R 0 → M2 (m + 3) j = if k < j then M (m + 3) (j - 1) else M (m + 3) j)) (fun k _ => (k - l).toNat) ?_ ⟨h1, Int.le_refl _, fun _ _ _ => rfl, fun j _ => by rw [hR], fun j a b => by rw [if_neg (by omega), hR], fun j i a b c d => by rw [if_neg (by omega), hR]; rfl, fun j a b => by rw [if_neg (by omega)]⟩
  rintro rec k M1 ⟨a0, a1, f1, c1, c2, c3, c4⟩ hrec
  unfold BX7_opens_7
  refine ⟨fun hx => ?_, fun hx => ⟨by omega, by omega, ?_⟩⟩
  · have ek : k = l := by omega
    subst ek
    refine ⟨by omega, ?_⟩
    rintro M21 rfl
    refine ⟨by omega, ?_⟩
    rintro M23 rfl
    have e0 : um (um M1 (m + 1) (3 + k) 0) (m + 3) k (-9) (m + 1) 0 = R 0 := by rw [um_r _ (by omega), um_r _ (by omega)]; exact c1 0 (by omega)
    rw [e0]
    refine ⟨by omega, ?_⟩
    rintro M26 rfl
    refine hq _ (fun a b1 b2 => by rw [um_ne _ _ _ b1, um_ne _ _ _ b2, um_ne _ _ _ b1]; exact f1 a b1 b2) ?_ (fun j b1 b2 => ?_)
    · refine eqv_mk (by omega) (um_w _ _ _ _) ?_ ?_ (fun i a b => ?_) (fun j a b => ?_)
      · rw [um_r _ (by omega), um_r _ (by omega), um_r _ (by omega)]; exact c1 1 (by omega)
      · rw [um_r _ (by omega), um_r _ (by omega), um_r _ (by omega)]; exact c1 2 (by omega)
      · rw [um_r _ (by omega), um_r _ (by omega), um_r _ (by omega)]; exact c1 _ (by omega)
      · rw [um_r _ (by omega), um_r _ (by omega)]
        by_cases hj : j = k
        · subst hj
          rw [um_w, if_neg (by omega), if_pos rfl]
          exact ⟨rfl, by omega, fun i c d => by omega⟩
        · rw [um_r _ (by omega), c2 j a (by omega)]
          by_cases hjl : j < k
          · have hs := hw.2.1 j a (by omega)
            rw [if_neg (by omega), if_pos hjl]
            refine ⟨rfl, by omega, fun i c d => ?_⟩
            show um (um (um M1 (m + 1) (3 + k) 0) (m + 3) k (-9)) (m + 1) 0 (R 0 + 1) (m + 1) ((15 + 24 * j) + i) = _
            rw [um_r _ (by omega), um_r _ (by omega), um_r _ (by omega), c3 j i a (by omega) c (by omega), if_neg (by omega), if_pos hjl]
          · have hs := hw.2.1 (j - 1) (by omega) (by omega)
            rw [if_pos (by omega), if_neg hjl, if_neg hj]
            refine ⟨rfl, by omega, fun i c d => ?_⟩
            show um (um (um M1 (m + 1) (3 + k) 0) (m + 3) k (-9)) (m + 1) 0 (R 0 + 1) (m + 1) ((15 + 24 * j) + i) = _
            rw [um_r _ (by omega), um_r _ (by omega), um_r _ (by omega), c3 j i a (by omega) c (by omega), if_pos (by omega), if_neg hjl, if_neg hj]
    · rw [um_r _ (by omega)]
      by_cases hj : j = k
      · subst hj
        rw [um_w, if_neg (by omega), if_pos rfl]
      · rw [um_r _ (by omega), um_r _ (by omega), c4 j b1 b2]
        by_cases hjl : j < k
        · rw [if_neg (by omega), if_pos hjl]
        · rw [if_pos (by omega), if_neg hjl, if_neg hj]
  · rintro M5 rfl
    refine ⟨by omega, by omega, ?_⟩
    rintro M9 rfl
    refine lr_I (fun v M2 => 0 ≤ v ∧ v ≤ 24 ∧ (∀ a, a ≠ m + 1 → M2 a = um (um M1 (m + 1) (3 + k) (M1 (m + 1) (3 + k - 1))) (m + 3) k (um M1 (m + 1) (3 + k) (M1 (m + 1) (3 + k - 1)) (m + 3) (k - 1)) a) ∧ (∀ j, (j < 15 + 24 * k ∨ 15 + 24 * k + 24 ≤ j) → M2 (m + 1) j = um M1 (m + 1) (3 + k) (M1 (m + 1) (3 + k - 1)) (m + 1) j) ∧ (∀ i, 0 ≤ i → i < v → M2 (m + 1) ((15 + (24 * k)) + i) = ln R (k - 1) i)) (fun v _ => (24 - v).toNat) ?_ ⟨by omega, by omega, fun _ _ => rfl, fun j _ => by rw [um_r _ (by omega)], fun i a b => by omega⟩
    rintro rec2 v M2 ⟨b0, b1, f2, f2b, e2⟩ hrec2
    unfold BX7_opens_46
    refine ⟨fun hx2 => ⟨by omega, hrec _ _ ⟨by omega, by omega, fun a d1 d2 => ?_, fun j hj => ?_, fun j d1 d2 => ?_, fun j i d1 d2 d3 d4 => ?_, fun j d1 d2 => ?_⟩ (by omega)⟩, fun hx2 => ⟨by omega, by omega, ?_⟩⟩
    · rw [f2 a d1, um_ne _ _ _ d2, um_ne _ _ _ d1]; exact f1 a d1 d2
    · rw [f2b j (by omega), um_r _ (by omega)]; exact c1 j hj
    · rw [f2b _ (by omega)]
      by_cases hj : j = k
      · subst hj
        rw [um_w, if_pos (by omega), show 3 + j - 1 = 3 + (j - 1) by omega, c2 (j - 1) (by omega) (by omega), if_neg (by omega)]
      · rw [um_r _ (by omega), c2 j d1 d2]
        by_cases hjk : k < j
        · rw [if_pos hjk, if_pos (by omega)]
        · rw [if_neg hjk, if_neg (by omega)]
    · by_cases hj : j = k
      · subst hj
        rw [e2 i d3 (by omega), if_pos (by omega)]
      · rw [f2b _ (by omega), um_r _ (by omega), c3 j i d1 d2 d3 d4]
        by_cases hjk : k < j
        · rw [if_pos hjk, if_pos (by omega)]
        · rw [if_neg hjk, if_neg (by omega)]
    · rw [f2 _ (by omega)]
      by_cases hj : j = k
      · subst hj
        rw [um_w, if_pos (by omega), um_r _ (by omega), c4 (j - 1) (by omega) (by omega), if_neg (by omega)]
      · rw [um_r _ (by omega), um_r _ (by omega), c4 j d1 d2]
        by_cases hjk : k < j
        · rw [if_pos hjk, if_pos (by omega)]
        · rw [if_neg hjk, if_neg (by omega)]
    · rintro M13 rfl
      refine ⟨by omega, hrec2 _ _ ⟨by omega, by omega, fun a ha => by rw [um_ne _ _ _ ha]; exact f2 a ha, fun j hj => by rw [um_r _ (by omega)]; exact f2b j hj, fun i d1 d2 => ?_⟩ (by omega)⟩
      by_cases hi : i = v
      · subst hi
        rw [um_w, f2b _ (by omega), um_r _ (by omega), c3 (k - 1) i (by omega) (by omega) d1 (by omega), if_neg (by omega)]
      · rw [um_r _ (by omega)]; exact e2 i d1 (by omega)
theorem s7_shuts {R : Int → Int} (hR : M (m + 1) = R) (hw : WR R) (h0 : 0 ≤ l) (h1 : l < R 0) (hq : ∀ M2 : Mm, (∀ a, a ≠ m + 1 → a ≠ m + 3 → M2 a = M a) → Eqv (M2 (m + 1)) (oX R l) → (∀ j, 0 ≤ j → j < R 0 - 1 → M2 (m + 3) j = if j < l then M (m + 3) j else M (m + 3) (j + 1)) → Q M2) : PX7_shuts m l M Q := by
  have hm := hw.1
  unfold PX7_shuts
  rw [hR]
  refine ⟨by omega, ?_⟩
  rintro M3 rfl
  refine lr_I (fun k M2 => l ≤ k ∧ k ≤ R 0 - 1 ∧ (∀ a, a ≠ m + 1 → a ≠ m + 3 → M2 a = M a) ∧ M2 (m + 1) 0 = R 0 - 1 ∧ (∀ j, ((0 < j ∧ j < 3) ∨ 303 ≤ j) → M2 (m + 1) j = R j) ∧ (∀ j, 0 ≤ j → j < R 0 → M2 (m + 1) (3 + j) = if l ≤ j ∧ j < k then R (3 + (j + 1)) else R (3 + j)) ∧ (∀ j i, 0 ≤ j → j < R 0 → 0 ≤ i → i < 24 → M2 (m + 1) ((15 + (24 * j)) + i) = if l ≤ j ∧ j < k then ln R (j + 1) i else ln R j i) ∧ (∀ j, 0 ≤ j → j < R 0 → M2 (m + 3) j = if l ≤ j ∧ j < k then M (m + 3) (j + 1) else M (m + 3) j)) (fun k _ => (R 0 - 1 - k).toNat) ?_ ⟨Int.le_refl _, by omega, fun a b1 b2 => um_ne _ _ _ b1, um_w _ _ _ _, fun j _ => by rw [um_r _ (by omega), hR], fun j a b => by rw [if_neg (by omega), um_r _ (by omega), hR], fun j i a b c d => by rw [if_neg (by omega), um_r _ (by omega), hR]; rfl, fun j a b => by rw [if_neg (by omega), um_r _ (by omega)]⟩
  rintro rec k M1 ⟨a0, a1, f1, g0, c1, c2, c3, c4⟩ hrec
  unfold BX7_shuts_12
  rw [g0]
  refine ⟨fun hx => ?_, fun hx => ⟨by omega, by omega, ?_⟩⟩
  · have ek : k = R 0 - 1 := by omega
    refine hq _ f1 ?_ (fun j b1 b2 => ?_)
    · refine eqv_mk (by omega) g0 (c1 1 (by omega)) (c1 2 (by omega)) (fun i a b => c1 _ (by omega)) (fun j a b => ?_)
      rw [c2 j a (by omega)]
      by_cases hjl : j < l
      · have hs := hw.2.1 j a (by omega)
        rw [if_neg (by omega), if_pos hjl]
        refine ⟨rfl, by omega, fun i c d => ?_⟩
        show M1 (m + 1) ((15 + 24 * j) + i) = _
        rw [c3 j i a (by omega) c (by omega), if_neg (by omega), if_pos hjl]
      · have hs := hw.2.1 (j + 1) (by omega) (by omega)
        rw [if_pos (by omega), if_neg hjl]
        refine ⟨rfl, by omega, fun i c d => ?_⟩
        show M1 (m + 1) ((15 + 24 * j) + i) = _
        rw [c3 j i a (by omega) c (by omega), if_pos (by omega), if_neg hjl]
    · rw [c4 j b1 (by omega)]
      by_cases hjl : j < l
      · rw [if_neg (by omega), if_pos hjl]
      · rw [if_pos (by omega), if_neg hjl]
  · rintro M8 rfl
    refine ⟨by omega, by omega, ?_⟩
    rintro M12 rfl
    refine lr_I (fun v M2 => 0 ≤ v ∧ v ≤ 24 ∧ (∀ a, a ≠ m + 1 → M2 a = um (um M1 (m + 1) (3 + k) (M1 (m + 1) (3 + k + 1))) (m + 3) k (um M1 (m + 1) (3 + k) (M1 (m + 1) (3 + k + 1)) (m + 3) (k + 1)) a) ∧ (∀ j, (j < 15 + 24 * k ∨ 15 + 24 * k + 24 ≤ j) → M2 (m + 1) j = um M1 (m + 1) (3 + k) (M1 (m + 1) (3 + k + 1)) (m + 1) j) ∧ (∀ i, 0 ≤ i → i < v → M2 (m + 1) ((15 + (24 * k)) + i) = ln R (k + 1) i)) (fun v _ => (24 - v).toNat) ?_ ⟨by omega, by omega, fun _ _ => rfl, fun j _ => by rw [um_r _ (by omega)], fun i a b => by omega⟩
    rintro rec2 v M2 ⟨b0, b1, f2, f2b, e2⟩ hrec2
    unfold BX7_shuts_56
    refine ⟨fun hx2 => ⟨by omega, hrec _ _ ⟨by omega, by omega, fun a d1 d2 => ?_, ?_, fun j hj => ?_, fun j d1 d2 => ?_, fun j i d1 d2 d3 d4 => ?_, fun j d1 d2 => ?_⟩ (by omega)⟩, fun hx2 => ⟨by omega, by omega, ?_⟩⟩
    · rw [f2 a d1, um_ne _ _ _ d2, um_ne _ _ _ d1]; exact f1 a d1 d2
    · rw [f2b 0 (by omega), um_r _ (by omega)]; exact g0
    · rw [f2b j (by omega), um_r _ (by omega)]; exact c1 j hj
    · rw [f2b _ (by omega)]
      by_cases hj : j = k
      · subst hj
        rw [um_w, if_pos (by omega), show 3 + j + 1 = 3 + (j + 1) by omega, c2 (j + 1) (by omega) (by omega), if_neg (by omega)]
      · rw [um_r _ (by omega), c2 j d1 d2]
        by_cases hjk : l ≤ j ∧ j < k
        · rw [if_pos hjk, if_pos (by omega)]
        · rw [if_neg hjk, if_neg (by omega)]
    · by_cases hj : j = k
      · subst hj
        rw [e2 i d3 (by omega), if_pos (by omega)]
      · rw [f2b _ (by omega), um_r _ (by omega), c3 j i d1 d2 d3 d4]
        by_cases hjk : l ≤ j ∧ j < k
        · rw [if_pos hjk, if_pos (by omega)]
        · rw [if_neg hjk, if_neg (by omega)]
    · rw [f2 _ (by omega)]
      by_cases hj : j = k
      · subst hj
        rw [um_w, if_pos (by omega), um_r _ (by omega), c4 (j + 1) (by omega) (by omega), if_neg (by omega)]
      · rw [um_r _ (by omega), um_r _ (by omega), c4 j d1 d2]
        by_cases hjk : l ≤ j ∧ j < k
        · rw [if_pos hjk, if_pos (by omega)]
        · rw [if_neg hjk, if_neg (by omega)]
    · rintro M16 rfl
      refine ⟨by omega, hrec2 _ _ ⟨by omega, by omega, fun a ha => by rw [um_ne _ _ _ ha]; exact f2 a ha, fun j hj => by rw [um_r _ (by omega)]; exact f2b j hj, fun i d1 d2 => ?_⟩ (by omega)⟩
      by_cases hi : i = v
      · subst hi
        rw [um_w, f2b _ (by omega), um_r _ (by omega), c3 (k + 1) i (by omega) (by omega) d1 (by omega), if_neg (by omega)]
      · rw [um_r _ (by omega)]; exact e2 i d1 (by omega)
/-- t signs g put behind the z signs of line b -/
def AP (R S : Int → Int) (b z t : Int) (g : Int → Int) : Prop := S (3 + b) = z + t ∧ (∀ i, 0 ≤ i → i < t → S ((15 + (24 * b)) + (z + i)) = g i) ∧ ∀ j, j ≠ 3 + b → (j < (15 + (24 * b)) + z ∨ (15 + (24 * b)) + z + t ≤ j) → S j = R j
theorem AP_0 {R : Int → Int} {b z : Int} {g : Int → Int} (h : R (3 + b) = z) : AP R R b z 0 g := ⟨by omega, fun i a b => by omega, fun _ _ _ => rfl⟩
theorem s7_appends {b z t : Int} {g R : Int → Int} (h : AP R (M (m + 1)) b z t g) (hb : 0 ≤ b ∧ b < 12) (hz : 0 ≤ z ∧ 0 ≤ t ∧ z + t < 24) (hq : ∀ M2 : Mm, (∀ a, a ≠ m + 1 → M2 a = M a) → AP R (M2 (m + 1)) b z (t + 1) g → Q M2) : PX7_appends m b (g t) M Q := by
  obtain ⟨h1, h2, h3⟩ := h
  unfold PX7_appends
  rw [h1]
  refine ⟨by omega, by omega, ?_⟩
  rintro M4 rfl
  rw [show um M (m + 1) (15 + 24 * b + (z + t)) (g t) (m + 1) (3 + b) = z + t by rw [um_r _ (by omega)]; exact h1]
  refine ⟨by omega, by omega, by omega, ?_⟩
  rintro M9 rfl
  refine hq _ (fun a ha => by rw [um_ne _ _ _ ha, um_ne _ _ _ ha]) ⟨by rw [um_w]; omega, fun i c d => ?_, fun j c d => ?_⟩
  · rw [um_r _ (by omega)]
    by_cases hi : i = t
    · rw [hi, um_w]
    · rw [um_r _ (by omega)]; exact h2 i c (by omega)
  · rw [um_r _ (by omega), um_r _ (by omega)]
    exact h3 j c (by omega)
end ROPS
theorem oM_cg {r q : Int → Int} {a at' b : Int} (hw : WR r) (he : Eqv r q) (ha0 : 0 ≤ a) (ha1 : a < r 0) (hb0 : 0 ≤ b) (hb1 : b < r 0) (hat : 0 ≤ at' ∧ at' ≤ r (3 + a)) (hz : r (3 + b) + (r (3 + a) - at') ≤ 24) : Eqv (oM r a at' b) (oM q a at' b) ∧ WR (oM r a at' b) := by
  obtain ⟨e0, e1, e2, e3, e4⟩ := he
  obtain ⟨w0, w3, w1, w2⟩ := hw
  have sa := w3 a ha0 ha1
  have sb := w3 b hb0 hb1
  obtain ⟨ga, gb⟩ := e4 a ha0 ha1
  obtain ⟨fa, fb⟩ := e4 b hb0 hb1
  unfold oM
  refine ⟨eqv_mk (by omega) e0 e1 e2 (fun k c d => by rw [mk_al c]; exact e3 k c d) (fun j c d => ?_), wr_mk w0 w1 w2 (fun j c d => ?_)⟩
  · obtain ⟨g1, g2⟩ := e4 j c (by omega)
    have := w3 j c (by omega)
    rw [mk_sz c (by omega)]
    by_cases hj : j = b
    · rw [if_pos hj, if_pos hj]
      refine ⟨by omega, by omega, fun i x y => ?_⟩
      rw [mk_ln c (by omega) x (by omega), if_pos hj, if_pos hj, ← fa]
      by_cases hi : i < r (3 + b)
      · rw [if_pos hi, if_pos hi]; exact fb i x hi
      · rw [if_neg hi, if_neg hi]; exact gb _ (by omega) (by omega)
    · rw [if_neg hj, if_neg hj]
      by_cases hja : j = a
      · rw [if_pos hja, if_pos hja]
        refine ⟨rfl, by omega, fun i x y => ?_⟩
        rw [mk_ln c (by omega) x (by omega), if_neg hj, if_neg hj]
        exact g2 i x (by rw [hja]; omega)
      · rw [if_neg hja, if_neg hja]
        refine ⟨g1, by omega, fun i x y => ?_⟩
        rw [mk_ln c (by omega) x (by omega), if_neg hj, if_neg hj]
        exact g2 i x (by omega)
  · have := w3 j c d
    by_cases hj : j = b
    · rw [if_pos hj]; omega
    · rw [if_neg hj]
      by_cases hja : j = a
      · rw [if_pos hja]; omega
      · rw [if_neg hja]; exact this
/-- all lines but the dropped one the same -/
theorem oX_cg2 {r q : Int → Int} {l : Int} (hw : WR r) (e0 : r 0 = q 0) (e1 : r 1 = q 1) (e2 : r 2 = q 2) (e3 : ∀ k, 0 ≤ k → k < 24 → r (303 + k) = q (303 + k)) (e4 : ∀ j, 0 ≤ j → j < r 0 → j ≠ l → r (3 + j) = q (3 + j) ∧ ∀ i, 0 ≤ i → i < r (3 + j) → ln r j i = ln q j i) (h0 : 0 ≤ l) (h1 : l < r 0) : Eqv (oX r l) (oX q l) := by
  obtain ⟨w0, w3, w1, w2⟩ := hw
  unfold oX
  refine eqv_mk (by omega) (by rw [mk_0, e0]) e1 e2 (fun k a b => by rw [mk_al a]; exact e3 k a b) (fun j a b => ?_)
  rw [mk_sz a (by omega)]
  by_cases hj : j < l
  · obtain ⟨g1, g2⟩ := e4 j a (by omega) (by omega)
    have := w3 j a (by omega)
    rw [if_pos hj, if_pos hj]
    refine ⟨g1, by omega, fun i c d => ?_⟩
    rw [mk_ln a (by omega) c (by omega), if_pos hj, if_pos hj]
    exact g2 i c (by omega)
  · obtain ⟨g1, g2⟩ := e4 (j + 1) (by omega) (by omega) (by omega)
    have := w3 (j + 1) (by omega) (by omega)
    rw [if_neg hj, if_neg hj]
    refine ⟨g1, by omega, fun i c d => ?_⟩
    rw [mk_ln a (by omega) c (by omega), if_neg hj, if_neg hj]
    exact g2 i c (by omega)
