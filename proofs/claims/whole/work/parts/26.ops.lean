theorem cp_r (M : Mm) {a sp d dp n b k : Int} (h : b ≠ d ∨ k < dp ∨ dp + n ≤ k) : cp M a sp d dp n b k = M b k := by
  unfold cp
  by_cases hb : b = d
  · rw [if_pos hb]
    unfold cr
    rw [if_neg (by omega), hb]
  · rw [if_neg hb]
theorem cp_w (M : Mm) {a sp d dp n k : Int} (h1 : dp ≤ k) (h2 : k < dp + n) : cp M a sp d dp n d k = M a (sp + (k - dp)) := by
  rw [cp_at]
  unfold cr
  rw [if_pos ⟨h1, h2⟩]
/-- a row out of its parts -/
def mk (n pd ls : Int) (sz : Int → Int) (sg : Int → Int → Int) (al : Int → Int) : Int → Int := fun i => if i < 1 then n else if i < 2 then pd else if i < 3 then ls else if i < 15 then sz (i - 3) else if i < 303 then sg ((i - 15) / 24) ((i - 15) % 24) else al (i - 303)
section MK
variable {n pd ls : Int} {sz : Int → Int} {sg : Int → Int → Int} {al : Int → Int}
theorem mk_0 : mk n pd ls sz sg al 0 = n := rfl
theorem mk_1 : mk n pd ls sz sg al 1 = pd := rfl
theorem mk_2 : mk n pd ls sz sg al 2 = ls := rfl
theorem mk_sz {l : Int} (h0 : 0 ≤ l) (h1 : l < 12) : mk n pd ls sz sg al (3 + l) = sz l := by
  unfold mk
  rw [if_neg (by omega), if_neg (by omega), if_neg (by omega), if_pos (by omega), show 3 + l - 3 = l by omega]
theorem mk_ln {l i : Int} (h0 : 0 ≤ l) (h1 : l < 12) (h2 : 0 ≤ i) (h3 : i < 24) : ln (mk n pd ls sz sg al) l i = sg l i := by
  unfold ln mk
  rw [if_neg (by omega), if_neg (by omega), if_neg (by omega), if_neg (by omega), if_pos (by omega), show (15 + 24 * l + i - 15) / 24 = l by omega, show (15 + 24 * l + i - 15) % 24 = i by omega]
theorem mk_al {k : Int} (h0 : 0 ≤ k) : mk n pd ls sz sg al (303 + k) = al k := by
  unfold mk
  rw [if_neg (by omega), if_neg (by omega), if_neg (by omega), if_neg (by omega), if_neg (by omega), show 303 + k - 303 = k by omega]
theorem eqv_mk {r : Int → Int} (hn : n ≤ 12) (h0 : r 0 = n) (h1 : r 1 = pd) (h2 : r 2 = ls) (h3 : ∀ k, 0 ≤ k → k < 24 → r (303 + k) = al k) (h4 : ∀ j, 0 ≤ j → j < n → r (3 + j) = sz j ∧ sz j ≤ 24 ∧ ∀ i, 0 ≤ i → i < sz j → ln r j i = sg j i) : Eqv r (mk n pd ls sz sg al) := by
  refine ⟨h0, h1, h2, fun k a b => by rw [mk_al a]; exact h3 k a b, fun l a b => ?_⟩
  obtain ⟨e1, e2, e3⟩ := h4 l a (by omega)
  refine ⟨by rw [mk_sz a (by omega)]; exact e1, fun i c d => ?_⟩
  rw [mk_ln a (by omega) c (by omega)]
  exact e3 i c (by omega)
theorem wr_mk (hn : 0 ≤ n ∧ n ≤ 12) (hp : 0 ≤ pd ∧ pd ≤ 4) (hl : 0 ≤ ls ∧ ls ≤ 9) (hs : ∀ j, 0 ≤ j → j < n → 0 ≤ sz j ∧ sz j ≤ 24) : WR (mk n pd ls sz sg al) := by
  refine ⟨hn, fun l a b => ?_, hp, hl⟩
  have b2 : l < n := b
  rw [mk_sz a (by omega)]
  exact hs l a b2
end MK
/-! the edits of a page -/
def oI (r : Int → Int) (l at' s : Int) : Int → Int := mk (r 0) (r 1) (r 2) (fun j => if j = l then r (3 + l) + 1 else r (3 + j)) (fun j i => if j = l then (if i < at' then ln r l i else if i = at' then s else ln r l (i - 1)) else ln r j i) (fun k => r (303 + k))
def oC (r : Int → Int) (l at' : Int) : Int → Int := mk (r 0) (r 1) (r 2) (fun j => if j = l then r (3 + l) - 1 else r (3 + j)) (fun j i => if j = l then (if i < at' then ln r l i else ln r l (i + 1)) else ln r j i) (fun k => r (303 + k))
def oW (r : Int → Int) (l n : Int) (f : Int → Int) : Int → Int := mk (r 0 + 1) (r 1) (r 2) (fun j => if j < l then r (3 + j) else if j = l then n else r (3 + (j - 1))) (fun j i => if j < l then ln r j i else if j = l then f i else ln r (j - 1) i) (fun k => r (303 + k))
def oX (r : Int → Int) (l : Int) : Int → Int := mk (r 0 - 1) (r 1) (r 2) (fun j => if j < l then r (3 + j) else r (3 + (j + 1))) (fun j i => if j < l then ln r j i else ln r (j + 1) i) (fun k => r (303 + k))
def oM (r : Int → Int) (a at' b : Int) : Int → Int := mk (r 0) (r 1) (r 2) (fun j => if j = b then r (3 + b) + (r (3 + a) - at') else if j = a then at' else r (3 + j)) (fun j i => if j = b then (if i < r (3 + b) then ln r b i else ln r a (at' + (i - r (3 + b)))) else ln r j i) (fun k => r (303 + k))
def oA (r : Int → Int) (k v : Int) : Int → Int := mk (r 0) (r 1) (r 2) (fun j => r (3 + j)) (fun j i => ln r j i) (fun q => if q = k then v else r (303 + q))
def oP (r : Int → Int) (v : Int) : Int → Int := mk (r 0) v (r 2) (fun j => r (3 + j)) (fun j i => ln r j i) (fun k => r (303 + k))
def oL (r : Int → Int) (v : Int) : Int → Int := mk (r 0) (r 1) v (fun j => r (3 + j)) (fun j i => ln r j i) (fun k => r (303 + k))
section OPC
variable {r q : Int → Int} {l at' s : Int}
theorem oI_cg (hw : WR r) (he : Eqv r q) (h0 : 0 ≤ l) (h1 : l < r 0) (ha : 0 ≤ at' ∧ at' ≤ r (3 + l)) (hz : r (3 + l) < 24) : Eqv (oI r l at' s) (oI q l at' s) ∧ WR (oI r l at' s) := by
  obtain ⟨e0, e1, e2, e3, e4⟩ := he
  obtain ⟨w0, w3, w1, w2⟩ := hw
  unfold oI
  refine ⟨eqv_mk (by omega) e0 e1 e2 (fun k a b => by rw [mk_al a]; exact e3 k a b) (fun j a b => ?_), wr_mk w0 w1 w2 (fun j a b => ?_)⟩
  · obtain ⟨g1, g2⟩ := e4 j a (by omega)
    obtain ⟨f1, f2⟩ := e4 l h0 h1
    have := w3 j a (by omega)
    rw [mk_sz a (by omega)]
    by_cases hj : j = l
    · rw [if_pos hj, if_pos hj]
      refine ⟨by omega, by omega, fun i c d => ?_⟩
      rw [mk_ln a (by omega) c (by omega), if_pos hj, if_pos hj]
      by_cases hi : i < at'
      · rw [if_pos hi, if_pos hi]; exact f2 i c (by omega)
      · rw [if_neg hi, if_neg hi]
        by_cases hi2 : i = at'
        · rw [if_pos hi2, if_pos hi2]
        · rw [if_neg hi2, if_neg hi2]; exact f2 (i - 1) (by omega) (by omega)
    · rw [if_neg hj, if_neg hj]
      refine ⟨g1, by omega, fun i c d => ?_⟩
      rw [mk_ln a (by omega) c (by omega), if_neg hj, if_neg hj]
      exact g2 i c (by omega)
  · have := w3 j a b
    have := w3 l h0 h1
    split <;> omega
theorem oC_cg (hw : WR r) (he : Eqv r q) (h0 : 0 ≤ l) (h1 : l < r 0) (ha : 0 ≤ at' ∧ at' < r (3 + l)) : Eqv (oC r l at') (oC q l at') ∧ WR (oC r l at') := by
  obtain ⟨e0, e1, e2, e3, e4⟩ := he
  obtain ⟨w0, w3, w1, w2⟩ := hw
  unfold oC
  refine ⟨eqv_mk (by omega) e0 e1 e2 (fun k a b => by rw [mk_al a]; exact e3 k a b) (fun j a b => ?_), wr_mk w0 w1 w2 (fun j a b => ?_)⟩
  · obtain ⟨g1, g2⟩ := e4 j a (by omega)
    obtain ⟨f1, f2⟩ := e4 l h0 h1
    have := w3 j a (by omega)
    rw [mk_sz a (by omega)]
    by_cases hj : j = l
    · subst hj
      rw [if_pos rfl, if_pos rfl]
      refine ⟨by omega, by omega, fun i c d => ?_⟩
      rw [mk_ln a (by omega) c (by omega), if_pos rfl, if_pos rfl]
      by_cases hi : i < at'
      · rw [if_pos hi, if_pos hi]; exact f2 i c (by omega)
      · rw [if_neg hi, if_neg hi]; exact f2 (i + 1) (by omega) (by omega)
    · rw [if_neg hj, if_neg hj]
      refine ⟨g1, by omega, fun i c d => ?_⟩
      rw [mk_ln a (by omega) c (by omega), if_neg hj, if_neg hj]
      exact g2 i c (by omega)
  · have := w3 j a b
    have := w3 l h0 h1
    split <;> omega
theorem oW_cg (hw : WR r) (he : Eqv r q) {n : Int} {f g : Int → Int} (h0 : 0 ≤ l) (h1 : l ≤ r 0) (hn : r 0 < 12) (hz : 0 ≤ n ∧ n ≤ 24) (hf : ∀ i, 0 ≤ i → i < n → f i = g i) : Eqv (oW r l n f) (oW q l n g) ∧ WR (oW r l n f) := by
  obtain ⟨e0, e1, e2, e3, e4⟩ := he
  obtain ⟨w0, w3, w1, w2⟩ := hw
  unfold oW
  refine ⟨eqv_mk (by omega) (by rw [mk_0, e0]) e1 e2 (fun k a b => by rw [mk_al a]; exact e3 k a b) (fun j a b => ?_), wr_mk (by omega) w1 w2 (fun j a b => ?_)⟩
  · rw [mk_sz a (by omega)]
    by_cases hj : j < l
    · obtain ⟨g1, g2⟩ := e4 j a (by omega)
      have := w3 j a (by omega)
      rw [if_pos hj, if_pos hj]
      refine ⟨g1, by omega, fun i c d => ?_⟩
      rw [mk_ln a (by omega) c (by omega), if_pos hj, if_pos hj]
      exact g2 i c (by omega)
    · rw [if_neg hj, if_neg hj]
      by_cases hj2 : j = l
      · rw [if_pos hj2, if_pos hj2]
        refine ⟨rfl, by omega, fun i c d => ?_⟩
        rw [mk_ln a (by omega) c (by omega), if_neg hj, if_neg hj, if_pos hj2, if_pos hj2]
        exact hf i c d
      · obtain ⟨g1, g2⟩ := e4 (j - 1) (by omega) (by omega)
        have := w3 (j - 1) (by omega) (by omega)
        rw [if_neg hj2, if_neg hj2]
        refine ⟨g1, by omega, fun i c d => ?_⟩
        rw [mk_ln a (by omega) c (by omega), if_neg hj, if_neg hj, if_neg hj2, if_neg hj2]
        exact g2 i c (by omega)
  · by_cases hj : j < l
    · rw [if_pos hj]; exact w3 j a (by omega)
    · rw [if_neg hj]
      by_cases hj2 : j = l
      · rw [if_pos hj2]; exact hz
      · rw [if_neg hj2]; exact w3 (j - 1) (by omega) (by omega)
theorem oX_cg (hw : WR r) (he : Eqv r q) (h0 : 0 ≤ l) (h1 : l < r 0) : Eqv (oX r l) (oX q l) ∧ WR (oX r l) := by
  obtain ⟨e0, e1, e2, e3, e4⟩ := he
  obtain ⟨w0, w3, w1, w2⟩ := hw
  unfold oX
  refine ⟨eqv_mk (by omega) (by rw [mk_0, e0]) e1 e2 (fun k a b => by rw [mk_al a]; exact e3 k a b) (fun j a b => ?_), wr_mk (by omega) w1 w2 (fun j a b => ?_)⟩
  · rw [mk_sz a (by omega)]
    by_cases hj : j < l
    · obtain ⟨g1, g2⟩ := e4 j a (by omega)
      have := w3 j a (by omega)
      rw [if_pos hj, if_pos hj]
      refine ⟨g1, by omega, fun i c d => ?_⟩
      rw [mk_ln a (by omega) c (by omega), if_pos hj, if_pos hj]
      exact g2 i c (by omega)
    · obtain ⟨g1, g2⟩ := e4 (j + 1) (by omega) (by omega)
      have := w3 (j + 1) (by omega) (by omega)
      rw [if_neg hj, if_neg hj]
      refine ⟨g1, by omega, fun i c d => ?_⟩
      rw [mk_ln a (by omega) c (by omega), if_neg hj, if_neg hj]
      exact g2 i c (by omega)
  · by_cases hj : j < l
    · rw [if_pos hj]; exact w3 j a (by omega)
    · rw [if_neg hj]; exact w3 (j + 1) (by omega) (by omega)
theorem oA_cg (hw : WR r) (he : Eqv r q) {k v : Int} : Eqv (oA r k v) (oA q k v) ∧ WR (oA r k v) := by
  obtain ⟨e0, e1, e2, e3, e4⟩ := he
  obtain ⟨w0, w3, w1, w2⟩ := hw
  unfold oA
  refine ⟨eqv_mk (by omega) e0 e1 e2 (fun j a b => ?_) (fun j a b => ?_), wr_mk w0 w1 w2 (fun j a b => w3 j a b)⟩
  · rw [mk_al a]
    split
    · rfl
    · exact e3 j a b
  · obtain ⟨g1, g2⟩ := e4 j a (by omega)
    have := w3 j a (by omega)
    rw [mk_sz a (by omega)]
    refine ⟨g1, by omega, fun i c d => ?_⟩
    rw [mk_ln a (by omega) c (by omega)]
    exact g2 i c (by omega)
theorem oP_cg (hw : WR r) (he : Eqv r q) {v : Int} (hv : 0 ≤ v ∧ v ≤ 4) : Eqv (oP r v) (oP q v) ∧ WR (oP r v) := by
  obtain ⟨e0, e1, e2, e3, e4⟩ := he
  obtain ⟨w0, w3, w1, w2⟩ := hw
  unfold oP
  refine ⟨eqv_mk (by omega) e0 rfl e2 (fun j a b => by rw [mk_al a]; exact e3 j a b) (fun j a b => ?_), wr_mk w0 hv w2 (fun j a b => w3 j a b)⟩
  obtain ⟨g1, g2⟩ := e4 j a (by omega)
  have := w3 j a (by omega)
  rw [mk_sz a (by omega)]
  refine ⟨g1, by omega, fun i c d => ?_⟩
  rw [mk_ln a (by omega) c (by omega)]
  exact g2 i c (by omega)
theorem oL_cg (hw : WR r) (he : Eqv r q) {v : Int} (hv : 0 ≤ v ∧ v ≤ 9) : Eqv (oL r v) (oL q v) ∧ WR (oL r v) := by
  obtain ⟨e0, e1, e2, e3, e4⟩ := he
  obtain ⟨w0, w3, w1, w2⟩ := hw
  unfold oL
  refine ⟨eqv_mk (by omega) e0 e1 rfl (fun j a b => by rw [mk_al a]; exact e3 j a b) (fun j a b => ?_), wr_mk w0 w1 hv (fun j a b => w3 j a b)⟩
  obtain ⟨g1, g2⟩ := e4 j a (by omega)
  have := w3 j a (by omega)
  rw [mk_sz a (by omega)]
  refine ⟨g1, by omega, fun i c d => ?_⟩
  rw [mk_ln a (by omega) c (by omega)]
  exact g2 i c (by omega)
end OPC
/-! ===== the class's page: its own edits ===== -/
section PAGE
variable {M : Mm} {pg l at' s : Int} {r : Int → Int} {Q : Mm → Prop}
theorem s3_insert (hr : vw M pg = r) (hw : WR r) (h0 : 0 ≤ l) (h1 : l < r 0) (ha : 0 ≤ at' ∧ at' ≤ r (3 + l)) (hz : r (3 + l) < 24) (hq : ∀ M2 : Mm, (∀ a, a ≠ pg + 1 → a ≠ pg + 2 → M2 a = M a) → Eqv (vw M2 pg) (oI r l at' s) → M2 (pg + 1) l = r (3 + l) + 1 → Q M2) : PX3_insertSign pg l at' s M Q := by
  have hm := hw.1
  have hs := hw.2.1 l h0 h1
  have es : ∀ j, 0 ≤ j → j < 12 → M (pg + 1) j = r (3 + j) := fun j a b => by rw [← hr]; exact (vw_sz M pg a b).symm
  have ef : ∀ j i, 0 ≤ j → j < 12 → 0 ≤ i → i < 24 → M (pg + 2) ((j * 24) + i) = ln r j i := fun j i a b c d => by rw [← hr]; exact (vw_ln M pg a b c d).symm
  unfold PX3_insertSign
  rw [es l h0 (by omega)]
  refine ⟨by omega, by omega, ?_⟩
  rintro M4 rfl
  refine ⟨by omega, ?_⟩
  rintro M6 rfl
  have e6 : um (cp M (pg + 2) ((l * 24) + at') (pg + 2) (((l * 24) + at') + 1) (r (3 + l) - at')) (pg + 2) ((l * 24) + at') s (pg + 1) l = r (3 + l) := by rw [um_r _ (by omega), cp_r _ (by omega)]; exact es l h0 (by omega)
  rw [e6]
  refine ⟨by omega, by omega, by omega, ?_⟩
  rintro M11 rfl
  refine hq _ (fun a b1 b2 => by rw [um_ne _ _ _ b1, um_ne _ _ _ b2, cp_ne _ _ _ _ _ b2]) ?_ (um_w _ _ _ _)
  refine eqv_mk (by omega) ?_ ?_ ?_ (fun k a b => ?_) (fun j a b => ?_)
  · rw [vw_0, um_r _ (by omega), um_r _ (by omega), cp_r _ (by omega), ← hr]; rfl
  · rw [vw_1, um_r _ (by omega), um_r _ (by omega), cp_r _ (by omega), ← hr]; rfl
  · rw [vw_2, um_r _ (by omega), um_r _ (by omega), cp_r _ (by omega), ← hr]; rfl
  · rw [vw_al _ _ a, um_r _ (by omega), um_r _ (by omega), cp_r _ (by omega), ← hr, vw_al _ _ a]
  · have hj := hw.2.1 j a (by omega)
    rw [vw_sz _ _ a (by omega)]
    by_cases hjl : j = l
    · subst hjl
      rw [um_w, if_pos rfl]
      refine ⟨rfl, by omega, fun i c d => ?_⟩
      rw [vw_ln _ _ a (by omega) c (by omega), um_r _ (by omega), if_pos rfl]
      by_cases hi : i < at'
      · rw [if_pos hi, um_r _ (by omega), cp_r _ (by omega)]
        exact ef j i a (by omega) c (by omega)
      · rw [if_neg hi]
        by_cases hi2 : i = at'
        · rw [if_pos hi2, hi2, um_w]
        · rw [if_neg hi2, um_r _ (by omega), cp_w _ (by omega) (by omega), ← ef j (i - 1) a (by omega) (by omega) (by omega)]
          congr 1
          omega
    · rw [if_neg hjl, um_r _ (by omega), um_r _ (by omega), cp_r _ (by omega)]
      refine ⟨es j a (by omega), by omega, fun i c d => ?_⟩
      rw [vw_ln _ _ a (by omega) c (by omega), um_r _ (by omega), if_neg hjl, um_r _ (by omega), cp_r _ (by omega)]
      exact ef j i a (by omega) c (by omega)
theorem s3_remove (hr : vw M pg = r) (hw : WR r) (h0 : 0 ≤ l) (h1 : l < r 0) (ha : 0 ≤ at' ∧ at' < r (3 + l)) (hq : ∀ M2 : Mm, (∀ a, a ≠ pg + 1 → a ≠ pg + 2 → M2 a = M a) → Eqv (vw M2 pg) (oC r l at') → Q M2) : PX3_removeSign pg l at' M Q := by
  have hm := hw.1
  have hs := hw.2.1 l h0 h1
  have es : ∀ j, 0 ≤ j → j < 12 → M (pg + 1) j = r (3 + j) := fun j a b => by rw [← hr]; exact (vw_sz M pg a b).symm
  have ef : ∀ j i, 0 ≤ j → j < 12 → 0 ≤ i → i < 24 → M (pg + 2) ((j * 24) + i) = ln r j i := fun j i a b c d => by rw [← hr]; exact (vw_ln M pg a b c d).symm
  unfold PX3_removeSign
  rw [es l h0 (by omega)]
  refine ⟨by omega, by omega, ?_⟩
  rintro M4 rfl
  have e6 : cp M (pg + 2) (((l * 24) + at') + 1) (pg + 2) ((l * 24) + at') ((r (3 + l) - at') - 1) (pg + 1) l = r (3 + l) := by rw [cp_r _ (by omega)]; exact es l h0 (by omega)
  rw [e6]
  refine ⟨by omega, by omega, by omega, ?_⟩
  rintro M11 rfl
  refine hq _ (fun a b1 b2 => by rw [um_ne _ _ _ b1, cp_ne _ _ _ _ _ b2]) ?_
  refine eqv_mk (by omega) ?_ ?_ ?_ (fun k a b => ?_) (fun j a b => ?_)
  · rw [vw_0, um_r _ (by omega), cp_r _ (by omega), ← hr]; rfl
  · rw [vw_1, um_r _ (by omega), cp_r _ (by omega), ← hr]; rfl
  · rw [vw_2, um_r _ (by omega), cp_r _ (by omega), ← hr]; rfl
  · rw [vw_al _ _ a, um_r _ (by omega), cp_r _ (by omega), ← hr, vw_al _ _ a]
  · have hj := hw.2.1 j a (by omega)
    rw [vw_sz _ _ a (by omega)]
    by_cases hjl : j = l
    · subst hjl
      rw [um_w, if_pos rfl]
      refine ⟨rfl, by omega, fun i c d => ?_⟩
      rw [vw_ln _ _ a (by omega) c (by omega), um_r _ (by omega), if_pos rfl]
      by_cases hi : i < at'
      · rw [if_pos hi, cp_r _ (by omega)]
        exact ef j i a (by omega) c (by omega)
      · rw [if_neg hi, cp_w _ (by omega) (by omega), ← ef j (i + 1) a (by omega) (by omega) (by omega)]
        congr 1
        omega
    · rw [if_neg hjl, um_r _ (by omega), cp_r _ (by omega)]
      refine ⟨es j a (by omega), by omega, fun i c d => ?_⟩
      rw [vw_ln _ _ a (by omega) c (by omega), um_r _ (by omega), if_neg hjl, cp_r _ (by omega)]
      exact ef j i a (by omega) c (by omega)
theorem s3_open (hr : vw M pg = r) (hw : WR r) (h0 : 0 ≤ l) (h1 : l ≤ r 0) (hz : r 0 < 12) (f : Int → Int) (hq : ∀ M2 : Mm, (∀ a, a ≠ pg → a ≠ pg + 1 → a ≠ pg + 2 → M2 a = M a) → Eqv (vw M2 pg) (oW r l 0 f) → (∀ j, j ≠ 0 → M2 pg j = M pg j) → Q M2) : PX3_openLine pg l M Q := by
  have hm := hw.1
  have e0 : M pg 0 = r 0 := by rw [← hr]; rfl
  have es : ∀ j, 0 ≤ j → j < 12 → M (pg + 1) j = r (3 + j) := fun j a b => by rw [← hr]; exact (vw_sz M pg a b).symm
  have ef : ∀ j i, 0 ≤ j → j < 12 → 0 ≤ i → i < 24 → M (pg + 2) ((j * 24) + i) = ln r j i := fun j i a b c d => by rw [← hr]; exact (vw_ln M pg a b c d).symm
  unfold PX3_openLine
  rw [e0]
  refine ⟨by omega, ?_⟩
  rintro M3 rfl
  refine ⟨by omega, ?_⟩
  rintro M5 rfl
  refine ⟨by omega, ?_⟩
  rintro M7 rfl
  have e7 : um (cp (cp M (pg + 1) l (pg + 1) (l + 1) (r 0 - l)) (pg + 2) (l * 24) (pg + 2) ((l + 1) * 24) ((r 0 - l) * 24)) (pg + 1) l 0 pg 0 = r 0 := by rw [um_r _ (by omega), cp_r _ (by omega), cp_r _ (by omega)]; exact e0
  rw [e7]
  refine ⟨by omega, ?_⟩
  rintro M9 rfl
  refine hq _ (fun a b1 b2 b3 => by rw [um_ne _ _ _ b1, um_ne _ _ _ b2, cp_ne _ _ _ _ _ b3, cp_ne _ _ _ _ _ b2]) ?_ (fun j hj => by rw [um_r _ (by omega), um_r _ (by omega), cp_r _ (by omega), cp_r _ (by omega)])
  refine eqv_mk (by omega) ?_ ?_ ?_ (fun k a b => ?_) (fun j a b => ?_)
  · rw [vw_0, um_w]
  · rw [vw_1, um_r _ (by omega), um_r _ (by omega), cp_r _ (by omega), cp_r _ (by omega), ← hr]; rfl
  · rw [vw_2, um_r _ (by omega), um_r _ (by omega), cp_r _ (by omega), cp_r _ (by omega), ← hr]; rfl
  · rw [vw_al _ _ a, um_r _ (by omega), um_r _ (by omega), cp_r _ (by omega), cp_r _ (by omega), ← hr, vw_al _ _ a]
  · rw [vw_sz _ _ a (by omega), um_r _ (by omega)]
    by_cases hjl : j < l
    · have hj := hw.2.1 j a (by omega)
      rw [if_pos hjl, um_r _ (by omega), cp_r _ (by omega), cp_r _ (by omega)]
      refine ⟨es j a (by omega), by omega, fun i c d => ?_⟩
      rw [vw_ln _ _ a (by omega) c (by omega), um_r _ (by omega), um_r _ (by omega), if_pos hjl, cp_r _ (by omega), cp_r _ (by omega)]
      exact ef j i a (by omega) c (by omega)
    · rw [if_neg hjl]
      by_cases hj2 : j = l
      · rw [if_pos hj2, hj2, um_w]
        exact ⟨rfl, by omega, fun i c d => by omega⟩
      · have hj := hw.2.1 (j - 1) (by omega) (by omega)
        rw [if_neg hj2, um_r _ (by omega), cp_r _ (by omega), cp_w _ (by omega) (by omega)]
        refine ⟨by rw [← es (j - 1) (by omega) (by omega)]; congr 1; omega, by omega, fun i c d => ?_⟩
        rw [vw_ln _ _ a (by omega) c (by omega), um_r _ (by omega), um_r _ (by omega), if_neg hjl, if_neg hj2, cp_w _ (by omega) (by omega), cp_r _ (by omega), ← ef (j - 1) i (by omega) (by omega) c (by omega)]
        congr 1
        omega
theorem s3_close (hr : vw M pg = r) (hw : WR r) (h0 : 0 ≤ l) (h1 : l < r 0) (hq : ∀ M2 : Mm, (∀ a, a ≠ pg → a ≠ pg + 1 → a ≠ pg + 2 → M2 a = M a) → Eqv (vw M2 pg) (oX r l) → (∀ j, j ≠ 0 → M2 pg j = M pg j) → Q M2) : PX3_closeLine pg l M Q := by
  have hm := hw.1
  have e0 : M pg 0 = r 0 := by rw [← hr]; rfl
  have es : ∀ j, 0 ≤ j → j < 12 → M (pg + 1) j = r (3 + j) := fun j a b => by rw [← hr]; exact (vw_sz M pg a b).symm
  have ef : ∀ j i, 0 ≤ j → j < 12 → 0 ≤ i → i < 24 → M (pg + 2) ((j * 24) + i) = ln r j i := fun j i a b c d => by rw [← hr]; exact (vw_ln M pg a b c d).symm
  unfold PX3_closeLine
  rw [e0]
  refine ⟨by omega, ?_⟩
  rintro M3 rfl
  refine ⟨by omega, ?_⟩
  rintro M5 rfl
  have e7 : cp (cp M (pg + 1) (l + 1) (pg + 1) l ((r 0 - l) - 1)) (pg + 2) ((l + 1) * 24) (pg + 2) (l * 24) (((r 0 - l) - 1) * 24) pg 0 = r 0 := by rw [cp_r _ (by omega), cp_r _ (by omega)]; exact e0
  rw [e7]
  refine ⟨by omega, ?_⟩
  rintro M9 rfl
  refine hq _ (fun a b1 b2 b3 => by rw [um_ne _ _ _ b1, cp_ne _ _ _ _ _ b3, cp_ne _ _ _ _ _ b2]) ?_ (fun j hj => by rw [um_r _ (by omega), cp_r _ (by omega), cp_r _ (by omega)])
  refine eqv_mk (by omega) ?_ ?_ ?_ (fun k a b => ?_) (fun j a b => ?_)
  · rw [vw_0, um_w]
  · rw [vw_1, um_r _ (by omega), cp_r _ (by omega), cp_r _ (by omega), ← hr]; rfl
  · rw [vw_2, um_r _ (by omega), cp_r _ (by omega), cp_r _ (by omega), ← hr]; rfl
  · rw [vw_al _ _ a, um_r _ (by omega), cp_r _ (by omega), cp_r _ (by omega), ← hr, vw_al _ _ a]
  · rw [vw_sz _ _ a (by omega), um_r _ (by omega)]
    by_cases hjl : j < l
    · have hj := hw.2.1 j a (by omega)
      rw [if_pos hjl, cp_r _ (by omega), cp_r _ (by omega)]
      refine ⟨es j a (by omega), by omega, fun i c d => ?_⟩
      rw [vw_ln _ _ a (by omega) c (by omega), um_r _ (by omega), if_pos hjl, cp_r _ (by omega), cp_r _ (by omega)]
      exact ef j i a (by omega) c (by omega)
    · have hj := hw.2.1 (j + 1) (by omega) (by omega)
      rw [if_neg hjl, cp_r _ (by omega), cp_w _ (by omega) (by omega)]
      refine ⟨by rw [← es (j + 1) (by omega) (by omega)]; congr 1; omega, by omega, fun i c d => ?_⟩
      rw [vw_ln _ _ a (by omega) c (by omega), um_r _ (by omega), if_neg hjl, cp_w _ (by omega) (by omega), cp_r _ (by omega), ← ef (j + 1) i (by omega) (by omega) c (by omega)]
      congr 1
      omega
theorem s3_move {a b : Int} (hr : vw M pg = r) (hw : WR r) (ha0 : 0 ≤ a) (ha1 : a < r 0) (hb0 : 0 ≤ b) (hb1 : b < r 0) (hab : a ≠ b) (hat : 0 ≤ at' ∧ at' ≤ r (3 + a)) (hz : r (3 + b) + (r (3 + a) - at') ≤ 24) (hq : ∀ M2 : Mm, (∀ q, q ≠ pg + 1 → q ≠ pg + 2 → M2 q = M q) → Eqv (vw M2 pg) (oM r a at' b) → Q M2) : PX3_moveSigns pg a at' b M Q := by
  have hm := hw.1
  have hsa := hw.2.1 a ha0 ha1
  have hsb := hw.2.1 b hb0 hb1
  have es : ∀ j, 0 ≤ j → j < 12 → M (pg + 1) j = r (3 + j) := fun j a b => by rw [← hr]; exact (vw_sz M pg a b).symm
  have ef : ∀ j i, 0 ≤ j → j < 12 → 0 ≤ i → i < 24 → M (pg + 2) ((j * 24) + i) = ln r j i := fun j i a b c d => by rw [← hr]; exact (vw_ln M pg a b c d).symm
  unfold PX3_moveSigns
  rw [es a ha0 (by omega), es b hb0 (by omega)]
  refine ⟨by omega, by omega, by omega, ?_⟩
  rintro M6 rfl
  have e6 : cp M (pg + 2) ((a * 24) + at') (pg + 2) ((b * 24) + r (3 + b)) (r (3 + a) - at') (pg + 1) b = r (3 + b) := by rw [cp_r _ (by omega)]; exact es b hb0 (by omega)
  rw [e6]
  refine ⟨by omega, by omega, by omega, ?_⟩
  rintro M11 rfl
  refine ⟨by omega, ?_⟩
  rintro M13 rfl
  refine hq _ (fun q b1 b2 => by rw [um_ne _ _ _ b1, um_ne _ _ _ b1, cp_ne _ _ _ _ _ b2]) ?_
  refine eqv_mk (by omega) ?_ ?_ ?_ (fun k c d => ?_) (fun j c d => ?_)
  · rw [vw_0, um_r _ (by omega), um_r _ (by omega), cp_r _ (by omega), ← hr]; rfl
  · rw [vw_1, um_r _ (by omega), um_r _ (by omega), cp_r _ (by omega), ← hr]; rfl
  · rw [vw_2, um_r _ (by omega), um_r _ (by omega), cp_r _ (by omega), ← hr]; rfl
  · rw [vw_al _ _ c, um_r _ (by omega), um_r _ (by omega), cp_r _ (by omega), ← hr, vw_al _ _ c]
  · have hj := hw.2.1 j c (by omega)
    rw [vw_sz _ _ c (by omega)]
    by_cases hjb : j = b
    · subst hjb
      rw [um_r _ (by omega), um_w, if_pos rfl]
      refine ⟨rfl, by omega, fun i e f => ?_⟩
      rw [vw_ln _ _ c (by omega) e (by omega), um_r _ (by omega), um_r _ (by omega), if_pos rfl]
      by_cases hi : i < r (3 + j)
      · rw [if_pos hi, cp_r _ (by omega)]
        exact ef j i c (by omega) e (by omega)
      · rw [if_neg hi, cp_w _ (by omega) (by omega), ← ef a (at' + (i - r (3 + j))) ha0 (by omega) (by omega) (by omega)]
        congr 1
        omega
    · rw [if_neg hjb]
      by_cases hja : j = a
      · subst hja
        rw [um_w, if_pos rfl]
        refine ⟨rfl, by omega, fun i e f => ?_⟩
        rw [vw_ln _ _ c (by omega) e (by omega), um_r _ (by omega), um_r _ (by omega), if_neg hjb, cp_r _ (by omega)]
        exact ef j i c (by omega) e (by omega)
      · rw [if_neg hja, um_r _ (by omega), um_r _ (by omega), cp_r _ (by omega)]
        refine ⟨es j c (by omega), by omega, fun i e f => ?_⟩
        rw [vw_ln _ _ c (by omega) e (by omega), um_r _ (by omega), um_r _ (by omega), if_neg hjb, cp_r _ (by omega)]
        exact ef j i c (by omega) e (by omega)
theorem s3_copy {p2 : Int} (hr : vw M p2 = r) (hw : WR r) (hd : pg + 3 < p2 ∨ p2 + 3 < pg) (hq : ∀ M2 : Mm, (∀ a, a ≠ pg → a ≠ pg + 1 → a ≠ pg + 2 → a ≠ pg + 3 → M2 a = M a) → Eqv (vw M2 pg) r → Q M2) : PX3_copyFrom pg p2 M Q := by
  have hm := hw.1
  have e0 : M p2 0 = r 0 := by rw [← hr]; rfl
  have e1 : M p2 1 = r 1 := by rw [← hr]; rfl
  have e2 : M p2 2 = r 2 := by rw [← hr]; rfl
  have es : ∀ j, 0 ≤ j → j < 12 → M (p2 + 1) j = r (3 + j) := fun j a b => by rw [← hr]; exact (vw_sz M p2 a b).symm
  have ef : ∀ j i, 0 ≤ j → j < 12 → 0 ≤ i → i < 24 → M (p2 + 2) ((j * 24) + i) = ln r j i := fun j i a b c d => by rw [← hr]; exact (vw_ln M p2 a b c d).symm
  have ea : ∀ k, 0 ≤ k → M (p2 + 3) k = r (303 + k) := fun k a => by rw [← hr]; exact (vw_al M p2 a).symm
  unfold PX3_copyFrom
  rw [e0]
  rintro M2 rfl
  rw [um_r _ (by omega), e1]
  rintro M4 rfl
  rw [um_r _ (by omega), um_r _ (by omega), e2]
  rintro M6 rfl
  have g0 : um (um (um M pg 0 (r 0)) pg 1 (r 1)) pg 2 (r 2) pg 0 = r 0 := by rw [um_r _ (by omega), um_r _ (by omega), um_w]
  rw [g0]
  refine ⟨by omega, ?_⟩
  rintro M9 rfl
  rw [show cp (um (um (um M pg 0 (r 0)) pg 1 (r 1)) pg 2 (r 2)) (p2 + 1) 0 (pg + 1) 0 (r 0) pg 0 = r 0 by rw [cp_r _ (by omega)]; exact g0]
  refine ⟨by omega, ?_⟩
  rintro M12 rfl
  refine ⟨by omega, ?_⟩
  rintro M14 rfl
  refine hq _ (fun a b1 b2 b3 b4 => by rw [cp_ne _ _ _ _ _ b4, cp_ne _ _ _ _ _ b3, cp_ne _ _ _ _ _ b2, um_ne _ _ _ b1, um_ne _ _ _ b1, um_ne _ _ _ b1]) ?_
  refine ⟨?_, ?_, ?_, fun k a b => ?_, fun j a b => ?_⟩
  · rw [vw_0, cp_r _ (by omega), cp_r _ (by omega), cp_r _ (by omega)]; exact g0
  · rw [vw_1, cp_r _ (by omega), cp_r _ (by omega), cp_r _ (by omega), um_r _ (by omega), um_w]
  · rw [vw_2, cp_r _ (by omega), cp_r _ (by omega), cp_r _ (by omega), um_w]
  · rw [vw_al _ _ a, cp_w _ (by omega) (by omega), cp_r _ (by omega), cp_r _ (by omega), um_r _ (by omega), um_r _ (by omega), um_r _ (by omega)]
    rw [← ea k a]
    congr 1
    omega
  · have b2 : j < r 0 := by rw [vw_0, cp_r _ (by omega), cp_r _ (by omega), cp_r _ (by omega), g0] at b; exact b
    have hj := hw.2.1 j a b2
    have e5 : vw (cp (cp (cp (um (um (um M pg 0 (r 0)) pg 1 (r 1)) pg 2 (r 2)) (p2 + 1) 0 (pg + 1) 0 (r 0)) (p2 + 2) 0 (pg + 2) 0 (r 0 * 24)) (p2 + 3) 0 (pg + 3) 0 24) pg (3 + j) = r (3 + j) := by
      rw [vw_sz _ _ a (by omega), cp_r _ (by omega), cp_r _ (by omega), cp_w _ (by omega) (by omega), um_r _ (by omega), um_r _ (by omega), um_r _ (by omega), ← es j a (by omega)]
      congr 1
      omega
    rw [e5]
    refine ⟨rfl, fun i c d => ?_⟩
    rw [vw_ln _ _ a (by omega) c (by omega), cp_r _ (by omega), cp_w _ (by omega) (by omega), cp_r _ (by omega), um_r _ (by omega), um_r _ (by omega), um_r _ (by omega), ← ef j i a (by omega) c (by omega)]
    congr 1
    omega
end PAGE
