/-! ===== two rows that show the same page ===== -/
def Eqv (r q : Int → Int) : Prop := r 0 = q 0 ∧ r 1 = q 1 ∧ r 2 = q 2 ∧ (∀ k, 0 ≤ k → k < 24 → r (303 + k) = q (303 + k)) ∧ ∀ l, 0 ≤ l → l < r 0 → r (3 + l) = q (3 + l) ∧ ∀ i, 0 ≤ i → i < r (3 + l) → ln r l i = ln q l i
theorem Eqv.rf (r : Int → Int) : Eqv r r := ⟨rfl, rfl, rfl, fun _ _ _ => rfl, fun _ _ _ => ⟨rfl, fun _ _ _ => rfl⟩⟩
theorem Eqv.sy {r q : Int → Int} (h : Eqv r q) : Eqv q r := by
  obtain ⟨h0, h1, h2, h3, h4⟩ := h
  refine ⟨h0.symm, h1.symm, h2.symm, fun k a b => (h3 k a b).symm, fun l a b => ?_⟩
  obtain ⟨g1, g2⟩ := h4 l a (by omega)
  exact ⟨g1.symm, fun i c d => (g2 i c (by omega)).symm⟩
theorem Eqv.tr {r q s : Int → Int} (h : Eqv r q) (g : Eqv q s) : Eqv r s := by
  obtain ⟨h0, h1, h2, h3, h4⟩ := h
  obtain ⟨g0, g1, g2, g3, g4⟩ := g
  refine ⟨h0.trans g0, h1.trans g1, h2.trans g2, fun k a b => (h3 k a b).trans (g3 k a b), fun l a b => ?_⟩
  obtain ⟨e1, e2⟩ := h4 l a b
  obtain ⟨f1, f2⟩ := g4 l a (by omega)
  exact ⟨e1.trans f1, fun i c d => (e2 i c d).trans (f2 i c (by omega))⟩
theorem Eqv.wr {r q : Int → Int} (h : Eqv r q) (hw : WR r) : WR q := by
  obtain ⟨h0, h1, h2, h3, h4⟩ := h
  obtain ⟨w0, w3, w1, w2⟩ := hw
  refine ⟨by omega, fun l a b => ?_, by omega, by omega⟩
  have e := (h4 l a (by omega)).1
  have := w3 l a (by omega)
  omega
theorem fir_cong {c d : Int → Int} {k l : Int} (hl : 0 ≤ l) (h : ∀ i, 0 ≤ i → i < l → c i = d i) : fir c k l = fir d k l := by
  obtain ⟨g1, g2, g3, g4⟩ := fir_spec d k hl
  exact fir_uniq g1 g2 (fun i a b => by rw [h i (by omega) b]; exact g3 i a b) (fun a => by rw [h _ (by omega) (by omega)]; exact g4 a)
theorem las_cong {c d : Int → Int} {k l m : Int} (hl : l < m) (h : ∀ i, l < i → i < m → c i = d i) : las c m k l = las d m k l := by
  obtain ⟨g1, g2, g3, g4⟩ := las_spec d k hl
  exact las_uniq g1 g2 (fun i a b => by rw [h i a (by omega)]; exact g3 i a b) (fun a => by rw [h _ (by omega) a]; exact g4 a)
section EQV
variable {r q : Int → Int} {l k : Int}
theorem cel_cg (hw : WR r) (he : Eqv r q) (h0 : 0 ≤ l) (h1 : l < r 0) : cel r l = cel q l := by
  obtain ⟨g1, g2⟩ := he.2.2.2.2 l h0 h1
  unfold cel
  rw [← g1]
  exact cT_cong g2
theorem beg_cg (hw : WR r) (he : Eqv r q) (h0 : 0 ≤ l) (h1 : l < r 0) (hk0 : 0 ≤ k) (hk : k ≤ cel r l) : beg r l k = beg q l k := by
  obtain ⟨g1, g2⟩ := he.2.2.2.2 l h0 h1
  unfold beg
  rw [← g1]
  exact frm_cong (hw.2.1 l h0 h1).1 g2 hk0 hk
theorem en_cg (hw : WR r) (he : Eqv r q) (h0 : 0 ≤ l) (h1 : l < r 0) (hk0 : 0 ≤ k) (hk : k ≤ cel r l) : en r l k = en q l k := by
  obtain ⟨g1, g2⟩ := he.2.2.2.2 l h0 h1
  have hc := cell_rg hw h0 h1 hk0 hk
  unfold en
  rw [← g1, ← beg_cg hw he h0 h1 hk0 hk]
  exact fi_cong (by omega) (fun i a b => g2 i (by omega) b)
theorem siz_cg (hw : WR r) (he : Eqv r q) (h0 : 0 ≤ l) (h1 : l < r 0) (hk0 : 0 ≤ k) (hk : k ≤ cel r l) : siz r l k = siz q l k := by
  unfold siz
  rw [en_cg hw he h0 h1 hk0 hk, beg_cg hw he h0 h1 hk0 hk]
theorem ahd_cg (hw : WR r) (he : Eqv r q) (h0 : 0 ≤ l) (h1 : l < r 0) (hk0 : 0 ≤ k) (hk : k ≤ cel r l) : ahd r l k = ahd q l k := by
  obtain ⟨g1, g2⟩ := he.2.2.2.2 l h0 h1
  have hc := cell_rg hw h0 h1 hk0 hk
  unfold ahd
  rw [← en_cg hw he h0 h1 hk0 hk, ← beg_cg hw he h0 h1 hk0 hk]
  rw [fi_cong (by omega) (fun i a b => g2 i (by omega) (by omega))]
theorem fl_cg (hw : WR r) (he : Eqv r q) (h0 : 0 ≤ l) (h1 : l < r 0) : fl r l k = fl q l k :=
  fir_cong h0 (fun i a b => cel_cg hw he a (by omega))
theorem la_cg (hw : WR r) (he : Eqv r q) (h0 : 0 ≤ l) (h1 : l < r 0) : la r l k = la q l k := by
  unfold la
  rw [← he.1]
  exact las_cong h1 (fun i a b => cel_cg hw he (by omega) b)
theorem mst_cg (hw : WR r) (he : Eqv r q) (h0 : 0 ≤ l) (h1 : l < r 0) (hk0 : 0 ≤ k) (hk : k < cel r l) (w : Int) : mst r l k w = mst q l k w := by
  unfold mst
  rw [← fl_cg hw he h0 h1, ← la_cg hw he h0 h1]
  refine mxr_cong (fun i a b => ?_)
  obtain ⟨g1, g2, g3⟩ := blk_in h0 h1 hk a (by omega)
  unfold gm
  rw [siz_cg hw he g1 g2 hk0 (by omega), ahd_cg hw he g1 g2 hk0 (by omega)]
theorem ned_cg (hw : WR r) (he : Eqv r q) (h0 : 0 ≤ l) (h1 : l < r 0) (hk0 : 0 ≤ k) (hk : k < cel r l) : ned r l k = ned q l k := by
  have hc := cel_rg hw h0 h1
  unfold ned
  rw [he.2.2.2.1 k hk0 (by omega), mst_cg hw he h0 h1 hk0 hk, mst_cg hw he h0 h1 hk0 hk, mst_cg hw he h0 h1 hk0 hk]
theorem wid_cg (hw : WR r) (he : Eqv r q) (h0 : 0 ≤ l) (h1 : l < r 0) (hk0 : 0 ≤ k) (hk : k < cel r l) : wid r l k = wid q l k := by
  unfold wid
  rw [ned_cg hw he h0 h1 hk0 hk, he.2.1, he.2.2.1]
theorem bgn_cg (hw : WR r) (he : Eqv r q) (h0 : 0 ≤ l) (h1 : l < r 0) (hk : k ≤ cel r l) : bgn r l k = bgn q l k :=
  sm_cong (fun i a b => wid_cg hw he h0 h1 a (by omega))
theorem wde_cg (hw : WR r) (he : Eqv r q) (h0 : 0 ≤ l) (h1 : l < r 0) : wde r l = wde q l := by
  have hc := cel_rg hw h0 h1
  unfold wde
  rw [← cel_cg hw he h0 h1, bgn_cg hw he h0 h1 (Int.le_refl _), siz_cg hw he h0 h1 hc.1 (Int.le_refl _)]
theorem alw_cg (hw : WR r) (he : Eqv r q) : alw r = alw q := by
  unfold alw
  rw [← he.1]
  exact sm_cong (fun i a b => wde_cg hw he a b)
end EQV
/-- within a block first and last are the same for all its lines -/
theorem blk_same {r : Int → Int} {l k i : Int} (h0 : 0 ≤ l) (h1 : l < r 0) (hk : k < cel r l) (hi : fl r l k ≤ i) (hj : i ≤ la r l k) : fl r i k = fl r l k ∧ la r i k = la r l k := by
  obtain ⟨a1, a2, a3, a4⟩ := fir_spec (cel r) k h0
  obtain ⟨b1, b2, b3, b4⟩ := las_spec (cel r) k h1
  have hi2 : fir (cel r) k l ≤ i := hi
  have hj2 : i ≤ las (cel r) (r 0) k l := hj
  refine ⟨fir_uniq a1 hi2 (fun j c d => ?_) a4, las_uniq hj2 b2 (fun j c d => ?_) b4⟩
  · exact (blk_in h0 h1 hk c (show j ≤ la r l k by unfold la; omega)).2.2
  · exact (blk_in h0 h1 hk (show fl r l k ≤ j by unfold fl; omega) d).2.2
theorem wid_same {r : Int → Int} {l k i : Int} (h0 : 0 ≤ l) (h1 : l < r 0) (hk : k < cel r l) (hi : fl r l k ≤ i) (hj : i ≤ la r l k) : wid r i k = wid r l k ∧ ∀ w, mst r i k w = mst r l k w := by
  obtain ⟨e1, e2⟩ := blk_same h0 h1 hk hi hj
  have em : ∀ w, mst r i k w = mst r l k w := fun w => by unfold mst; rw [e1, e2]
  refine ⟨?_, em⟩
  unfold wid ned
  rw [em, em, em]
