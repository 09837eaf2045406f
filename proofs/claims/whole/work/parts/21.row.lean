/-! ===== a page as one row of numbers, and what is asked of it ===== -/
def ln (r : Int → Int) (l : Int) : Int → Int := fun i => r ((15 + (24 * l)) + i)
def cel (r : Int → Int) (l : Int) : Int := cT (ln r l) (r (3 + l))
def beg (r : Int → Int) (l k : Int) : Int := frm (ln r l) (r (3 + l)) k
def en (r : Int → Int) (l k : Int) : Int := fi (ln r l) 124 (r (3 + l)) (beg r l k)
def siz (r : Int → Int) (l k : Int) : Int := en r l k - beg r l k
def ahd (r : Int → Int) (l k : Int) : Int := fi (ln r l) 46 (en r l k) (beg r l k) - beg r l k
def fl (r : Int → Int) (l k : Int) : Int := fir (cel r) k l
def la (r : Int → Int) (l k : Int) : Int := las (cel r) (r 0) k l
def gm (r : Int → Int) (k w : Int) : Int → Int := fun i => if w = 0 then siz r i k else if w = 1 then ahd r i k else siz r i k - ahd r i k
def mst (r : Int → Int) (l k w : Int) : Int := mxr (gm r k w) (fl r l k) (la r l k + 1)
def ned (r : Int → Int) (l k : Int) : Int := if r (303 + k) = 3 then mst r l k 1 + mst r l k 2 else mst r l k 0
def wid (r : Int → Int) (l k : Int) : Int := max (ned r l k) (r 2) + r 1
def bgn (r : Int → Int) (l k : Int) : Int := sm (wid r l) k
def wde (r : Int → Int) (l : Int) : Int := bgn r l (cel r l) + siz r l (cel r l)
def alw (r : Int → Int) : Int := sm (wde r) (r 0)
/-- a row that can be read -/
def WR (r : Int → Int) : Prop := (0 ≤ r 0 ∧ r 0 ≤ 12) ∧ (∀ l, 0 ≤ l → l < r 0 → 0 ≤ r (3 + l) ∧ r (3 + l) ≤ 24) ∧ (0 ≤ r 1 ∧ r 1 ≤ 4) ∧ (0 ≤ r 2 ∧ r 2 ≤ 9)
section ROW
variable {r : Int → Int} {l k : Int}
theorem cel_rg (hw : WR r) (h0 : 0 ≤ l) (h1 : l < r 0) : 0 ≤ cel r l ∧ cel r l ≤ r (3 + l) ∧ r (3 + l) ≤ 24 := by
  have h := hw.2.1 l h0 h1
  have := cT_rg (ln r l) h.1
  unfold cel
  omega
theorem cell_rg (hw : WR r) (h0 : 0 ≤ l) (h1 : l < r 0) (hk0 : 0 ≤ k) (hk : k ≤ cel r l) : 0 ≤ beg r l k ∧ beg r l k ≤ en r l k ∧ en r l k ≤ r (3 + l) ∧ 0 ≤ siz r l k ∧ siz r l k ≤ 24 ∧ 0 ≤ ahd r l k ∧ ahd r l k ≤ siz r l k := by
  have h := hw.2.1 l h0 h1
  obtain ⟨g1, g2, g3, g4⟩ := frm_spec (ln r l) h.1 hk0 hk
  obtain ⟨e1, e2, e3, e4⟩ := fi_spec (ln r l) 124 g2
  obtain ⟨a1, a2, a3, a4⟩ := fi_spec (ln r l) 46 e1
  have b1 : 0 ≤ beg r l k := g1
  have b2 : beg r l k ≤ en r l k := e1
  have b3 : en r l k ≤ r (3 + l) := e2
  have b4 : beg r l k ≤ fi (ln r l) 46 (en r l k) (beg r l k) := a1
  have b5 : fi (ln r l) 46 (en r l k) (beg r l k) ≤ en r l k := a2
  unfold siz ahd
  omega
/-- a cell's own end is a tab -/
theorem cell_end (hw : WR r) (h0 : 0 ≤ l) (h1 : l < r 0) (hk0 : 0 ≤ k) (hk : k < cel r l) : en r l k < r (3 + l) ∧ ln r l (en r l k) = 124 ∧ beg r l (k + 1) = en r l k + 1 := by
  have h := hw.2.1 l h0 h1
  obtain ⟨g1, g2, g3, g4⟩ := frm_end (ln r l) h.1 hk0 hk
  exact ⟨g2, g3, frm_s _ _ hk0⟩
theorem blk_rg (h0 : 0 ≤ l) (h1 : l < r 0) : 0 ≤ fl r l k ∧ fl r l k ≤ l ∧ l ≤ la r l k ∧ la r l k < r 0 := by
  obtain ⟨a1, a2, -, -⟩ := fir_spec (cel r) k h0
  obtain ⟨b1, b2, -, -⟩ := las_spec (cel r) k h1
  exact ⟨a1, a2, b1, b2⟩
theorem blk_in (h0 : 0 ≤ l) (h1 : l < r 0) (hk : k < cel r l) {i : Int} (hi : fl r l k ≤ i) (hj : i ≤ la r l k) : 0 ≤ i ∧ i < r 0 ∧ k < cel r i := by
  obtain ⟨a1, a2, a3, -⟩ := fir_spec (cel r) k h0
  obtain ⟨b1, b2, b3, -⟩ := las_spec (cel r) k h1
  have hi2 : fir (cel r) k l ≤ i := hi
  have hj2 : i ≤ las (cel r) (r 0) k l := hj
  refine ⟨by omega, by omega, ?_⟩
  rcases Int.lt_trichotomy i l with q | q | q
  · exact a3 i hi2 q
  · rw [q]; exact hk
  · exact b3 i q hj2
theorem gm_rg (hw : WR r) (h0 : 0 ≤ l) (h1 : l < r 0) (hk0 : 0 ≤ k) (hk : k < cel r l) (w : Int) {i : Int} (hi : fl r l k ≤ i) (hj : i ≤ la r l k) : 0 ≤ gm r k w i ∧ gm r k w i ≤ 24 := by
  obtain ⟨g1, g2, g3⟩ := blk_in h0 h1 hk hi hj
  have := cell_rg hw g1 g2 hk0 (by omega : k ≤ cel r i)
  unfold gm
  split
  · omega
  · split <;> omega
theorem mst_rg (hw : WR r) (h0 : 0 ≤ l) (h1 : l < r 0) (hk0 : 0 ≤ k) (hk : k < cel r l) (w : Int) : 0 ≤ mst r l k w ∧ mst r l k w ≤ 24 :=
  mxr_rg (by omega) (fun i hi hj => (gm_rg hw h0 h1 hk0 hk w hi (by omega)).2)
theorem ned_rg (hw : WR r) (h0 : 0 ≤ l) (h1 : l < r 0) (hk0 : 0 ≤ k) (hk : k < cel r l) : 0 ≤ ned r l k ∧ ned r l k ≤ 48 := by
  have a := mst_rg hw h0 h1 hk0 hk 0
  have b := mst_rg hw h0 h1 hk0 hk 1
  have c := mst_rg hw h0 h1 hk0 hk 2
  unfold ned
  split <;> omega
theorem wid_rg (hw : WR r) (h0 : 0 ≤ l) (h1 : l < r 0) (hk0 : 0 ≤ k) (hk : k < cel r l) : 0 ≤ wid r l k ∧ wid r l k ≤ 52 := by
  have a := ned_rg hw h0 h1 hk0 hk
  obtain ⟨-, -, b, c⟩ := hw
  unfold wid
  omega
theorem bgn_rg (hw : WR r) (h0 : 0 ≤ l) (h1 : l < r 0) (hk0 : 0 ≤ k) (hk : k ≤ cel r l) : 0 ≤ bgn r l k ∧ bgn r l k ≤ 1248 := by
  have a := cel_rg hw h0 h1
  have b := sm_rg (g := wid r l) (c := 52) hk0 (fun i h2 h3 => wid_rg hw h0 h1 h2 (by omega))
  unfold bgn
  omega
theorem bgn_s (hk0 : 0 ≤ k) : bgn r l (k + 1) = bgn r l k + wid r l k := sm_s _ hk0
theorem wde_rg (hw : WR r) (h0 : 0 ≤ l) (h1 : l < r 0) : 0 ≤ wde r l ∧ wde r l ≤ 1272 := by
  have a := cel_rg hw h0 h1
  have b := bgn_rg hw h0 h1 a.1 (Int.le_refl _)
  have c := cell_rg hw h0 h1 a.1 (Int.le_refl _)
  unfold wde
  omega
theorem alw_rg (hw : WR r) {n : Int} (h0 : 0 ≤ n) (h1 : n ≤ r 0) : 0 ≤ sm (wde r) n ∧ sm (wde r) n ≤ 15264 := by
  have b := sm_rg (g := wde r) (c := 1272) h0 (fun i h2 h3 => wde_rg hw h2 (by omega))
  have := hw.1
  omega
end ROW
/-! ===== what the Model's readers answer ===== -/
section M7
variable {M : Mm} {a l k : Int} {Q : Int → Mm → Prop}
theorem s7_cellsOf (hw : WR (M a)) (hl : 0 ≤ l) (hl2 : l < M a 0) (hq : Q (cel (M a) l) M) : PX7_cellsOf a l M Q := by
  obtain ⟨w1, w3, -⟩ := hw
  obtain ⟨s1, s2⟩ := w3 l hl hl2
  unfold PX7_cellsOf
  refine lk_II (fun u v => u = cT (ln (M a) l) v ∧ 0 ≤ v ∧ v ≤ M a (3 + l)) (fun _ v => (M a (3 + l) - v).toNat) ?_ ⟨rfl, Int.le_refl 0, s1⟩
  rintro rec u v ⟨rfl, h0, h1⟩ hr
  unfold BX7_cellsOf_4 PX7_signAt
  have hc0 := cT_rg (ln (M a) l) h0
  refine ⟨by omega, fun hc => ?_, fun hc => ⟨by omega, fun ht => ?_, fun ht => ?_⟩⟩
  · have e : v = M a (3 + l) := by omega
    rw [e]
    exact hq
  · exact ⟨by omega, by omega, hr _ _ ⟨(cT_st (ln (M a) l) h0 ht).symm, by omega, by omega⟩ (by omega)⟩
  · exact ⟨by omega, by omega, hr _ _ ⟨by rw [cT_sn (ln (M a) l) h0 ht]; omega, by omega, by omega⟩ (by omega)⟩
theorem s7_fromOf (hw : WR (M a)) (hl : 0 ≤ l) (hl2 : l < M a 0) (hk0 : 0 ≤ k) (hk : k ≤ cel (M a) l) (hq : Q (beg (M a) l k) M) : PX7_fromOf a l k M Q := by
  have hc := cel_rg hw hl hl2
  obtain ⟨w1, w3, -⟩ := hw
  obtain ⟨s1, s2⟩ := w3 l hl hl2
  obtain ⟨g1, g2, g3, g4⟩ := frm_spec (ln (M a) l) s1 hk0 hk
  have b1 : 0 ≤ beg (M a) l k := g1
  have b2 : beg (M a) l k ≤ M a (3 + l) := g2
  have b3 : cT (ln (M a) l) (beg (M a) l k) = k := g3
  have b4 : 0 < k → ln (M a) l (beg (M a) l k - 1) = 124 := g4
  unfold PX7_fromOf
  refine lk_II (fun u v => u = k - cT (ln (M a) l) v ∧ 0 ≤ v ∧ v ≤ beg (M a) l k) (fun _ v => (beg (M a) l k - v).toNat) ?_ ⟨by rw [cT_0]; omega, Int.le_refl 0, b1⟩
  rintro rec u v ⟨rfl, h0, h1⟩ hr
  unfold BX7_fromOf_5 PX7_signAt
  have hc0 := cT_rg (ln (M a) l) h0
  have hm := cT_mono (ln (M a) l) h0 h1
  refine ⟨fun hc1 => ?_, fun hc1 => ?_⟩
  · have e : v = beg (M a) l k := by
      rcases ilg v (beg (M a) l k) with q | q
      · have hkp : 0 < k := by
          rcases ilg 0 k with z | z
          · exact z
          · have z0 : k = 0 := by omega
            have : beg (M a) l k = 0 := by rw [z0]; rfl
            omega
        have t := cT_st (ln (M a) l) (i := beg (M a) l k - 1) (by omega) (b4 hkp)
        rw [show beg (M a) l k - 1 + 1 = beg (M a) l k by omega] at t
        have := cT_mono (ln (M a) l) h0 (show v ≤ beg (M a) l k - 1 by omega)
        omega
      · omega
    rw [e]
    exact hq
  · have hlt : v < beg (M a) l k := by
      rcases ilg v (beg (M a) l k) with q | q
      · exact q
      · have e : v = beg (M a) l k := by omega
        rw [e] at hc1
        omega
    refine ⟨by omega, fun ht => ?_, fun ht => ?_⟩
    · exact ⟨by omega, by omega, hr _ _ ⟨by rw [cT_st (ln (M a) l) h0 ht]; omega, by omega, by omega⟩ (by omega)⟩
    · exact ⟨by omega, by omega, hr _ _ ⟨by rw [cT_sn (ln (M a) l) h0 ht]; omega, by omega, by omega⟩ (by omega)⟩
theorem s7_sizeOf (hw : WR (M a)) (hl : 0 ≤ l) (hl2 : l < M a 0) (hk0 : 0 ≤ k) (hk : k ≤ cel (M a) l) (hq : Q (siz (M a) l k) M) : PX7_sizeOf a l k M Q := by
  have hc := cell_rg hw hl hl2 hk0 hk
  have hs := hw.2.1 l hl hl2
  have hm := hw.1
  unfold PX7_sizeOf
  refine s7_fromOf hw hl hl2 hk0 hk ?_
  refine lk_I (fun v => beg (M a) l k ≤ v ∧ v ≤ M a (3 + l) ∧ fi (ln (M a) l) 124 (M a (3 + l)) v = en (M a) l k) (fun v => (M a (3 + l) - v).toNat) ?_ ⟨Int.le_refl _, by omega, rfl⟩
  rintro rec v ⟨h0, h1, h2⟩ hr
  unfold BX7_sizeOf_10 PX7_signAt
  refine ⟨by omega, fun hc1 => ?_, fun hc1 => ⟨by omega, fun ht => ?_, fun ht => ?_⟩⟩
  · rw [fi_stop (by omega)] at h2
    rw [h2]
    exact ⟨by unfold siz at hc; omega, hq⟩
  · rw [fi_stop (f := ln (M a) l) (fun z => z.2 ht)] at h2
    rw [h2]
    exact ⟨by unfold siz at hc; omega, hq⟩
  · exact ⟨by omega, hr _ ⟨by omega, by omega, by rw [← fi_go (f := ln (M a) l) (by omega) ht]; exact h2⟩ (by omega)⟩
theorem s7_aheadOf (hw : WR (M a)) (hl : 0 ≤ l) (hl2 : l < M a 0) (hk0 : 0 ≤ k) (hk : k ≤ cel (M a) l) (hq : Q (ahd (M a) l k) M) : PX7_aheadOf a l k M Q := by
  have hc := cell_rg hw hl hl2 hk0 hk
  have hs := hw.2.1 l hl hl2
  have hm := hw.1
  have hz : siz (M a) l k = en (M a) l k - beg (M a) l k := rfl
  unfold PX7_aheadOf
  refine s7_fromOf hw hl hl2 hk0 hk ?_
  refine s7_sizeOf hw hl hl2 hk0 hk ?_
  refine lk_I (fun v => 0 ≤ v ∧ v ≤ siz (M a) l k ∧ fi (ln (M a) l) 46 (en (M a) l k) (beg (M a) l k + v) - beg (M a) l k = ahd (M a) l k) (fun v => (siz (M a) l k - v).toNat) ?_ ⟨Int.le_refl _, by omega, by rw [show beg (M a) l k + 0 = beg (M a) l k by omega]; rfl⟩
  rintro rec v ⟨h0, h1, h2⟩ hr
  unfold BX7_aheadOf_18 PX7_signAt
  refine ⟨fun hc1 => ?_, fun hc1 => ⟨by omega, by omega, fun ht => ?_, fun ht => ?_⟩⟩
  · rw [fi_stop (by omega)] at h2
    rw [show v = ahd (M a) l k by omega]
    exact hq
  · rw [fi_stop (f := ln (M a) l) (fun z => z.2 ht)] at h2
    rw [show v = ahd (M a) l k by omega]
    exact hq
  · exact ⟨by omega, hr _ ⟨by omega, by omega, by rw [show beg (M a) l k + (v + 1) = beg (M a) l k + v + 1 by omega, ← fi_go (f := ln (M a) l) (by omega) ht]; exact h2⟩ (by omega)⟩
theorem s7_firstOf (hw : WR (M a)) (hl : 0 ≤ l) (hl2 : l < M a 0) (hq : Q (fl (M a) l k) M) : PX7_firstOf a l k M Q := by
  have hm := hw.1
  unfold PX7_firstOf
  refine lk_I (fun v => 0 ≤ v ∧ v ≤ l ∧ fir (cel (M a)) k v = fl (M a) l k) (fun v => v.toNat) ?_ ⟨hl, Int.le_refl _, rfl⟩
  rintro rec v ⟨h0, h1, h2⟩ hr
  unfold BX7_firstOf_2
  refine ⟨fun hc => ?_, fun hc => ⟨by omega, s7_cellsOf hw (by omega) (by omega) ⟨fun ht => ?_, fun ht => ?_⟩⟩⟩
  · have e : v = 0 := by omega
    rw [e, fir_0] at h2
    rw [e, h2]
    exact hq
  · rw [fir_s (by omega), if_neg (by omega)] at h2
    rw [h2]
    exact hq
  · exact ⟨by omega, hr _ ⟨by omega, by omega, by rw [fir_s (by omega), if_pos (by omega)] at h2; exact h2⟩ (by omega)⟩
theorem s7_lastOf (hw : WR (M a)) (hl : 0 ≤ l) (hl2 : l < M a 0) (hq : Q (la (M a) l k) M) : PX7_lastOf a l k M Q := by
  have hm := hw.1
  unfold PX7_lastOf
  refine lk_I (fun v => l ≤ v ∧ v < M a 0 ∧ las (cel (M a)) (M a 0) k v = la (M a) l k) (fun v => (M a 0 - v).toNat) ?_ ⟨Int.le_refl _, hl2, rfl⟩
  rintro rec v ⟨h0, h1, h2⟩ hr
  unfold BX7_lastOf_2
  refine ⟨by omega, fun hc => ?_, fun hc => ⟨by omega, s7_cellsOf hw (by omega) (by omega) ⟨fun ht => ?_, fun ht => ?_⟩⟩⟩
  · rw [las_stop (by omega)] at h2
    rw [h2]
    exact hq
  · rw [las_stop (by omega)] at h2
    rw [h2]
    exact hq
  · exact ⟨by omega, hr _ ⟨by omega, by omega, by rw [← las_go (by omega) (by omega)]; exact h2⟩ (by omega)⟩
theorem s7_mostOf (hw : WR (M a)) (hl : 0 ≤ l) (hl2 : l < M a 0) (hk0 : 0 ≤ k) (hk : k < cel (M a) l) {w : Int} (hq : Q (mst (M a) l k w) M) : PX7_mostOf a l k w M Q := by
  have hm := hw.1
  have hb := blk_rg (r := M a) (k := k) hl hl2
  unfold PX7_mostOf
  refine s7_lastOf hw hl hl2 (s7_firstOf hw hl hl2 ?_)
  refine lk_II (fun u v => u = mxr (gm (M a) k w) (fl (M a) l k) v ∧ fl (M a) l k ≤ v ∧ v ≤ la (M a) l k + 1) (fun _ v => (la (M a) l k + 1 - v).toNat) ?_ ⟨(mxr_0 _ (Int.le_refl _)).symm, Int.le_refl _, by omega⟩
  rintro rec u v ⟨rfl, h0, h1⟩ hr
  unfold BX7_mostOf_19
  refine ⟨fun hc => ?_, fun hc => ?_⟩
  · have e : v = la (M a) l k + 1 := by omega
    rw [e]
    exact hq
  · obtain ⟨i1, i2, i3⟩ := blk_in hl hl2 hk h0 (by omega)
    have hcr := cell_rg hw i1 i2 hk0 (by omega : k ≤ cel (M a) v)
    have hs := mxr_s (gm (M a) k w) h0
    refine s7_sizeOf hw i1 i2 hk0 (by omega) ⟨fun hw0 => ?_, fun hw0 => ⟨fun hw1 => ?_, fun hw1 => ?_⟩⟩
    · have hg : gm (M a) k w v = siz (M a) v k := by unfold gm; rw [if_pos hw0]
      refine ⟨fun hz => ⟨by omega, hr _ _ ⟨by omega, by omega, by omega⟩ (by omega)⟩, fun hz => ⟨by omega, hr _ _ ⟨by omega, by omega, by omega⟩ (by omega)⟩⟩
    · have hg : gm (M a) k w v = ahd (M a) v k := by unfold gm; rw [if_neg hw0, if_pos hw1]
      refine s7_aheadOf hw i1 i2 hk0 (by omega) ⟨fun hz => ⟨by omega, hr _ _ ⟨by omega, by omega, by omega⟩ (by omega)⟩, fun hz => ⟨by omega, hr _ _ ⟨by omega, by omega, by omega⟩ (by omega)⟩⟩
    · have hg : gm (M a) k w v = siz (M a) v k - ahd (M a) v k := by unfold gm; rw [if_neg hw0, if_neg hw1]
      refine s7_aheadOf hw i1 i2 hk0 (by omega) ⟨by omega, fun hz => ⟨by omega, hr _ _ ⟨by omega, by omega, by omega⟩ (by omega)⟩, fun hz => ⟨by omega, hr _ _ ⟨by omega, by omega, by omega⟩ (by omega)⟩⟩
theorem s7_needOf (hw : WR (M a)) (hl : 0 ≤ l) (hl2 : l < M a 0) (hk0 : 0 ≤ k) (hk : k < cel (M a) l) (hq : Q (ned (M a) l k) M) : PX7_needOf a l k M Q := by
  have hc := cel_rg hw hl hl2
  have m1 := mst_rg hw hl hl2 hk0 hk 1
  have m2 := mst_rg hw hl hl2 hk0 hk 2
  unfold PX7_needOf
  refine ⟨by omega, fun hp => s7_mostOf hw hl hl2 hk0 hk (s7_mostOf hw hl hl2 hk0 hk ⟨by omega, ?_⟩), fun hp => s7_mostOf hw hl hl2 hk0 hk ?_⟩
  · unfold ned at hq
    rw [if_pos hp] at hq
    exact hq
  · unfold ned at hq
    rw [if_neg hp] at hq
    exact hq
theorem s7_widthOf (hw : WR (M a)) (hl : 0 ≤ l) (hl2 : l < M a 0) (hk0 : 0 ≤ k) (hk : k < cel (M a) l) (hq : Q (wid (M a) l k) M) : PX7_widthOf a l k M Q := by
  have hn := ned_rg hw hl hl2 hk0 hk
  obtain ⟨-, -, p1, p2⟩ := id hw
  unfold PX7_widthOf
  refine s7_needOf hw hl hl2 hk0 hk ⟨fun h => ⟨by omega, ?_⟩, fun h => ⟨by omega, ?_⟩⟩
  · have e : wid (M a) l k = ned (M a) l k + M a 1 := by unfold wid; omega
    rw [← e]
    exact hq
  · have e : wid (M a) l k = M a 2 + M a 1 := by unfold wid; omega
    rw [← e]
    exact hq
theorem s7_beginsOf (hw : WR (M a)) (hl : 0 ≤ l) (hl2 : l < M a 0) (hk0 : 0 ≤ k) (hk : k ≤ cel (M a) l) (hq : Q (bgn (M a) l k) M) : PX7_beginsOf a l k M Q := by
  have hc := cel_rg hw hl hl2
  unfold PX7_beginsOf
  refine lk_II (fun u v => u = bgn (M a) l v ∧ 0 ≤ v ∧ v ≤ k) (fun _ v => (k - v).toNat) ?_ ⟨rfl, Int.le_refl _, hk0⟩
  rintro rec u v ⟨rfl, h0, h1⟩ hr
  unfold BX7_beginsOf_5
  refine ⟨fun hc1 => ?_, fun hc1 => s7_widthOf hw hl hl2 h0 (by omega) ?_⟩
  · rw [show v = k by omega]
    exact hq
  · have b1 := bgn_rg hw hl hl2 h0 (by omega : v ≤ cel (M a) l)
    have b2 := wid_rg hw hl hl2 h0 (by omega : v < cel (M a) l)
    exact ⟨by omega, by omega, hr _ _ ⟨(bgn_s h0).symm, by omega, by omega⟩ (by omega)⟩
theorem s7_wideOf (hw : WR (M a)) (hl : 0 ≤ l) (hl2 : l < M a 0) (hq : Q (wde (M a) l) M) : PX7_wideOf a l M Q := by
  have hc := cel_rg hw hl hl2
  have hr := wde_rg hw hl hl2
  unfold PX7_wideOf
  refine s7_cellsOf hw hl hl2 (s7_beginsOf hw hl hl2 hc.1 (Int.le_refl _) (s7_sizeOf hw hl hl2 hc.1 (Int.le_refl _) ⟨?_, hq⟩))
  have e : wde (M a) l = bgn (M a) l (cel (M a) l) + siz (M a) l (cel (M a) l) := rfl
  omega
theorem s7_allWide (hw : WR (M a)) (hq : Q (alw (M a)) M) : PX7_allWide a M Q := by
  have hm := hw.1
  unfold PX7_allWide
  refine lk_II (fun u v => u = sm (wde (M a)) v ∧ 0 ≤ v ∧ v ≤ M a 0) (fun _ v => (M a 0 - v).toNat) ?_ ⟨rfl, Int.le_refl _, hm.1⟩
  rintro rec u v ⟨rfl, h0, h1⟩ hr
  unfold BX7_allWide_4
  refine ⟨fun hc => ?_, fun hc => s7_wideOf hw h0 (by omega) ?_⟩
  · rw [show v = M a 0 by omega]
    exact hq
  · have b1 := alw_rg hw h0 h1
    have b2 := wde_rg hw h0 (by omega : v < M a 0)
    exact ⟨by omega, by omega, hr _ _ ⟨(sm_s _ h0).symm, by omega, by omega⟩ (by omega)⟩
end M7
