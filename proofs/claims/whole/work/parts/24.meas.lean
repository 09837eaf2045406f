section BLKS
variable {M : Mm} {lb pg l k : Int} {r : Int → Int}
theorem s2_first {Q : Int → Mm → Prop} (hn : r 0 ≤ 12) (hc : ∀ i, 0 ≤ i → i < r 0 → M (lb + 1) i = cel r i) (hl : 0 ≤ l) (hl2 : l < r 0) (hq : Q (fl r l k) M) : PX2_firstOfBlock lb l k M Q := by
  unfold PX2_firstOfBlock
  refine lk_I (fun v => 0 ≤ v ∧ v ≤ l ∧ fir (cel r) k v = fl r l k) (fun v => v.toNat) ?_ ⟨hl, Int.le_refl _, rfl⟩
  rintro rec v ⟨h0, h1, h2⟩ hr
  unfold BX2_firstOfBlock_2
  refine ⟨fun hx => ?_, fun hx => ⟨by omega, ?_⟩⟩
  · have e : v = 0 := by omega
    rw [e, fir_0] at h2
    rw [e, h2]
    exact hq
  · rw [hc (v - 1) (by omega) (by omega)]
    refine ⟨fun ht => ?_, fun ht => ⟨by omega, hr _ ⟨by omega, by omega, ?_⟩ (by omega)⟩⟩
    · rw [fir_s (by omega), if_neg (by omega)] at h2
      rw [h2]
      exact hq
    · rw [fir_s (by omega), if_pos (by omega)] at h2
      exact h2
theorem s2_last {Q : Int → Mm → Prop} (hn : r 0 ≤ 12) (h8 : M lb 8 = r 0) (hc : ∀ i, 0 ≤ i → i < r 0 → M (lb + 1) i = cel r i) (hl : 0 ≤ l) (hl2 : l < r 0) (hq : Q (la r l k) M) : PX2_lastOfBlock lb l k M Q := by
  unfold PX2_lastOfBlock
  refine lk_I (fun v => l ≤ v ∧ v < r 0 ∧ las (cel r) (r 0) k v = la r l k) (fun v => (r 0 - v).toNat) ?_ ⟨Int.le_refl _, hl2, rfl⟩
  rintro rec v ⟨h0, h1, h2⟩ hr
  unfold BX2_lastOfBlock_2
  rw [h8]
  refine ⟨by omega, fun hx => ?_, fun hx => ⟨by omega, ?_⟩⟩
  · rw [las_stop (by omega)] at h2
    rw [h2]
    exact hq
  · rw [hc (v + 1) (by omega) (by omega)]
    refine ⟨fun ht => ?_, fun ht => ⟨by omega, hr _ ⟨by omega, by omega, ?_⟩ (by omega)⟩⟩
    · rw [las_stop (by omega)] at h2
      rw [h2]
      exact hq
    · rw [← las_go (by omega) (by omega)]
      exact h2
end BLKS
/-- a block measured with one sign fewer in the cell of line sh -/
def szs (r : Int → Int) (k sh : Int) : Int → Int := fun i => if i = sh then siz r i k - 1 else siz r i k
def ahs (r : Int → Int) (k sh : Int) : Int → Int := fun i => min (ahd r i k) (szs r k sh i)
def bhs (r : Int → Int) (k sh : Int) : Int → Int := fun i => szs r k sh i - ahs r k sh i
def mS (r : Int → Int) (l k sh : Int) : Int := mxr (szs r k sh) (fl r l k) (la r l k + 1)
def mA (r : Int → Int) (l k sh : Int) : Int := mxr (ahs r k sh) (fl r l k) (la r l k + 1)
def mB (r : Int → Int) (l k sh : Int) : Int := mxr (bhs r k sh) (fl r l k) (la r l k + 1)
def nds (r : Int → Int) (l k sh : Int) : Int := if r (303 + k) = 3 then mA r l k sh + mB r l k sh else mS r l k sh
def wds (r : Int → Int) (l k sh : Int) : Int := max (nds r l k sh) (r 2) + r 1
section MEAS
variable {r : Int → Int} {l k sh : Int}
theorem szs_rg (hw : WR r) (h0 : 0 ≤ l) (h1 : l < r 0) (hk0 : 0 ≤ k) (hk : k < cel r l) (hsh : ∀ i, fl r l k ≤ i → i ≤ la r l k → i = sh → 1 ≤ siz r i k) {i : Int} (hi : fl r l k ≤ i) (hj : i ≤ la r l k) : 0 ≤ szs r k sh i ∧ szs r k sh i ≤ 24 ∧ 0 ≤ ahs r k sh i ∧ ahs r k sh i ≤ 24 ∧ 0 ≤ bhs r k sh i ∧ bhs r k sh i ≤ 24 := by
  obtain ⟨g1, g2, g3⟩ := blk_in h0 h1 hk hi hj
  have hc := cell_rg hw g1 g2 hk0 (by omega : k ≤ cel r i)
  have hz := hsh i hi hj
  unfold bhs ahs szs
  split
  · have := hz (by assumption)
    omega
  · omega
theorem ms_rg (hw : WR r) (h0 : 0 ≤ l) (h1 : l < r 0) (hk0 : 0 ≤ k) (hk : k < cel r l) (hsh : ∀ i, fl r l k ≤ i → i ≤ la r l k → i = sh → 1 ≤ siz r i k) : (0 ≤ mS r l k sh ∧ mS r l k sh ≤ 24) ∧ (0 ≤ mA r l k sh ∧ mA r l k sh ≤ 24) ∧ (0 ≤ mB r l k sh ∧ mB r l k sh ≤ 24) :=
  ⟨mxr_rg (by omega) (fun i a b => (szs_rg hw h0 h1 hk0 hk hsh a (by omega)).2.1), mxr_rg (by omega) (fun i a b => (szs_rg hw h0 h1 hk0 hk hsh a (by omega)).2.2.2.1), mxr_rg (by omega) (fun i a b => (szs_rg hw h0 h1 hk0 hk hsh a (by omega)).2.2.2.2.2)⟩
/-- with no line shortened they are the block's own -/
theorem ms_own (hw : WR r) (h0 : 0 ≤ l) (h1 : l < r 0) (hk0 : 0 ≤ k) (hk : k < cel r l) (hsh : sh < 0) : mS r l k sh = mst r l k 0 ∧ mA r l k sh = mst r l k 1 ∧ mB r l k sh = mst r l k 2 ∧ nds r l k sh = ned r l k ∧ wds r l k sh = wid r l k := by
  have hb := blk_rg (r := r) (k := k) h0 h1
  have e : ∀ i, fl r l k ≤ i → i < la r l k + 1 → szs r k sh i = gm r k 0 i ∧ ahs r k sh i = gm r k 1 i ∧ bhs r k sh i = gm r k 2 i := by
    intro i a b
    obtain ⟨g1, g2, g3⟩ := blk_in h0 h1 hk a (by omega)
    have hc := cell_rg hw g1 g2 hk0 (by omega : k ≤ cel r i)
    have es : szs r k sh i = siz r i k := by unfold szs; rw [if_neg (by omega)]
    have ea : ahs r k sh i = ahd r i k := by unfold ahs; rw [es]; omega
    refine ⟨?_, ?_, ?_⟩
    · rw [es]; rfl
    · rw [ea]; rfl
    · unfold bhs; rw [es, ea]; rfl
  have e0 : mS r l k sh = mst r l k 0 := mxr_cong (fun i a b => (e i a b).1)
  have e1 : mA r l k sh = mst r l k 1 := mxr_cong (fun i a b => (e i a b).2.1)
  have e2 : mB r l k sh = mst r l k 2 := mxr_cong (fun i a b => (e i a b).2.2)
  have e3 : nds r l k sh = ned r l k := by unfold nds ned; rw [e0, e1, e2]
  exact ⟨e0, e1, e2, e3, by unfold wds wid; rw [e3]⟩
theorem s2_measure {M : Mm} {lb pg : Int} {Q : Mm → Prop} (hr : vw M pg = r) (hw : WR r) (hd : pg + 3 < lb ∨ lb + 11 < pg) (h8 : M lb 8 = r 0) (hc : ∀ i, 0 ≤ i → i < r 0 → LC lb r M i) (h0 : 0 ≤ l) (h1 : l < r 0) (hk0 : 0 ≤ k) (hk : k < cel r l) (hsh : ∀ i, fl r l k ≤ i → i ≤ la r l k → i = sh → 1 ≤ siz r i k)
    (hq : ∀ M2 : Mm, (∀ a, a ≠ lb + 8 → M2 a = M a) → M2 (lb + 8) 0 = fl r l k → M2 (lb + 8) 1 = la r l k → M2 (lb + 8) 2 = mA r l k sh → M2 (lb + 8) 3 = nds r l k sh → M2 (lb + 8) 4 = wds r l k sh → Q M2) : PX2_measure lb pg l k sh M Q := by
  have hm := hw.1
  have hp := hw.2.2
  have hcl := cel_rg hw h0 h1
  have hb := blk_rg (r := r) (k := k) h0 h1
  have hms := ms_rg hw h0 h1 hk0 hk hsh
  have ea : r (303 + k) = M (pg + 3) k := by rw [← hr]; exact vw_al M pg hk0
  have e1 : r 1 = M pg 1 := by rw [← hr]; rfl
  have e2 : r 2 = M pg 2 := by rw [← hr]; rfl
  unfold PX2_measure
  refine s2_first hm.2 (fun i a b => (hc i a b).1) h0 h1 ?_
  rintro M3 rfl
  refine s2_last hm.2 (by rw [um_r _ (by omega)]; exact h8) (fun i a b => by rw [um_r _ (by omega)]; exact (hc i a b).1) h0 h1 ?_
  rintro M6 rfl
  generalize hM6 : um (um M (lb + 8) 0 (fl r l k)) (lb + 8) 1 (la r l k) = M6
  have f6 : ∀ a, a ≠ lb + 8 → M6 a = M a := fun a ha => by rw [← hM6, um_ne _ _ _ ha, um_ne _ _ _ ha]
  have g60 : M6 (lb + 8) 0 = fl r l k := by rw [← hM6, um_r _ (by omega), um_w]
  have g61 : M6 (lb + 8) 1 = la r l k := by rw [← hM6, um_w]
  refine lk_IIII (fun v5 v6 v7 v8 => v5 = mxr (szs r k sh) (fl r l k) v8 ∧ v6 = mxr (ahs r k sh) (fl r l k) v8 ∧ v7 = mxr (bhs r k sh) (fl r l k) v8 ∧ fl r l k ≤ v8 ∧ v8 ≤ la r l k + 1) (fun _ _ _ v8 => (la r l k + 1 - v8).toNat) ?_ ⟨by rw [g60, mxr_0 _ (Int.le_refl _)], by rw [g60, mxr_0 _ (Int.le_refl _)], by rw [g60, mxr_0 _ (Int.le_refl _)], by omega, by omega⟩
  rintro rec v5 v6 v7 v8 ⟨rfl, rfl, rfl, i0, i1⟩ hrec
  unfold BX2_measure_44
  rw [g61]
  refine ⟨fun hx => ?_, fun hx => ?_⟩
  · have e8 : v8 = la r l k + 1 := by omega
    subst e8
    rintro M24 rfl
    have g24 : um M6 (lb + 8) 2 (mxr (ahs r k sh) (fl r l k) (la r l k + 1)) (pg + 3) k = r (303 + k) := by rw [um_r _ (by omega), f6 _ (by omega)]; exact ea.symm
    rw [g24]
    refine ⟨by omega, fun h3 => ?_, fun h3 => ?_⟩
    · have en3 : nds r l k sh = mxr (ahs r k sh) (fl r l k) (la r l k + 1) + mxr (bhs r k sh) (fl r l k) (la r l k + 1) := by unfold nds mA mB; rw [if_pos h3]
      have eA : mA r l k sh = mxr (ahs r k sh) (fl r l k) (la r l k + 1) := rfl
      have eB : mB r l k sh = mxr (bhs r k sh) (fl r l k) (la r l k + 1) := rfl
      refine ⟨by omega, ?_⟩
      rintro M33 rfl
      have ew : (max (um (um M6 (lb + 8) 2 (mxr (ahs r k sh) (fl r l k) (la r l k + 1))) (lb + 8) 3 (mxr (ahs r k sh) (fl r l k) (la r l k + 1) + mxr (bhs r k sh) (fl r l k) (la r l k + 1)) (lb + 8) 3) (um (um M6 (lb + 8) 2 (mxr (ahs r k sh) (fl r l k) (la r l k + 1))) (lb + 8) 3 (mxr (ahs r k sh) (fl r l k) (la r l k + 1) + mxr (bhs r k sh) (fl r l k) (la r l k + 1)) pg 2)) + (um (um M6 (lb + 8) 2 (mxr (ahs r k sh) (fl r l k) (la r l k + 1))) (lb + 8) 3 (mxr (ahs r k sh) (fl r l k) (la r l k + 1) + mxr (bhs r k sh) (fl r l k) (la r l k + 1)) pg 1) = wds r l k sh := by
        rw [um_w, um_r _ (by omega), um_r _ (by omega), um_r _ (by omega), um_r _ (by omega), f6 pg (by omega), ← e1, ← e2]
        unfold wds
        rw [en3]
      rw [ew]
      have hwd : 0 ≤ wds r l k sh ∧ wds r l k sh ≤ 52 := by unfold wds; omega
      refine ⟨by omega, ?_⟩
      rintro M38 rfl
      refine hq _ (fun a ha => ?_) ?_ ?_ ?_ ?_ ?_
      · rw [um_ne _ _ _ ha, um_ne _ _ _ ha, um_ne _ _ _ ha, f6 a ha]
      · rw [um_r _ (by omega), um_r _ (by omega), um_r _ (by omega), g60]
      · rw [um_r _ (by omega), um_r _ (by omega), um_r _ (by omega), g61]
      · rw [um_r _ (by omega), um_r _ (by omega), um_w]
        rfl
      · rw [um_r _ (by omega), um_w, en3]
      · rw [um_w]
    · have en3 : nds r l k sh = mxr (szs r k sh) (fl r l k) (la r l k + 1) := by unfold nds mS; rw [if_neg h3]
      have eS : mS r l k sh = mxr (szs r k sh) (fl r l k) (la r l k + 1) := rfl
      rintro M33 rfl
      have ew : (max (um (um M6 (lb + 8) 2 (mxr (ahs r k sh) (fl r l k) (la r l k + 1))) (lb + 8) 3 (mxr (szs r k sh) (fl r l k) (la r l k + 1)) (lb + 8) 3) (um (um M6 (lb + 8) 2 (mxr (ahs r k sh) (fl r l k) (la r l k + 1))) (lb + 8) 3 (mxr (szs r k sh) (fl r l k) (la r l k + 1)) pg 2)) + (um (um M6 (lb + 8) 2 (mxr (ahs r k sh) (fl r l k) (la r l k + 1))) (lb + 8) 3 (mxr (szs r k sh) (fl r l k) (la r l k + 1)) pg 1) = wds r l k sh := by
        rw [um_w, um_r _ (by omega), um_r _ (by omega), um_r _ (by omega), um_r _ (by omega), f6 pg (by omega), ← e1, ← e2]
        unfold wds
        rw [en3]
      rw [ew]
      have hwd : 0 ≤ wds r l k sh ∧ wds r l k sh ≤ 52 := by unfold wds; omega
      refine ⟨by omega, ?_⟩
      rintro M38 rfl
      refine hq _ (fun a ha => ?_) ?_ ?_ ?_ ?_ ?_
      · rw [um_ne _ _ _ ha, um_ne _ _ _ ha, um_ne _ _ _ ha, f6 a ha]
      · rw [um_r _ (by omega), um_r _ (by omega), um_r _ (by omega), g60]
      · rw [um_r _ (by omega), um_r _ (by omega), um_r _ (by omega), g61]
      · rw [um_r _ (by omega), um_r _ (by omega), um_w]
        rfl
      · rw [um_r _ (by omega), um_w, en3]
      · rw [um_w]
  · obtain ⟨b1, b2, b3⟩ := blk_in h0 h1 hk i0 (by omega)
    have hcc := cel_rg hw b1 b2
    obtain ⟨-, -, hcv⟩ := hc v8 b1 b2
    obtain ⟨-, c2, c3⟩ := hcv k hk0 b3
    have hsr := szs_rg hw h0 h1 hk0 hk hsh i0 (by omega : v8 ≤ la r l k)
    have m5 := mxr_s (szs r k sh) i0
    have m6 := mxr_s (ahs r k sh) i0
    have m7 := mxr_s (bhs r k sh) i0
    rw [f6 (lb + 5) (by omega), f6 (lb + 10) (by omega), c2, c3]
    refine ⟨fun hv => ?_, fun hv => ?_⟩
    · have es : szs r k sh v8 = siz r v8 k - 1 := by unfold szs; rw [if_pos hv]
      have eh : ahs r k sh v8 = min (ahd r v8 k) (siz r v8 k - 1) := by unfold ahs; rw [es]
      have eb : bhs r k sh v8 = siz r v8 k - 1 - min (ahd r v8 k) (siz r v8 k - 1) := by unfold bhs; rw [es, eh]
      rw [es, eh, eb] at hsr
      rw [es] at m5
      rw [eh] at m6
      rw [eb] at m7
      exact ⟨by omega, by omega, by omega, by omega, by omega, hrec _ _ _ _ ⟨m5.symm, m6.symm, m7.symm, by omega, by omega⟩ (by omega)⟩
    · have es : szs r k sh v8 = siz r v8 k := by unfold szs; rw [if_neg hv]
      have eh : ahs r k sh v8 = min (ahd r v8 k) (siz r v8 k) := by unfold ahs; rw [es]
      have eb : bhs r k sh v8 = siz r v8 k - min (ahd r v8 k) (siz r v8 k) := by unfold bhs; rw [es, eh]
      rw [es, eh, eb] at hsr
      rw [es] at m5
      rw [eh] at m6
      rw [eb] at m7
      exact ⟨by omega, by omega, by omega, by omega, hrec _ _ _ _ ⟨m5.symm, m6.symm, m7.symm, by omega, by omega⟩ (by omega)⟩
end MEAS
theorem s2_spread {M : Mm} {lb k f la1 wv av : Int} {Q : Mm → Prop} (h0 : M (lb + 8) 0 = f) (h1 : M (lb + 8) 1 = la1) (h2 : M (lb + 8) 2 = av) (h4 : M (lb + 8) 4 = wv) (hf : 0 ≤ f) (hfl : f ≤ la1) (hl : la1 < 12) (hk0 : 0 ≤ k) (hk : k < 24)
    (hq : ∀ M2 : Mm, (∀ a, a ≠ lb + 6 → a ≠ lb + 11 → M2 a = M a) → (∀ j, (∀ i, f ≤ i → i ≤ la1 → j ≠ (i * 24) + k) → M2 (lb + 6) j = M (lb + 6) j ∧ M2 (lb + 11) j = M (lb + 11) j) → (∀ i, f ≤ i → i ≤ la1 → M2 (lb + 6) ((i * 24) + k) = wv ∧ M2 (lb + 11) ((i * 24) + k) = av) → Q M2) : PX2_spreadBlock lb k M Q := by
  unfold PX2_spreadBlock
  refine lr_I (fun v M2 => f ≤ v ∧ v ≤ la1 + 1 ∧ (∀ a, a ≠ lb + 6 → a ≠ lb + 11 → M2 a = M a) ∧ (∀ j, (∀ i, f ≤ i → i ≤ la1 → j ≠ (i * 24) + k) → M2 (lb + 6) j = M (lb + 6) j ∧ M2 (lb + 11) j = M (lb + 11) j) ∧ (∀ i, f ≤ i → i < v → M2 (lb + 6) ((i * 24) + k) = wv ∧ M2 (lb + 11) ((i * 24) + k) = av)) (fun v _ => (la1 + 1 - v).toNat) ?_ ⟨by omega, by omega, fun _ _ _ => rfl, fun _ _ => ⟨rfl, rfl⟩, fun i a b => by omega⟩
  rintro rec v M2 ⟨g0, g1, fr, fo, fk⟩ hrec
  unfold BX2_spreadBlock_8
  rw [fr (lb + 8) (by omega) (by omega), h1, h4]
  refine ⟨fun hx => hq M2 fr fo (fun i a b => fk i a (by omega)), fun hx => ⟨by omega, ?_⟩⟩
  rintro M5 rfl
  rw [show um M2 (lb + 6) ((v * 24) + k) wv (lb + 8) 2 = av by rw [um_r _ (by omega), fr (lb + 8) (by omega) (by omega), h2]]
  refine ⟨by omega, ?_⟩
  rintro M8 rfl
  refine ⟨by omega, hrec _ _ ⟨by omega, by omega, fun a b1 b2 => ?_, fun j hj => ?_, fun i a b => ?_⟩ (by omega)⟩
  · rw [um_ne _ _ _ b2, um_ne _ _ _ b1, fr a b1 b2]
  · have := hj v g0 (by omega)
    rw [um_r _ (by omega), um_r _ (by omega), um_r _ (by omega), um_r _ (by omega)]
    exact fo j hj
  · by_cases hi : i = v
    · subst hi
      rw [um_r _ (by omega), um_w, um_w]
      exact ⟨rfl, rfl⟩
    · rw [um_r _ (by omega), um_r _ (by omega), um_r _ (by omega), um_r _ (by omega)]
      exact fk i a (by omega)
