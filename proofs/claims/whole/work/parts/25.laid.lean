def pv (r : Int → Int) (i : Int) : Int := if i = 0 then 0 else cel r (i - 1)
def bks (r : Int → Int) (n : Int) : Int := sm (fun i => max 0 (cel r i - pv r i)) n
/-- a layout that is laid for a page -/
def Laid (lb : Int) (r : Int → Int) (M : Mm) : Prop := M lb 0 = bks r (r 0) ∧ M lb 8 = r 0 ∧ ∀ l, 0 ≤ l → l < r 0 → LC lb r M l ∧ M (lb + 3) l = bgn r l (cel r l) ∧ M (lb + 4) l = wde r l ∧ ∀ k, 0 ≤ k → k < cel r l → M (lb + 6) ((l * 24) + k) = wid r l k ∧ M (lb + 11) ((l * 24) + k) = mst r l k 1 ∧ M (lb + 7) ((l * 24) + k) = bgn r l k
theorem LC.keep {lb l : Int} {r : Int → Int} {M M2 : Mm} (h : LC lb r M l) (h1 : M2 (lb + 1) = M (lb + 1)) (h2 : M2 (lb + 2) = M (lb + 2)) (h5 : M2 (lb + 5) = M (lb + 5)) (h9 : M2 (lb + 9) = M (lb + 9)) (h10 : M2 (lb + 10) = M (lb + 10)) : LC lb r M2 l := by
  unfold LC
  rw [h1, h2, h5, h9, h10]
  exact h
theorem Laid.keep {lb : Int} {r : Int → Int} {M M2 : Mm} (h : Laid lb r M) (hf : ∀ a, lb ≤ a → a ≤ lb + 11 → a ≠ lb + 8 → M2 a = M a) : Laid lb r M2 := by
  obtain ⟨h0, h8, hl⟩ := h
  refine ⟨by rw [hf lb (by omega) (by omega) (by omega)]; exact h0, by rw [hf lb (by omega) (by omega) (by omega)]; exact h8, fun l a b => ?_⟩
  obtain ⟨g1, g2, g3, g4⟩ := hl l a b
  refine ⟨g1.keep (hf _ (by omega) (by omega) (by omega)) (hf _ (by omega) (by omega) (by omega)) (hf _ (by omega) (by omega) (by omega)) (hf _ (by omega) (by omega) (by omega)) (hf _ (by omega) (by omega) (by omega)), ?_, ?_, ?_⟩
  · rw [hf _ (by omega) (by omega) (by omega)]; exact g2
  · rw [hf _ (by omega) (by omega) (by omega)]; exact g3
  · rw [hf (lb + 6) (by omega) (by omega) (by omega), hf (lb + 11) (by omega) (by omega) (by omega), hf (lb + 7) (by omega) (by omega) (by omega)]
    exact g4
theorem s2_place {M : Mm} {lb pg l : Int} {Q : Mm → Prop} {r : Int → Int} (hr : vw M pg = r) (hw : WR r) (hd : pg + 3 < lb ∨ lb + 11 < pg) (h0 : 0 ≤ l) (h1 : l < r 0) (hc : LC lb r M l) (hwd : ∀ k, 0 ≤ k → k < cel r l → M (lb + 6) ((l * 24) + k) = wid r l k)
    (hq : ∀ M2 : Mm, (∀ a, a ≠ lb + 3 → a ≠ lb + 4 → a ≠ lb + 7 → M2 a = M a) → (∀ j, j ≠ l → M2 (lb + 3) j = M (lb + 3) j ∧ M2 (lb + 4) j = M (lb + 4) j) → (∀ j, (j < l * 24 ∨ l * 24 + 24 ≤ j) → M2 (lb + 7) j = M (lb + 7) j) → M2 (lb + 3) l = bgn r l (cel r l) → M2 (lb + 4) l = wde r l → (∀ k, 0 ≤ k → k < cel r l → M2 (lb + 7) ((l * 24) + k) = bgn r l k) → Q M2) : PX2_placeCells lb pg l M Q := by
  have hm := hw.1
  have hcl := cel_rg hw h0 h1
  have hs := hw.2.1 l h0 h1
  have es : r (3 + l) = M (pg + 1) l := by rw [← hr]; exact vw_sz M pg h0 (by omega)
  have hcr := cell_rg hw h0 h1 hcl.1 (Int.le_refl _)
  unfold PX2_placeCells
  refine lr_II (fun v3 v4 M2 => v3 = bgn r l v4 ∧ 0 ≤ v4 ∧ v4 ≤ cel r l ∧ (∀ a, a ≠ lb + 7 → M2 a = M a) ∧ (∀ j, (j < l * 24 ∨ l * 24 + 24 ≤ j) → M2 (lb + 7) j = M (lb + 7) j) ∧ (∀ k, 0 ≤ k → k < v4 → M2 (lb + 7) ((l * 24) + k) = bgn r l k)) (fun _ v4 _ => (cel r l - v4).toNat) ?_ ⟨rfl, Int.le_refl _, hcl.1, fun _ _ => rfl, fun _ _ => rfl, fun k a b => by omega⟩
  rintro rec v3 v4 M2 ⟨rfl, g0, g1, fr, fo, fk⟩ hrec
  have hbg := bgn_rg hw h0 h1 g0 g1
  unfold BX2_placeCells_5
  rw [fr (lb + 1) (by omega), hc.1]
  refine ⟨by omega, fun hx => ?_, fun hx => ?_⟩
  · have e4 : v4 = cel r l := by omega
    subst e4
    refine ⟨by omega, ?_⟩
    rintro M12 rfl
    have ex : um M2 (lb + 3) l (bgn r l (cel r l)) (pg + 1) l = r (3 + l) := by rw [um_r _ (by omega), fr _ (by omega)]; exact es.symm
    have ey : um M2 (lb + 3) l (bgn r l (cel r l)) (lb + 2) l = beg r l (cel r l) := by rw [um_r _ (by omega), fr _ (by omega)]; exact hc.2.1
    have et : en r l (cel r l) = r (3 + l) := frm_tail (ln r l) hs.1
    have ew : bgn r l (cel r l) + r (3 + l) - beg r l (cel r l) = wde r l := by unfold wde siz; rw [et]; omega
    have hwr := wde_rg hw h0 h1
    rw [ex, ey, ew]
    refine ⟨by omega, by omega, by omega, by omega, ?_⟩
    rintro M19 rfl
    refine hq _ (fun a b1 b2 b3 => ?_) (fun j hj => ?_) (fun j hj => ?_) ?_ ?_ (fun k a b => ?_)
    · rw [um_ne _ _ _ b2, um_ne _ _ _ b1, fr a b3]
    · rw [um_r _ (by omega), um_r _ (by omega), um_r _ (by omega), um_r _ (by omega), fr (lb + 3) (by omega), fr (lb + 4) (by omega)]
      exact ⟨rfl, rfl⟩
    · rw [um_r _ (by omega), um_r _ (by omega)]
      exact fo j hj
    · rw [um_r _ (by omega), um_w]
    · rw [um_w]
    · rw [um_r _ (by omega), um_r _ (by omega)]
      exact fk k a b
  · refine ⟨by omega, ?_⟩
    rintro M4 rfl
    have ew : um M2 (lb + 7) ((l * 24) + v4) (bgn r l v4) (lb + 6) ((l * 24) + v4) = wid r l v4 := by rw [um_r _ (by omega), fr _ (by omega)]; exact hwd v4 g0 (by omega)
    have hwi := wid_rg hw h0 h1 g0 (by omega : v4 < cel r l)
    rw [ew]
    refine ⟨by omega, by omega, by omega, hrec _ _ _ ⟨(bgn_s g0).symm, by omega, by omega, fun a ha => ?_, fun j hj => ?_, fun k a b => ?_⟩ (by omega)⟩
    · rw [um_ne _ _ _ ha, fr a ha]
    · rw [um_r _ (by omega)]
      exact fo j hj
    · by_cases hk : k = v4
      · subst hk
        rw [um_w]
      · rw [um_r _ (by omega)]
        exact fk k a (by omega)
/-- a line of which the one above has no cell k begins its block there; else no block begins -/
theorem fl_new {r : Int → Int} {l k : Int} (h : l = 0 ∨ (0 < l ∧ cel r (l - 1) ≤ k)) : fl r l k = l := by
  unfold fl
  rcases h with h | ⟨h1, h2⟩
  · rw [h]; rfl
  · rw [fir_s h1, if_neg (by omega)]
theorem s2_lay {M : Mm} {lb pg : Int} {Q : Mm → Prop} {r : Int → Int} (hr : vw M pg = r) (hw : WR r) (hd : pg + 3 < lb ∨ lb + 11 < pg) (hq : ∀ M2 : Mm, (∀ a, (a < lb ∨ lb + 11 < a) → M2 a = M a) → Laid lb r M2 → Q M2) : PX2_lay lb pg M Q := by
  have hm := hw.1
  have keepr : ∀ M2 : Mm, (∀ a, (a < lb ∨ lb + 11 < a) → M2 a = M a) → vw M2 pg = r := fun M2 h => by
    rw [vw_same (h pg (by omega)) (h _ (by omega)) (h _ (by omega)) (h _ (by omega))]
    exact hr
  unfold PX2_lay
  rintro M0 rfl
  have e80 : M pg 0 = r 0 := by rw [← hr]; rfl
  rw [e80]
  refine lr_I (fun v M2 => 0 ≤ v ∧ v ≤ r 0 ∧ (∀ a, (a < lb ∨ lb + 11 < a) → M2 a = M a) ∧ M2 lb 8 = r 0 ∧ ∀ l, 0 ≤ l → l < v → LC lb r M2 l) (fun v _ => (r 0 - v).toNat) ?_ ⟨Int.le_refl _, hm.1, fun a ha => um_ne _ _ _ (by omega), um_w _ _ _ _, fun l a b => by omega⟩
  rintro rec v M1 ⟨a0, a1, fr1, e8, hc1⟩ hrec
  unfold BX2_lay_10
  rw [e8]
  refine ⟨fun hx => ?_, fun hx => ?_⟩
  rotate_left
  · refine s2_part (keepr M1 fr1) hw a0 (by omega) hd (fun M2 f1 f2 f3 f4 => ⟨by omega, hrec _ _ ⟨by omega, by omega, fun a ha => ?_, ?_, fun l b0 b1 => ?_⟩ (by omega)⟩)
    · rw [f1 a (by omega) (by omega) (by omega) (by omega) (by omega), fr1 a ha]
    · rw [f1 lb (by omega) (by omega) (by omega) (by omega) (by omega), e8]
    · by_cases hl : l = v
      · rw [hl]; exact f4
      · obtain ⟨g1, g2, g3⟩ := hc1 l b0 (by omega)
        have hcl := cel_rg hw b0 (by omega : l < r 0)
        refine ⟨by rw [(f2 l hl).1]; exact g1, by rw [(f2 l hl).2]; exact g2, fun k k0 k1 => ?_⟩
        obtain ⟨q1, q2, q3⟩ := f3 ((l * 24) + k) (by omega)
        rw [q1, q2, q3]
        exact g3 k k0 k1
  have ev : v = r 0 := by omega
  subst ev
  rintro M9 rfl
  -- the second pass: widths by blocks
  refine lr_I (fun v M2 => 0 ≤ v ∧ v ≤ r 0 ∧ (∀ a, (a < lb ∨ lb + 11 < a) → M2 a = M a) ∧ M2 lb 8 = r 0 ∧ M2 lb 0 = bks r v ∧ (∀ l, 0 ≤ l → l < r 0 → LC lb r M2 l) ∧ ∀ i j, 0 ≤ i → i < r 0 → 0 ≤ j → j < cel r i → fl r i j < v → M2 (lb + 6) ((i * 24) + j) = wid r i j ∧ M2 (lb + 11) ((i * 24) + j) = mst r i j 1) (fun v _ => (r 0 - v).toNat) ?_ ⟨Int.le_refl _, hm.1, fun a ha => by rw [um_ne _ _ _ (by omega), fr1 a ha], by rw [um_r _ (by omega)]; exact e8, by rw [um_w]; rfl, fun l b0 b1 => (hc1 l b0 b1).keep (um_ne _ _ _ (by omega)) (um_ne _ _ _ (by omega)) (um_ne _ _ _ (by omega)) (um_ne _ _ _ (by omega)) (um_ne _ _ _ (by omega)), fun i j b0 b1 c0 c1 hf => by have := (blk_rg (r := r) (k := j) b0 b1).1; omega⟩
  rintro rec2 v M2 ⟨b0, b1, fr2, e82, eb2, hc2, hw2⟩ hrec2
  unfold BX2_lay_37
  rw [e82]
  refine ⟨fun hx => ?_, fun hx => ?_⟩
  · have ev : v = r 0 := by omega
    subst ev
    -- the third pass: where cells begin
    refine lr_I (fun v M3 => 0 ≤ v ∧ v ≤ r 0 ∧ (∀ a, (a < lb ∨ lb + 11 < a) → M3 a = M a) ∧ (∀ a, a ≠ lb + 3 → a ≠ lb + 4 → a ≠ lb + 7 → M3 a = M2 a) ∧ ∀ l, 0 ≤ l → l < v → M3 (lb + 3) l = bgn r l (cel r l) ∧ M3 (lb + 4) l = wde r l ∧ ∀ k, 0 ≤ k → k < cel r l → M3 (lb + 7) ((l * 24) + k) = bgn r l k) (fun v _ => (r 0 - v).toNat) ?_ ⟨Int.le_refl _, hm.1, fr2, fun _ _ _ _ => rfl, fun l a b => by omega⟩
    rintro rec3 v M3 ⟨d0, d1, fr3, fs3, hb3⟩ hrec3
    unfold BX2_lay_111
    rw [fs3 lb (by omega) (by omega) (by omega), e82]
    have hc3 : ∀ l, 0 ≤ l → l < r 0 → LC lb r M3 l := fun l a b => (hc2 l a b).keep (fs3 _ (by omega) (by omega) (by omega)) (fs3 _ (by omega) (by omega) (by omega)) (fs3 _ (by omega) (by omega) (by omega)) (fs3 _ (by omega) (by omega) (by omega)) (fs3 _ (by omega) (by omega) (by omega))
    have hw3 : ∀ l k, 0 ≤ l → l < r 0 → 0 ≤ k → k < cel r l → M3 (lb + 6) ((l * 24) + k) = wid r l k ∧ M3 (lb + 11) ((l * 24) + k) = mst r l k 1 := fun l k c0 c1 k0 k1 => by
      rw [fs3 (lb + 6) (by omega) (by omega) (by omega), fs3 (lb + 11) (by omega) (by omega) (by omega)]
      have := blk_rg (r := r) (k := k) c0 c1
      exact hw2 l k c0 c1 k0 k1 (by omega)
    refine ⟨fun hx3 => ?_, fun hx3 => ?_⟩
    · refine hq M3 fr3 ⟨?_, ?_, fun l c0 c1 => ?_⟩
      · rw [fs3 lb (by omega) (by omega) (by omega)]; exact eb2
      · rw [fs3 lb (by omega) (by omega) (by omega)]; exact e82
      · obtain ⟨q1, q2, q3⟩ := hb3 l c0 (by omega)
        exact ⟨hc3 l c0 c1, q1, q2, fun k k0 k1 => ⟨(hw3 l k c0 c1 k0 k1).1, (hw3 l k c0 c1 k0 k1).2, q3 k k0 k1⟩⟩
    · refine s2_place (keepr M3 fr3) hw hd d0 (by omega) (hc3 v d0 (by omega)) (fun k k0 k1 => (hw3 v k d0 (by omega) k0 k1).1) (fun M4 f1 f2 f3 f4 f5 f6 => ⟨by omega, hrec3 _ _ ⟨by omega, by omega, fun a ha => ?_, fun a g1 g2 g3 => ?_, fun l c0 c1 => ?_⟩ (by omega)⟩)
      · rw [f1 a (by omega) (by omega) (by omega), fr3 a ha]
      · rw [f1 a g1 g2 g3, fs3 a g1 g2 g3]
      · by_cases hl : l = v
        · rw [hl]; exact ⟨f4, f5, f6⟩
        · obtain ⟨q1, q2, q3⟩ := hb3 l c0 (by omega)
          have hcl := cel_rg hw c0 (by omega : l < r 0)
          refine ⟨by rw [(f2 l hl).1]; exact q1, by rw [(f2 l hl).2]; exact q2, fun k k0 k1 => ?_⟩
          rw [f3 ((l * 24) + k) (by omega)]
          exact q3 k k0 k1
  · -- the cells of line v
    have hcv := cel_rg hw b0 (by omega : v < r 0)
    have hpv : 0 ≤ pv r v := by
      unfold pv
      split
      · exact Int.le_refl _
      · exact (cel_rg hw (by omega) (by omega : v - 1 < r 0)).1
    have hbk : 0 ≤ bks r v ∧ bks r v ≤ 24 * v := sm_rg b0 (fun i p0 p1 => by
      have c1 := cel_rg hw p0 (by omega : i < r 0)
      have c2 : 0 ≤ pv r i := by
        unfold pv
        split
        · exact Int.le_refl _
        · exact (cel_rg hw (by omega) (by omega : i - 1 < r 0)).1
      show 0 ≤ max 0 (cel r i - pv r i) ∧ max 0 (cel r i - pv r i) ≤ 24
      omega)
    refine lr_I (fun k M3 => 0 ≤ k ∧ k ≤ cel r v ∧ (∀ a, (a < lb ∨ lb + 11 < a) → M3 a = M a) ∧ M3 lb 8 = r 0 ∧ M3 lb 0 = bks r v + max 0 (k - pv r v) ∧ (∀ l, 0 ≤ l → l < r 0 → LC lb r M3 l) ∧ ∀ i j, 0 ≤ i → i < r 0 → 0 ≤ j → j < cel r i → (fl r i j < v ∨ (fl r i j = v ∧ j < k)) → M3 (lb + 6) ((i * 24) + j) = wid r i j ∧ M3 (lb + 11) ((i * 24) + j) = mst r i j 1) (fun k _ => (cel r v - k).toNat) ?_ ⟨Int.le_refl _, hcv.1, fr2, e82, by rw [eb2]; omega, hc2, fun i j p0 p1 q0 q1 hf => hw2 i j p0 p1 q0 q1 (by omega)⟩
    rintro rec4 k M3 ⟨k0, k1, fr3, e83, eb3, hc3, hw3⟩ hrec4
    unfold BX2_lay_47
    rw [(hc3 v b0 (by omega)).1]
    refine ⟨by omega, fun hx4 => ?_, fun hx4 => ?_⟩
    · have ek : k = cel r v := by omega
      refine ⟨by omega, hrec2 _ _ ⟨by omega, by omega, fr3, e83, ?_, hc3, fun i j p0 p1 q0 q1 hf => ?_⟩ (by omega)⟩
      · rw [eb3, ek]
        unfold bks
        rw [sm_s _ b0]
      · refine hw3 i j p0 p1 q0 q1 ?_
        rcases ilg (fl r i j) v with z | z
        · exact Or.inl z
        · refine Or.inr ⟨by omega, ?_⟩
          have hz : fl r i j = v := by omega
          have hb := blk_in p0 p1 q1 (i := v) (by omega) (by have := blk_rg (r := r) (k := j) p0 p1; omega)
          omega
    · -- is a block begun here?
      have join : (v = 0 ∨ (0 < v ∧ cel r (v - 1) ≤ k)) → JX2_lay_73 rec4 (fun M_25 => inR (v + 1) ∧ rec2 (v + 1) M_25) Q lb pg v k M3 := by
        intro hnew
        have hfl := fl_new (r := r) (k := k) hnew
        have hpk : pv r v ≤ k := by
          unfold pv
          rcases hnew with h | h
          · rw [if_pos h]; exact k0
          · rw [if_neg (by omega)]; exact h.2
        have hkc : k < cel r v := by omega
        have hbl := blk_rg (r := r) (k := k) b0 (by omega : v < r 0)
        obtain ⟨-, o1, -, -, ow⟩ := ms_own (sh := -9) hw b0 (by omega : v < r 0) k0 hkc (by omega)
        unfold JX2_lay_73
        refine s2_measure (keepr M3 fr3) hw hd e83 hc3 b0 (by omega) k0 hkc (fun i p0 p1 p2 => by omega) (fun M4 f1 g0 g1 g2 g3 g4 => ?_)
        refine s2_spread g0 g1 g2 g4 hbl.1 (by omega) (by omega) k0 (by omega) (fun M5 s1 s2 s3 => ?_)
        have f5 : ∀ a, a ≠ lb + 8 → a ≠ lb + 6 → a ≠ lb + 11 → M5 a = M3 a := fun a x1 x2 x3 => by rw [s1 a x2 x3, f1 a x1]
        have e50 : M5 lb 0 = bks r v + max 0 (k - pv r v) := by rw [f5 lb (by omega) (by omega) (by omega)]; exact eb3
        refine ⟨by rw [e50]; omega, ?_⟩
        rintro M6 rfl
        refine ⟨by omega, hrec4 _ _ ⟨by omega, by omega, fun a ha => ?_, ?_, ?_, fun l p0 p1 => ?_, fun i j p0 p1 q0 q1 hf => ?_⟩ (by omega)⟩
        · rw [um_ne _ _ _ (by omega), f5 a (by omega) (by omega) (by omega), fr3 a ha]
        · rw [um_r _ (by omega), f5 lb (by omega) (by omega) (by omega)]; exact e83
        · rw [um_w, e50]; omega
        · refine (hc3 l p0 p1).keep ?_ ?_ ?_ ?_ ?_ <;> rw [um_ne _ _ _ (by omega), f5 _ (by omega) (by omega) (by omega)]
        · rw [um_r _ (by omega), um_r _ (by omega)]
          by_cases hjk : j = k ∧ fl r i j = v
          · obtain ⟨rfl, hfi⟩ := hjk
            have hbi := blk_rg (r := r) (k := j) p0 p1
            obtain ⟨y1, y2⟩ := blk_same p0 p1 q1 (i := v) (by omega) (by omega)
            obtain ⟨z1, z2⟩ := s3 i (by omega) (by omega)
            obtain ⟨w1, w2⟩ := wid_same b0 (by omega : v < r 0) hkc (i := i) (by omega) (by omega)
            rw [z1, z2, w1, w2, ow, o1]
            exact ⟨rfl, rfl⟩
          · have hci := cel_rg hw p0 p1
            obtain ⟨z1, z2⟩ := s2 ((i * 24) + j) (fun i2 x1 x2 x3 => hjk (by
              have hji : j = k ∧ i = i2 := by omega
              obtain ⟨rfl, rfl⟩ := hji
              exact ⟨rfl, by rw [(blk_same b0 (by omega : v < r 0) hkc (by omega) (by omega)).1]; exact hfl⟩))
            rw [z1, z2, f1 _ (by omega), f1 _ (by omega)]
            refine hw3 i j p0 p1 q0 q1 ?_
            rcases hf with hf | ⟨hf1, hf2⟩
            · exact Or.inl hf
            · refine Or.inr ⟨hf1, ?_⟩
              rcases ilg j k with z | z
              · exact z
              · exact absurd ⟨by omega, hf1⟩ hjk
      refine ⟨fun hv0 => join (Or.inl hv0), fun hv0 => ?_⟩
      rw [(hc3 (v - 1) (by omega) (by omega)).1]
      refine ⟨by omega, fun hlt => ⟨by omega, hrec4 _ _ ⟨by omega, by omega, fr3, e83, ?_, hc3, fun i j p0 p1 q0 q1 hf => ?_⟩ (by omega)⟩, fun hlt => join (Or.inr ⟨by omega, by omega⟩)⟩
      · have hpe : pv r v = cel r (v - 1) := by unfold pv; rw [if_neg hv0]
        rw [eb3, hpe]
        omega
      · refine hw3 i j p0 p1 q0 q1 ?_
        rcases hf with hf | ⟨hf1, hf2⟩
        · exact Or.inl hf
        · refine Or.inr ⟨hf1, ?_⟩
          rcases ilg j k with z | z
          · exact z
          · have hjk : j = k := by omega
            have h4 := (fir_spec (cel r) j p0).2.2.2
            have hf1' : fir (cel r) j i = v := hf1
            rw [hf1'] at h4
            have := h4 (by omega)
            omega
