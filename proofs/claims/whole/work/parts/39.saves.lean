/-! ===== a line with one sign fewer ===== -/
section CUTL
variable {f g : Int → Int} {n pos : Int}
theorem cu_lo (hg : ∀ i, 0 ≤ i → i < n - 1 → g i = if i < pos then f i else f (i + 1)) (hp : pos < n) {i : Int} (hi : i ≤ pos) : cT g i = cT f i := cT_cong (fun j a b => by rw [hg j a (by omega), if_pos (by omega)])
theorem cu_hi (hg : ∀ i, 0 ≤ i → i < n - 1 → g i = if i < pos then f i else f (i + 1)) (hp0 : 0 ≤ pos) (hp : pos < n) (ht : f pos ≠ 124) {i : Int} (h0 : pos ≤ i) (h1 : i ≤ n - 1) : cT g i = cT f (i + 1) := by
  obtain ⟨d, hd⟩ := Int.eq_ofNat_of_zero_le (show 0 ≤ i - pos by omega)
  induction d generalizing i with
  | zero =>
    rw [show i = pos by omega, cu_lo hg hp (Int.le_refl _), cT_sn f hp0 ht]
  | succ d ih =>
    have e := ih (i := i - 1) (by omega) (by omega) (by omega)
    have s1 := cT_s g (i := i - 1) (by omega)
    have s2 := cT_s f (i := i) (by omega)
    rw [show i - 1 + 1 = i by omega] at s1 e
    rw [s1, s2, e, hg (i - 1) (by omega) (by omega), if_neg (show ¬ i - 1 < pos by omega), show i - 1 + 1 = i by omega]
theorem cu_cel (hg : ∀ i, 0 ≤ i → i < n - 1 → g i = if i < pos then f i else f (i + 1)) (hp0 : 0 ≤ pos) (hp : pos < n) (ht : f pos ≠ 124) : cT g (n - 1) = cT f n := by
  rw [cu_hi hg hp0 hp ht (by omega) (Int.le_refl _), show n - 1 + 1 = n by omega]
theorem cu_frm (hg : ∀ i, 0 ≤ i → i < n - 1 → g i = if i < pos then f i else f (i + 1)) (hp0 : 0 ≤ pos) (hp : pos < n) (ht : f pos ≠ 124) {k : Int} (hk0 : 0 ≤ k) (hk : k ≤ cT f n) : frm g (n - 1) k = if frm f n k ≤ pos then frm f n k else frm f n k - 1 := by
  obtain ⟨a1, a2, a3, a4⟩ := frm_spec f (by omega : 0 ≤ n) hk0 hk
  have hcl := cu_cel hg hp0 hp ht
  by_cases hF : frm f n k ≤ pos
  · rw [if_pos hF]
    refine frm_uniq g (by omega) hk0 (by omega) a1 (by rw [cu_lo hg hp hF]; exact a3) ?_
    rcases ilg 0 k with z | z
    · right
      have hF0 : 0 < frm f n k := by
        rcases ilg 0 (frm f n k) with y | y
        · exact y
        · rw [show frm f n k = 0 by omega, cT_0] at a3
          omega
      rw [hg _ (by omega) (by omega), if_pos (by omega)]
      exact a4 z
    · left
      rw [show k = 0 by omega]; rfl
  · rw [if_neg hF]
    have hk1 : 0 < k := by
      rcases ilg 0 k with z | z
      · exact z
      · rw [show k = 0 by omega, frm_0] at hF
        omega
    have ht2 := a4 hk1
    have hne : frm f n k - 1 ≠ pos := fun z => ht (by rw [← z]; exact ht2)
    refine frm_uniq g (by omega) hk0 (by omega) (by omega) ?_ (Or.inr ?_)
    · rw [cu_hi hg hp0 hp ht (by omega) (by omega), show frm f n k - 1 + 1 = frm f n k by omega]
      exact a3
    · rw [hg _ (by omega) (by omega), if_neg (by omega), show frm f n k - 1 - 1 + 1 = frm f n k - 1 by omega]
      exact ht2
/-- where a cell ends then -/
theorem cu_end (hg : ∀ i, 0 ≤ i → i < n - 1 → g i = if i < pos then f i else f (i + 1)) (hp0 : 0 ≤ pos) (hp : pos < n) (ht : f pos ≠ 124) {F : Int} (hF0 : 0 ≤ F) (hF : F ≤ n) (hFt : F = 0 ∨ f (F - 1) = 124) : fi g 124 (n - 1) (if F ≤ pos then F else F - 1) = if fi f 124 n F < pos then fi f 124 n F else fi f 124 n F - 1 := by
  obtain ⟨e1, e2, e3, e4⟩ := fi_spec f 124 hF
  have hne : fi f 124 n F ≠ pos := fun z => ht (by rw [← z]; exact e4 (by omega))
  have hFne : F - 1 ≠ pos := fun z => by
    rcases hFt with y | y
    · omega
    · exact ht (by rw [← z]; exact y)
  by_cases he : fi f 124 n F < pos
  · rw [if_pos (by omega), if_pos he]
    refine fi_uniq e1 (by omega) (fun i a b => ?_) (fun _ => ?_)
    · rw [hg i (by omega) (by omega), if_pos (by omega)]; exact e3 i a b
    · rw [hg _ (by omega) (by omega), if_pos he]; exact e4 (by omega)
  · rw [if_neg he]
    have hle : (if F ≤ pos then F else F - 1) ≤ fi f 124 n F - 1 := by
      split
      · omega
      · rcases ilg F (fi f 124 n F) with y | y <;> omega
    have hlo : 0 ≤ (if F ≤ pos then F else F - 1) := by split <;> omega
    have hF2 : F - 1 ≤ (if F ≤ pos then F else F - 1) := by split <;> omega
    have hF3 : ∀ i, (if F ≤ pos then F else F - 1) ≤ i → i < pos → F ≤ i := fun i => by split <;> omega
    refine fi_uniq hle (by omega) (fun i a b => ?_) (fun hlt => ?_)
    · rw [hg i (by omega) (by omega)]
      by_cases hi : i < pos
      · rw [if_pos hi]; exact e3 i (hF3 i a hi) (by omega)
      · rw [if_neg hi]; exact e3 (i + 1) (by omega) (by omega)
    · rw [hg _ (by omega) (by omega), if_neg (by omega), show fi f 124 n F - 1 + 1 = fi f 124 n F by omega]
      exact e4 (by omega)
end CUTL
section CUTR
variable {p : Int → Int} {l k : Int}
/-- the last sign of cell k of line l -/
def lst (p : Int → Int) (l k : Int) : Int := beg p l k + siz p l k - 1
theorem lst_rg (hw : WR p) (h0 : 0 ≤ l) (h1 : l < p 0) (hk0 : 0 ≤ k) (hk : k < cel p l) (hz : siz p l k ≠ 0) : 0 ≤ lst p l k ∧ lst p l k < p (3 + l) ∧ lst p l k + 1 = en p l k ∧ beg p l k ≤ lst p l k ∧ ln p l (lst p l k) ≠ 124 := by
  have hc := cell_rg hw h0 h1 hk0 (by omega : k ≤ cel p l)
  have e : siz p l k = en p l k - beg p l k := rfl
  have hs := hw.2.1 l h0 h1
  obtain ⟨a1, a2, a3, a4⟩ := frm_spec (ln p l) hs.1 hk0 (show k ≤ cel p l by omega)
  obtain ⟨e1, e2, e3, e4⟩ := fi_spec (ln p l) 124 a2
  have el : lst p l k = beg p l k + siz p l k - 1 := rfl
  refine ⟨by omega, by omega, by omega, by omega, e3 _ ?_ ?_⟩
  · show beg p l k ≤ _
    omega
  · show _ < en p l k
    omega
theorem q_g (hw : WR p) (h0 : 0 ≤ l) (h1 : l < p 0) {a : Int} (ha : 0 ≤ a ∧ a < p (3 + l)) : (∀ i, 0 ≤ i → i < p (3 + l) - 1 → ln (oC p l a) l i = if i < a then ln p l i else ln p l (i + 1)) ∧ oC p l a (3 + l) = p (3 + l) - 1 := by
  have hm := hw.1
  have hs := hw.2.1 l h0 h1
  refine ⟨fun i b1 b2 => ?_, ?_⟩
  · have : ln (oC p l a) l i = if l = l then (if i < a then ln p l i else ln p l (i + 1)) else ln p l i := mk_ln h0 (by omega) b1 (by omega)
    rw [this, if_pos rfl]
  · have : oC p l a (3 + l) = if l = l then p (3 + l) - 1 else p (3 + l) := mk_sz h0 (by omega)
    rw [this, if_pos rfl]
theorem q_o (hw : WR p) {j a : Int} (h0 : 0 ≤ j) (h1 : j < p 0) (hj : j ≠ l) : sameL p j (oC p l a) j := by
  have hm := hw.1
  have hs := hw.2.1 j h0 h1
  refine ⟨?_, fun i b1 b2 => ?_⟩
  · have : oC p l a (3 + j) = if j = l then p (3 + l) - 1 else p (3 + j) := mk_sz h0 (by omega)
    rw [this, if_neg hj]
  · have : ln (oC p l a) j i = if j = l then (if i < a then ln p l i else ln p l (i + 1)) else ln p j i := mk_ln h0 (by omega) b1 (by omega)
    rw [this, if_neg hj]
theorem ls_cel {r q : Int → Int} {j : Int} (h : sameL r j q j) : cel r j = cel q j := by
  unfold cel
  rw [← h.1]
  exact cT_cong h.2
theorem ls_cell {r q : Int → Int} {j i : Int} (hw : WR r) (h0 : 0 ≤ j) (h1 : j < r 0) (h : sameL r j q j) (hi0 : 0 ≤ i) (hi : i ≤ cel r j) : siz r j i = siz q j i ∧ ahd r j i = ahd q j i := by
  have hc := cell_rg hw h0 h1 hi0 hi
  have hs := hw.2.1 j h0 h1
  have eb : beg r j i = beg q j i := by
    unfold beg
    rw [← h.1]
    exact frm_cong hs.1 h.2 hi0 hi
  have ee : en r j i = en q j i := by
    unfold en
    rw [← h.1, ← eb]
    exact fi_cong (by omega) (fun t a b => h.2 t (by omega) b)
  refine ⟨by unfold siz; rw [ee, eb], ?_⟩
  unfold ahd
  rw [← ee, ← eb, fi_cong (by omega) (fun t a b => h.2 t (by omega) (by omega))]
theorem q_cel (hw : WR p) (h0 : 0 ≤ l) (h1 : l < p 0) (hk0 : 0 ≤ k) (hk : k < cel p l) (hz : siz p l k ≠ 0) {j : Int} (j0 : 0 ≤ j) (j1 : j < p 0) : cel (oC p l (lst p l k)) j = cel p j := by
  by_cases hj : j = l
  · subst hj
    obtain ⟨b1, b2, b3, b4, b5⟩ := lst_rg hw h0 h1 hk0 hk hz
    obtain ⟨g1, g2⟩ := q_g hw h0 h1 ⟨b1, b2⟩
    unfold cel
    rw [g2]
    exact cu_cel g1 b1 b2 b5
  · exact (ls_cel (q_o hw j0 j1 hj)).symm
/-- the cells of the line itself -/
theorem q_cell (hw : WR p) (h0 : 0 ≤ l) (h1 : l < p 0) (hk0 : 0 ≤ k) (hk : k < cel p l) (hz : siz p l k ≠ 0) {i : Int} (i0 : 0 ≤ i) (i1 : i ≤ cel p l) : siz (oC p l (lst p l k)) l i = (if i = k then siz p l k - 1 else siz p l i) ∧ ahd (oC p l (lst p l k)) l i = (if i = k then min (ahd p l k) (siz p l k - 1) else ahd p l i) := by
  obtain ⟨b1, b2, b3, b4, b5⟩ := lst_rg hw h0 h1 hk0 hk hz
  obtain ⟨g1, g2⟩ := q_g hw h0 h1 ⟨b1, b2⟩
  have hs := hw.2.1 l h0 h1
  have hci := cell_rg hw h0 h1 i0 i1
  have hck := cell_rg hw h0 h1 hk0 (by omega : k ≤ cel p l)
  obtain ⟨a1, a2, a3, a4⟩ := frm_spec (ln p l) hs.1 i0 i1
  have a1' : 0 ≤ beg p l i := a1
  have hFt : beg p l i = 0 ∨ ln p l (beg p l i - 1) = 124 := by
    rcases ilg 0 i with z | z
    · exact Or.inr (a4 z)
    · left; rw [show i = 0 by omega]; rfl
  have eB : beg (oC p l (lst p l k)) l i = if beg p l i ≤ lst p l k then beg p l i else beg p l i - 1 := by
    unfold beg
    rw [g2]
    exact cu_frm g1 b1 b2 b5 i0 i1
  have eE : en (oC p l (lst p l k)) l i = if en p l i < lst p l k then en p l i else en p l i - 1 := by
    unfold en
    rw [g2, eB]
    exact cu_end g1 b1 b2 b5 a1 a2 hFt
  have ez : siz p l i = en p l i - beg p l i := rfl
  have ezk : siz p l k = en p l k - beg p l k := rfl
  have ea : ahd p l i = fi (ln p l) 46 (en p l i) (beg p l i) - beg p l i := rfl
  -- how the cells lie to each other
  have below : ∀ u v, 0 ≤ u → u < v → v ≤ cel p l → en p l u < beg p l v := by
    intro u v u0 uv v1
    obtain ⟨d, hd⟩ := Int.eq_ofNat_of_zero_le (show 0 ≤ v - u - 1 by omega)
    induction d generalizing v with
    | zero =>
      have := (cell_end hw h0 h1 u0 (by omega : u < cel p l)).2.2
      rw [show v = u + 1 by omega]
      omega
    | succ d ih =>
      have e1 := ih (v - 1) (by omega) (by omega) (by omega)
      have e2 := (cell_end hw h0 h1 (by omega : 0 ≤ v - 1) (by omega : v - 1 < cel p l)).2.2
      have e3 := cell_rg hw h0 h1 (by omega : 0 ≤ v - 1) (by omega : v - 1 ≤ cel p l)
      rw [show v - 1 + 1 = v by omega] at e2
      omega
  rcases Int.lt_trichotomy i k with c | c | c
  · have hb := below i k i0 c (by omega)
    rw [if_pos (by omega)] at eB
    rw [if_pos (by omega)] at eE
    rw [if_neg (by omega), if_neg (by omega)]
    refine ⟨by unfold siz; rw [eB, eE], ?_⟩
    unfold ahd
    rw [eB, eE, fi_cong (g := ln p l) (by omega) (fun t x y => by rw [g1 t (by omega) (by omega), if_pos (by omega)])]
  · subst c
    rw [if_pos (by omega)] at eB
    rw [if_neg (by omega)] at eE
    rw [if_pos rfl, if_pos rfl]
    refine ⟨by unfold siz; rw [eB, eE]; omega, ?_⟩
    obtain ⟨q1, q2, q3, q4⟩ := fi_spec (ln p l) 46 (show beg p l i ≤ en p l i by omega)
    have : fi (ln (oC p l (lst p l i)) l) 46 (en p l i - 1) (beg p l i) = min (fi (ln p l) 46 (en p l i) (beg p l i)) (en p l i - 1) := by
      refine fi_uniq (by omega) (by omega) (fun t x y => ?_) (fun hlt => ?_)
      · rw [g1 t (by omega) (by omega), if_pos (by omega)]
        exact q3 t x (by omega)
      · rw [g1 _ (by omega) (by omega), if_pos (by omega), show min (fi (ln p l) 46 (en p l i) (beg p l i)) (en p l i - 1) = fi (ln p l) 46 (en p l i) (beg p l i) by omega]
        exact q4 (by omega)
    unfold ahd
    rw [eB, eE, this]
    unfold siz
    omega
  · have hb := below k i hk0 c i1
    rw [if_neg (by omega)] at eB
    rw [if_neg (by omega)] at eE
    rw [if_neg (by omega), if_neg (by omega)]
    refine ⟨by unfold siz; rw [eB, eE]; omega, ?_⟩
    obtain ⟨q1, q2, q3, q4⟩ := fi_spec (ln p l) 46 (show beg p l i ≤ en p l i by omega)
    have : fi (ln (oC p l (lst p l k)) l) 46 (en p l i - 1) (beg p l i - 1) = fi (ln p l) 46 (en p l i) (beg p l i) - 1 := by
      refine fi_uniq (by omega) (by omega) (fun t x y => ?_) (fun hlt => ?_)
      · rw [g1 t (by omega) (by omega), if_neg (by omega)]
        exact q3 (t + 1) (by omega) (by omega)
      · rw [g1 _ (by omega) (by omega), if_neg (by omega), show fi (ln p l) 46 (en p l i) (beg p l i) - 1 + 1 = fi (ln p l) 46 (en p l i) (beg p l i) by omega]
        exact q4 (by omega)
    unfold ahd
    rw [eB, eE, this]
    omega
theorem q_blk (hw : WR p) (h0 : 0 ≤ l) (h1 : l < p 0) (hk0 : 0 ≤ k) (hk : k < cel p l) (hz : siz p l k ≠ 0) {j : Int} (j0 : 0 ≤ j) (j1 : j < p 0) (i : Int) : fl (oC p l (lst p l k)) j i = fl p j i ∧ la (oC p l (lst p l k)) j i = la p j i := by
  refine ⟨fir_cong j0 (fun t a b => q_cel hw h0 h1 hk0 hk hz a (by omega)), ?_⟩
  exact las_cong (m := p 0) j1 (fun t a b => q_cel hw h0 h1 hk0 hk hz (by omega) b)
theorem q_gm (hw : WR p) (h0 : 0 ≤ l) (h1 : l < p 0) (hk0 : 0 ≤ k) (hk : k < cel p l) (hz : siz p l k ≠ 0) {j i w : Int} (j0 : 0 ≤ j) (j1 : j < p 0) (i0 : 0 ≤ i) (i1 : i ≤ cel p j) (hn : ¬ (j = l ∧ i = k)) : gm (oC p l (lst p l k)) i w j = gm p i w j := by
  have e : siz (oC p l (lst p l k)) j i = siz p j i ∧ ahd (oC p l (lst p l k)) j i = ahd p j i := by
    by_cases hj : j = l
    · subst hj
      obtain ⟨e1, e2⟩ := q_cell hw h0 h1 hk0 hk hz i0 i1
      rw [if_neg (fun z => hn ⟨rfl, z⟩)] at e1 e2
      exact ⟨e1, e2⟩
    · obtain ⟨e1, e2⟩ := ls_cell hw j0 j1 (q_o (l := l) (a := lst p l k) hw j0 j1 hj) i0 i1
      exact ⟨e1.symm, e2.symm⟩
  unfold gm
  rw [e.1, e.2]
/-- widths then: those of the block of the cell, and all others -/
theorem q_wid (hw : WR p) (h0 : 0 ≤ l) (h1 : l < p 0) (hk0 : 0 ≤ k) (hk : k < cel p l) (hz : siz p l k ≠ 0) {j i : Int} (j0 : 0 ≤ j) (j1 : j < p 0) (i0 : 0 ≤ i) (i1 : i < cel p j) : wid (oC p l (lst p l k)) j i = if i = k ∧ fl p l k ≤ j ∧ j ≤ la p l k then wds p l k l else wid p j i := by
  obtain ⟨e1, e2⟩ := q_blk hw h0 h1 hk0 hk hz j0 j1 i
  have ci := cel_rg hw j0 j1
  have eal : oC p l (lst p l k) (303 + i) = p (303 + i) := mk_al i0
  have hbl := blk_rg (r := p) (k := k) h0 h1
  by_cases hc : i = k ∧ fl p l k ≤ j ∧ j ≤ la p l k
  · obtain ⟨rfl, hc1, hc2⟩ := hc
    rw [if_pos ⟨rfl, hc1, hc2⟩]
    obtain ⟨s1, s2⟩ := blk_same h0 h1 hk hc1 hc2
    have key : ∀ t, fl p l i ≤ t → t < la p l i + 1 → gm (oC p l (lst p l i)) i 0 t = szs p i l t ∧ gm (oC p l (lst p l i)) i 1 t = ahs p i l t ∧ gm (oC p l (lst p l i)) i 2 t = bhs p i l t := by
      intro t t0 t1
      obtain ⟨u1, u2, u3⟩ := blk_in h0 h1 hk t0 (by omega)
      have hcr := cell_rg hw u1 u2 i0 (by omega : i ≤ cel p t)
      have z : siz (oC p l (lst p l i)) t i = szs p i l t ∧ ahd (oC p l (lst p l i)) t i = ahs p i l t := by
        by_cases ht : t = l
        · subst ht
          obtain ⟨v1, v2⟩ := q_cell hw h0 h1 hk0 hk hz i0 (by omega)
          rw [if_pos rfl] at v1 v2
          have es : szs p i t t = siz p t i - 1 := by unfold szs; rw [if_pos rfl]
          refine ⟨by rw [v1, es], ?_⟩
          unfold ahs
          rw [v2, es]
        · obtain ⟨v1, v2⟩ := ls_cell hw u1 u2 (q_o (l := l) (a := lst p l i) hw u1 u2 ht) i0 (by omega)
          have es : szs p i l t = siz p t i := by unfold szs; rw [if_neg ht]
          refine ⟨by rw [← v1, es], ?_⟩
          unfold ahs
          rw [← v2, es]
          omega
      refine ⟨z.1, z.2, ?_⟩
      show siz (oC p l (lst p l i)) t i - ahd (oC p l (lst p l i)) t i = _
      rw [z.1, z.2]; rfl
    have m0 : mst (oC p l (lst p l i)) j i 0 = mS p l i l := by unfold mst mS; rw [e1, e2, s1, s2]; exact mxr_cong (fun t a b => (key t a b).1)
    have m1 : mst (oC p l (lst p l i)) j i 1 = mA p l i l := by unfold mst mA; rw [e1, e2, s1, s2]; exact mxr_cong (fun t a b => (key t a b).2.1)
    have m2 : mst (oC p l (lst p l i)) j i 2 = mB p l i l := by unfold mst mB; rw [e1, e2, s1, s2]; exact mxr_cong (fun t a b => (key t a b).2.2)
    unfold wid ned wds nds
    rw [eal, m0, m1, m2]
    rfl
  · rw [if_neg hc]
    have key : ∀ w, mst (oC p l (lst p l k)) j i w = mst p j i w := by
      intro w
      unfold mst
      rw [e1, e2]
      refine mxr_cong (fun t a b => ?_)
      obtain ⟨u1, u2, u3⟩ := blk_in j0 j1 i1 a (by omega)
      refine q_gm hw h0 h1 hk0 hk hz u1 u2 i0 (by omega) (fun z => hc ?_)
      obtain ⟨rfl, rfl⟩ := z
      obtain ⟨s1, s2⟩ := blk_same j0 j1 i1 a (by omega)
      have := blk_rg (r := p) (k := i) j0 j1
      exact ⟨rfl, by omega, by omega⟩
    unfold wid ned
    rw [eal, key, key, key]
    rfl
end CUTR
theorem sm_one {g h : Int → Int} {n k : Int} (hk0 : 0 ≤ k) (hk : k < n) (he : ∀ i, 0 ≤ i → i < n → i ≠ k → g i = h i) : sm g n = sm h n + (g k - h k) := by
  obtain ⟨d, hd⟩ := Int.eq_ofNat_of_zero_le (show 0 ≤ n - 1 - k by omega)
  induction d generalizing n with
  | zero =>
    have e1 := sm_s g (n := k) hk0
    have e2 := sm_s h (n := k) hk0
    have e3 : sm g k = sm h k := sm_cong (fun i a b => he i a (by omega) (by omega))
    rw [show n = k + 1 by omega]
    omega
  | succ d ih =>
    have e1 := sm_s g (n := n - 1) (by omega)
    have e2 := sm_s h (n := n - 1) (by omega)
    have e3 := ih (n := n - 1) (by omega) (fun i a b c => he i a (by omega) c) (by omega)
    have e4 := he (n - 1) (by omega) (by omega) (by omega)
    rw [show n - 1 + 1 = n by omega] at e1 e2
    omega
theorem sm_blk {g h : Int → Int} {n a b D : Int} (ha : 0 ≤ a) (hab : a ≤ b) (hn : b < n) (he : ∀ i, 0 ≤ i → i < n → g i = if a ≤ i ∧ i ≤ b then h i - D else h i) : sm g n = sm h n - D * (b - a + 1) := by
  have key : ∀ t : Nat, (t : Int) ≤ n → sm g t = sm h t - D * (if (t : Int) ≤ a then 0 else if (t : Int) ≤ b + 1 then t - a else b - a + 1) := by
    intro t
    induction t with
    | zero => intro _; rw [if_pos (by omega)]; show (0 : Int) = 0 - D * 0; omega
    | succ t ih =>
      intro ht
      have e := ih (by omega)
      have e1 := sm_s g (n := (t : Int)) (by omega)
      have e2 := sm_s h (n := (t : Int)) (by omega)
      have e3 := he t (by omega) (by omega)
      rw [show ((t + 1 : Nat) : Int) = (t : Int) + 1 by omega, e1, e2, e3, e]
      by_cases c1 : (t : Int) < a
      · rw [if_neg (show ¬ (a ≤ (t : Int) ∧ (t : Int) ≤ b) by omega), if_pos (show (t : Int) ≤ a by omega), if_pos (show (t : Int) + 1 ≤ a by omega)]
        omega
      · by_cases c2 : (t : Int) ≤ b
        · rw [if_pos (show a ≤ (t : Int) ∧ (t : Int) ≤ b by omega), if_neg (show ¬ (t : Int) + 1 ≤ a by omega), if_pos (show (t : Int) + 1 ≤ b + 1 by omega), show (t : Int) + 1 - a = (t - a) + 1 by omega, Int.mul_add, Int.mul_one]
          by_cases c3 : (t : Int) ≤ a
          · rw [if_pos c3, show (t : Int) - a = 0 by omega, Int.mul_zero]
            omega
          · rw [if_neg c3, if_pos (show (t : Int) ≤ b + 1 by omega)]
            omega
        · rw [if_neg (show ¬ (a ≤ (t : Int) ∧ (t : Int) ≤ b) by omega), if_neg (show ¬ (t : Int) ≤ a by omega), if_neg (show ¬ (t : Int) + 1 ≤ a by omega), if_neg (show ¬ (t : Int) + 1 ≤ b + 1 by omega)]
          by_cases c3 : (t : Int) ≤ b + 1
          · rw [if_pos c3, show (t : Int) - a = b - a + 1 by omega]
            omega
          · rw [if_neg c3]
            omega
  have := key n.toNat (by omega)
  rw [show ((n.toNat : Nat) : Int) = n by omega, if_neg (by omega)] at this
  rw [this]
  split
  · rw [show n - a = b - a + 1 by omega]
  · rfl
/-- all of it narrower by what the block is narrower, line by line -/
theorem q_all {p : Int → Int} {l k : Int} (hw : WR p) (h0 : 0 ≤ l) (h1 : l < p 0) (hk0 : 0 ≤ k) (hk : k < cel p l) (hz : siz p l k ≠ 0) : alw (oC p l (lst p l k)) = alw p - (wid p l k - wds p l k l) * (la p l k - fl p l k + 1) := by
  have hbl := blk_rg (r := p) (k := k) h0 h1
  refine sm_blk (n := p 0) (by omega) (by omega) (by omega) (fun j j0 j1 => ?_)
  have hcj := cel_rg hw j0 j1
  have ec := q_cel hw h0 h1 hk0 hk hz j0 j1
  unfold wde
  rw [ec]
  have et : siz (oC p l (lst p l k)) j (cel p j) = siz p j (cel p j) := by
    by_cases hj : j = l
    · subst hj
      have := (q_cell hw h0 h1 hk0 hk hz hcj.1 (Int.le_refl _)).1
      rw [if_neg (by omega)] at this
      exact this
    · exact (ls_cell hw j0 j1 (q_o (l := l) (a := lst p l k) hw j0 j1 hj) hcj.1 (Int.le_refl _)).1.symm
  rw [et]
  by_cases hc : fl p l k ≤ j ∧ j ≤ la p l k
  · rw [if_pos hc]
    obtain ⟨u1, u2, u3⟩ := blk_in h0 h1 hk hc.1 hc.2
    have e := sm_one (g := wid (oC p l (lst p l k)) j) (h := wid p j) (n := cel p j) hk0 u3 (fun i a b c => by rw [q_wid hw h0 h1 hk0 hk hz j0 j1 a b, if_neg (fun z => c z.1)])
    rw [q_wid hw h0 h1 hk0 hk hz j0 j1 hk0 u3, if_pos ⟨rfl, hc⟩, (wid_same h0 h1 hk hc.1 hc.2).1] at e
    unfold bgn
    omega
  · rw [if_neg hc]
    have e : sm (wid (oC p l (lst p l k)) j) (cel p j) = sm (wid p j) (cel p j) := sm_cong (fun i a b => by rw [q_wid hw h0 h1 hk0 hk hz j0 j1 a b, if_neg (fun z => hc z.2)])
    unfold bgn
    omega
