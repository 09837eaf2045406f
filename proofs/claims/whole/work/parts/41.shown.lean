/-! ===== what stands at a place ===== -/
def led (p : Int → Int) (l k : Int) : Int := if p (303 + k) = 1 then wid p l k - p 1 - siz p l k else if p (303 + k) = 2 then (wid p l k - p 1 - siz p l k) / 2 else if p (303 + k) = 3 then mst p l k 1 - ahd p l k else 0
def stt (p : Int → Int) (l k : Int) : Int := if k = cel p l then bgn p l k else bgn p l k + led p l k
def shs (p : Int → Int) (l X : Int) : Nat → Int → Int
  | 0, _ => 32
  | n + 1, k => if stt p l k ≤ X ∧ X < stt p l k + siz p l k then ln p l (beg p l k + (X - stt p l k)) else shs p l X n (k + 1)
def shv (p : Int → Int) (l X : Int) : Int := shs p l X (cel p l + 1).toNat 0
def sc (p : Int → Int) (l k y : Int) : Int := if 0 ≤ y - led p l k ∧ y - led p l k < siz p l k then ln p l (beg p l k + (y - led p l k)) else 32
section SHN
variable {p : Int → Int} {l k X : Int}
theorem led_rg (hw : WR p) (h0 : 0 ≤ l) (h1 : l < p 0) (hk0 : 0 ≤ k) (hk : k < cel p l) : 0 ≤ led p l k ∧ led p l k + siz p l k ≤ wid p l k ∧ 0 ≤ wid p l k - p 1 - siz p l k := by
  have hc := cell_rg hw h0 h1 hk0 (by omega : k ≤ cel p l)
  have hb := blk_rg (r := p) (k := k) h0 h1
  have hn := ned_rg hw h0 h1 hk0 hk
  obtain ⟨-, -, p1, p2⟩ := id hw
  have e0 : siz p l k ≤ mst p l k 0 := mxr_ge (gm p k 0) hb.2.1 (by omega)
  have e1 : ahd p l k ≤ mst p l k 1 := mxr_ge (gm p k 1) hb.2.1 (by omega)
  have e2 : siz p l k - ahd p l k ≤ mst p l k 2 := mxr_ge (gm p k 2) hb.2.1 (by omega)
  have ew : wid p l k = max (ned p l k) (p 2) + p 1 := rfl
  have en3 : p (303 + k) = 3 → ned p l k = mst p l k 1 + mst p l k 2 := fun h => by unfold ned; rw [if_pos h]
  have en0 : ¬ p (303 + k) = 3 → ned p l k = mst p l k 0 := fun h => by unfold ned; rw [if_neg h]
  by_cases h3 : p (303 + k) = 3
  · have := en3 h3
    unfold led
    rw [if_neg (by omega), if_neg (by omega), if_pos h3]
    omega
  · have := en0 h3
    unfold led
    rw [if_neg h3]
    split
    · omega
    · split <;> omega
theorem bgn_mono (hw : WR p) (h0 : 0 ≤ l) (h1 : l < p 0) {a b : Int} (ha : 0 ≤ a) (hab : a ≤ b) (hb : b ≤ cel p l) : bgn p l a ≤ bgn p l b := sm_mono ha hab (fun i x y => (wid_rg hw h0 h1 (by omega) (by omega)).1)
theorem stt_rg (hw : WR p) (h0 : 0 ≤ l) (h1 : l < p 0) (hk0 : 0 ≤ k) (hk : k ≤ cel p l) : bgn p l k ≤ stt p l k ∧ stt p l k ≤ 1300 ∧ (k < cel p l → stt p l k + siz p l k ≤ bgn p l (k + 1)) := by
  have hg := bgn_rg hw h0 h1 hk0 hk
  unfold stt
  by_cases hc : k = cel p l
  · rw [if_pos hc]; omega
  · have hl := led_rg hw h0 h1 hk0 (by omega : k < cel p l)
    have hwd := wid_rg hw h0 h1 hk0 (by omega : k < cel p l)
    have hs := bgn_s (r := p) (l := l) hk0
    have hz := cell_rg hw h0 h1 hk0 hk
    rw [if_neg hc]
    omega
theorem shs_to {a b : Int} (hab : a ≤ b) (hb : b ≤ cel p l + 1) (hn : ∀ j, a ≤ j → j < b → ¬ (stt p l j ≤ X ∧ X < stt p l j + siz p l j)) : shs p l X (cel p l + 1 - a).toNat a = shs p l X (cel p l + 1 - b).toNat b := by
  obtain ⟨d, hd⟩ := Int.eq_ofNat_of_zero_le (show 0 ≤ b - a by omega)
  induction d generalizing a with
  | zero => rw [show a = b by omega]
  | succ d ih =>
    rw [show (cel p l + 1 - a).toNat = (cel p l + 1 - (a + 1)).toNat + 1 by omega]
    show (if _ then _ else _) = _
    rw [if_neg (hn a (Int.le_refl _) (by omega))]
    exact ih (by omega) (fun j x y => hn j (by omega) y) (by omega)
theorem shs_end : shs p l X (cel p l + 1 - (cel p l + 1)).toNat (cel p l + 1) = 32 := by
  rw [show (cel p l + 1 - (cel p l + 1)).toNat = 0 by omega]
  rfl
theorem shs_hit (hk : k ≤ cel p l) (h : stt p l k ≤ X ∧ X < stt p l k + siz p l k) : shs p l X (cel p l + 1 - k).toNat k = ln p l (beg p l k + (X - stt p l k)) := by
  rw [show (cel p l + 1 - k).toNat = (cel p l + 1 - (k + 1)).toNat + 1 by omega]
  show (if _ then _ else _) = _
  rw [if_pos h]
theorem shv_tail (hw : WR p) (h0 : 0 ≤ l) (h1 : l < p 0) (hX : bgn p l (cel p l) ≤ X) (hX2 : X < wde p l) : shv p l X = ln p l (beg p l (cel p l) + (X - bgn p l (cel p l))) := by
  have hc := cel_rg hw h0 h1
  have es : stt p l (cel p l) = bgn p l (cel p l) := by unfold stt; rw [if_pos rfl]
  have ew : wde p l = bgn p l (cel p l) + siz p l (cel p l) := rfl
  unfold shv
  rw [show cel p l + 1 = cel p l + 1 - 0 by omega, shs_to (b := cel p l) hc.1 (by omega) (fun j a b z => ?_), shs_hit (Int.le_refl _) (by omega), es]
  have := (stt_rg hw h0 h1 a (by omega : j ≤ cel p l)).2.2 b
  have := bgn_mono hw h0 h1 (by omega : 0 ≤ j + 1) (by omega : j + 1 ≤ cel p l) (Int.le_refl _)
  omega
theorem shv_cell (hw : WR p) (h0 : 0 ≤ l) (h1 : l < p 0) (hk0 : 0 ≤ k) (hk : k < cel p l) (hX : bgn p l k ≤ X) (hX2 : X < bgn p l (k + 1)) : shv p l X = sc p l k (X - bgn p l k) := by
  have es : stt p l k = bgn p l k + led p l k := by unfold stt; rw [if_neg (by omega)]
  have lo : ∀ j, 0 ≤ j → j < k → ¬ (stt p l j ≤ X ∧ X < stt p l j + siz p l j) := fun j a b z => by
    have := (stt_rg hw h0 h1 a (by omega : j ≤ cel p l)).2.2 (by omega)
    have := bgn_mono hw h0 h1 (by omega : 0 ≤ j + 1) (by omega : j + 1 ≤ k) (by omega)
    omega
  unfold shv
  rw [show cel p l + 1 = cel p l + 1 - 0 by omega, shs_to (b := k) hk0 (by omega) lo]
  unfold sc
  by_cases hh : stt p l k ≤ X ∧ X < stt p l k + siz p l k
  · rw [shs_hit (by omega) hh, if_pos (by omega), es, show X - (bgn p l k + led p l k) = X - bgn p l k - led p l k by omega]
  · rw [if_neg (by omega), shs_to (b := cel p l + 1) (by omega) (Int.le_refl _) (fun j a b z => ?_), shs_end]
    by_cases hj : j = k
    · rw [hj] at z; exact hh z
    · have := (stt_rg hw h0 h1 (by omega : 0 ≤ j) (by omega : j ≤ cel p l)).1
      have := bgn_mono hw h0 h1 (by omega : 0 ≤ k + 1) (by omega : k + 1 ≤ j) (by omega)
      omega
theorem led_cg {r q : Int → Int} (hw : WR r) (he : Eqv r q) (h0 : 0 ≤ l) (h1 : l < r 0) (hk0 : 0 ≤ k) (hk : k < cel r l) : led r l k = led q l k := by
  have hc := cel_rg hw h0 h1
  unfold led
  rw [he.2.2.2.1 k hk0 (by omega), wid_cg hw he h0 h1 hk0 hk, siz_cg hw he h0 h1 hk0 (by omega), he.2.1, mst_cg hw he h0 h1 hk0 hk, ahd_cg hw he h0 h1 hk0 (by omega)]
theorem stt_cg {r q : Int → Int} (hw : WR r) (he : Eqv r q) (h0 : 0 ≤ l) (h1 : l < r 0) (hk0 : 0 ≤ k) (hk : k ≤ cel r l) : stt r l k = stt q l k := by
  unfold stt
  rw [← cel_cg hw he h0 h1, bgn_cg hw he h0 h1 hk]
  by_cases hc : k = cel r l
  · rw [if_pos hc, if_pos hc]
  · rw [if_neg hc, if_neg hc, led_cg hw he h0 h1 hk0 (by omega)]
theorem shv_cg {r q : Int → Int} (hw : WR r) (he : Eqv r q) (h0 : 0 ≤ l) (h1 : l < r 0) : shv r l X = shv q l X := by
  have hc := cel_rg hw h0 h1
  have key : ∀ (n : Nat) (k : Int), 0 ≤ k → k + n = cel r l + 1 → shs r l X n k = shs q l X n k := by
    intro n
    induction n with
    | zero => intro k a b; rfl
    | succ n ih =>
      intro k a b
      have ek := stt_cg (k := k) hw he h0 h1 a (by omega)
      have ez := siz_cg (k := k) hw he h0 h1 a (by omega)
      have eb := beg_cg (k := k) hw he h0 h1 a (by omega)
      have hcl := cell_rg hw h0 h1 a (by omega : k ≤ cel r l)
      show (if _ then _ else _) = (if _ then _ else _)
      rw [← ek, ← ez, ← eb]
      by_cases hh : stt r l k ≤ X ∧ X < stt r l k + siz r l k
      · have e : siz r l k = en r l k - beg r l k := rfl
        rw [if_pos hh, if_pos hh]
        exact (he.2.2.2.2 l h0 h1).2 _ (by omega) (by omega)
      · rw [if_neg hh, if_neg hh]
        exact ih (k + 1) (by omega) (by omega)
  unfold shv
  rw [← cel_cg hw he h0 h1]
  exact key _ 0 (Int.le_refl _) (by omega)
end SHN
section SHM
variable {M : Mm} {m x lb pg l k X : Int} {p : Int → Int} {Q : Int → Mm → Prop}
theorem s7_startOf (hw : WR (M (m + 1))) (h0 : 0 ≤ l) (h1 : l < M (m + 1) 0) (hk0 : 0 ≤ k) (hk : k ≤ cel (M (m + 1)) l) (hq : Q (stt (M (m + 1)) l k) M) : PX7_startOf m l k M Q := by
  have hc := cel_rg hw h0 h1
  have hg := bgn_rg hw h0 h1 hk0 hk
  unfold stt at hq
  unfold PX7_startOf
  refine s7_beginsOf hw h0 h1 hk0 hk (s7_cellsOf hw h0 h1 ⟨fun he => ?_, fun he => ?_⟩)
  · rw [if_pos he] at hq; exact hq
  · rw [if_neg he] at hq
    have hk2 : k < cel (M (m + 1)) l := by omega
    have hl := led_rg hw h0 h1 hk0 hk2
    have hwd := wid_rg hw h0 h1 hk0 hk2
    have hz := cell_rg hw h0 h1 hk0 hk
    have hms := mst_rg hw h0 h1 hk0 hk2 1
    obtain ⟨-, -, p1, p2⟩ := id hw
    refine s7_widthOf hw h0 h1 hk0 hk2 (s7_sizeOf hw h0 h1 hk0 hk ⟨by omega, fun ha => ?_, fun ha => ⟨by omega, ?_⟩, fun ha => ⟨by omega, by omega, ?_⟩, fun ha => s7_mostOf hw h0 h1 hk0 hk2 (s7_aheadOf hw h0 h1 hk0 hk ⟨by omega, ?_⟩)⟩)
    · have e : led (M (m + 1)) l k = 0 := by unfold led; rw [if_neg (by omega), if_neg (by omega), if_neg (by omega)]
      rw [e, show bgn (M (m + 1)) l k + 0 = bgn (M (m + 1)) l k by omega] at hq
      exact hq
    · have e : led (M (m + 1)) l k = wid (M (m + 1)) l k - M (m + 1) 1 - siz (M (m + 1)) l k := by unfold led; rw [if_pos ha]
      rw [e] at hq; exact hq
    · have e : led (M (m + 1)) l k = (wid (M (m + 1)) l k - M (m + 1) 1 - siz (M (m + 1)) l k) / 2 := by unfold led; rw [if_neg (by omega), if_pos ha]
      rw [e] at hq; exact hq
    · have e : led (M (m + 1)) l k = mst (M (m + 1)) l k 1 - ahd (M (m + 1)) l k := by unfold led; rw [if_neg (by omega), if_neg (by omega), if_pos ha]
      rw [e, show bgn (M (m + 1)) l k + (mst (M (m + 1)) l k 1 - ahd (M (m + 1)) l k) = bgn (M (m + 1)) l k + mst (M (m + 1)) l k 1 - ahd (M (m + 1)) l k by omega] at hq
      exact hq
theorem s7_shownAt (hw : WR (M (m + 1))) (h0 : 0 ≤ l) (h1 : l < M (m + 1) 0) (hX0 : 0 ≤ X) (hX : X < 1300) (hq : Q (shv (M (m + 1)) l X) M) : PX7_shownAt m l X M Q := by
  have hm := hw.1
  have hc := cel_rg hw h0 h1
  unfold PX7_shownAt
  refine s7_cellsOf hw h0 h1 ?_
  refine lk_I (fun v => 0 ≤ v ∧ v ≤ cel (M (m + 1)) l + 1 ∧ shs (M (m + 1)) l X (cel (M (m + 1)) l + 1 - v).toNat v = shv (M (m + 1)) l X) (fun v => (cel (M (m + 1)) l + 1 - v).toNat) ?_ ⟨Int.le_refl _, by omega, by rw [show cel (M (m + 1)) l + 1 - 0 = cel (M (m + 1)) l + 1 by omega]; rfl⟩
  rintro rec v ⟨a0, a1, ev⟩ hrec
  unfold BX7_shownAt_12
  refine ⟨fun hx => ?_, fun hx => ?_⟩
  · rw [show v = cel (M (m + 1)) l + 1 by omega, shs_end] at ev
    rw [ev]; exact hq
  · have hst := stt_rg hw h0 h1 a0 (by omega : v ≤ cel (M (m + 1)) l)
    have hg := bgn_rg hw h0 h1 a0 (by omega : v ≤ cel (M (m + 1)) l)
    have hz := cell_rg hw h0 h1 a0 (by omega : v ≤ cel (M (m + 1)) l)
    have hs := hw.2.1 l h0 h1
    have ee : siz (M (m + 1)) l v = en (M (m + 1)) l v - beg (M (m + 1)) l v := rfl
    refine s7_startOf hw h0 h1 a0 (by omega) (s7_sizeOf hw h0 h1 a0 (by omega) ⟨by omega, by omega, s7_in (fun c d => ⟨fun z => by omega, fun _ => ?_⟩) (fun c => ⟨fun _ => ⟨by omega, hrec _ ⟨by omega, by omega, ?_⟩ (by omega)⟩, fun z => absurd rfl z⟩)⟩)
    · rw [shs_hit (by omega) (by omega)] at ev
      refine s7_fromOf hw h0 h1 a0 (by omega) ⟨by omega, ?_⟩
      unfold PX7_signAt
      refine ⟨by omega, ?_⟩
      rw [← ev] at hq
      exact hq
    · rw [← ev]
      exact (shs_to (by omega) (by omega) (fun j b1 b2 z => by rw [show j = v by omega] at z; omega)).symm
theorem s2_shownIn {y : Int} (hr : Eqv (vw M pg) p) (hw : WR p) (hL : Laid lb p M) (h0 : 0 ≤ l) (h1 : l < p 0) (hk0 : 0 ≤ k) (hk : k < cel p l) (hy : 0 ≤ y ∧ y < 1300) (hq : Q (sc p l k y) M) : PX2_shownInCell lb pg l k y M Q := by
  have hm := hw.1
  have hs := hw.2.1 l h0 h1
  have hc := cel_rg hw h0 h1
  have hz := cell_rg hw h0 h1 hk0 (by omega : k ≤ cel p l)
  have hl := led_rg hw h0 h1 hk0 hk
  have hwd := wid_rg hw h0 h1 hk0 hk
  have hms := mst_rg hw h0 h1 hk0 hk 1
  obtain ⟨-, -, p1, p2⟩ := id hw
  have ee : siz p l k = en p l k - beg p l k := rfl
  obtain ⟨c9, c5, c10⟩ := (hL.2.2 l h0 h1).1.2.2 k hk0 hk
  obtain ⟨c6, c11, -⟩ := (hL.2.2 l h0 h1).2.2.2 k hk0 hk
  have eal : M (pg + 3) k = p (303 + k) := by
    rw [← hr.2.2.2.1 k hk0 (by omega)]
    exact (vw_al M pg hk0).symm
  have ep1 : M pg 1 = p 1 := hr.2.1
  have eln : ∀ i, 0 ≤ i → i < p (3 + l) → M (pg + 2) ((l * 24) + i) = ln p l i := fun i a b => by
    rw [← eqv_ln hr h0 h1 a b]
    exact (vw_ln M pg h0 (by omega) a (by omega)).symm
  unfold PX2_shownInCell PX2_leadOf
  rw [eal, c6, c5, c10, c11, ep1]
  have rest : inR (y - led p l k) ∧ ((y - led p l k < 0 → JX2_shownInCell_61 Q M) ∧ (¬ y - led p l k < 0 → (0 ≤ l * 24 + k ∧ l * 24 + k < 288) ∧ ((M (lb + 5) (l * 24 + k) ≤ y - led p l k → JX2_shownInCell_61 Q M) ∧ (¬ M (lb + 5) (l * 24 + k) ≤ y - led p l k → (0 ≤ l * 24 + k ∧ l * 24 + k < 288) ∧ inR (M (lb + 9) (l * 24 + k) + (y - led p l k)) ∧ PX3_signAt pg l (M (lb + 9) (l * 24 + k) + (y - led p l k)) M (fun z_12 M_13 => Q z_12 M_13))))) := by
    unfold JX2_shownInCell_61 PX3_signAt
    rw [c5, c9]
    unfold sc at hq
    refine ⟨by omega, fun hn => ?_, fun hn => ⟨by omega, fun hn2 => ?_, fun hn2 => ⟨by omega, by omega, by omega, ?_⟩⟩⟩
    · rw [if_neg (by omega)] at hq; exact hq
    · rw [if_neg (by omega)] at hq; exact hq
    · rw [if_pos (by omega)] at hq
      rw [eln _ (by omega) (by omega)]
      exact hq
  refine ⟨by omega, by omega, by omega, by omega, fun ha => ?_, fun ha => ⟨by omega, ?_⟩, fun ha => ⟨by omega, by omega, ?_⟩, fun ha => ⟨by omega, by omega, by omega, ?_⟩⟩
  · have e : led p l k = 0 := by unfold led; rw [if_neg (by omega), if_neg (by omega), if_neg (by omega)]
    rw [e] at rest; exact rest
  · have e : led p l k = wid p l k - p 1 - siz p l k := by unfold led; rw [if_pos ha]
    rw [e] at rest; exact rest
  · have e : led p l k = (wid p l k - p 1 - siz p l k) / 2 := by unfold led; rw [if_neg (by omega), if_pos ha]
    rw [e] at rest; exact rest
  · have e : led p l k = mst p l k 1 - ahd p l k := by unfold led; rw [if_neg (by omega), if_neg (by omega), if_pos ha]
    rw [e] at rest; exact rest
theorem i_shown (hI : Inv x M) : PX6_shown x l X M (fun r M1 => PX7_shown (x + 168) l X M1 (fun r2 M2 => r = r2 ∧ Inv x M2)) := by
  obtain ⟨p, n, ps, c, ⟨h45, hw, he, -, -, hL⟩, ⟨-, hm, -⟩, -⟩ := id hI
  have hb := hw.1
  have hwm := hm.sy.wr hw
  have em := hm.1
  unfold Two at h45
  have no : ¬ (0 ≤ l ∧ l < p 0 ∧ 0 ≤ X ∧ X < wde p l) → PX7_shown (x + 168) l X M (fun r2 M2 => -1 = r2 ∧ Inv x M2) := by
    intro hn
    unfold PX7_shown JX7_shown_35
    refine s7_isLine hw hm (fun h0 h1 => ⟨fun _ => ⟨rfl, hI⟩, fun _ => s7_wideOf hwm h0 (by omega) ?_⟩) (fun _ => ⟨fun _ => ⟨rfl, hI⟩, fun z => absurd rfl z⟩)
    have hwd := wde_rg hw h0 h1
    rw [wde_cg hwm hm h0 (by omega)]
    exact ⟨by omega, s7_in (fun a b => by omega) (fun _ => ⟨fun _ => ⟨rfl, hI⟩, fun z => absurd rfl z⟩)⟩
  have go : 0 ≤ l → l < p 0 → 0 ≤ X → X < wde p l → PX7_shown (x + 168) l X M (fun r2 M2 => shv p l X = r2 ∧ Inv x M2) := by
    intro h0 h1 x0 x1
    have hwd := wde_rg hw h0 h1
    unfold PX7_shown JX7_shown_35
    refine s7_isLine hw hm (fun _ _ => ⟨fun z => by omega, fun _ => s7_wideOf hwm h0 (by omega) ?_⟩) (fun z => by omega)
    rw [wde_cg hwm hm h0 (by omega)]
    exact ⟨by omega, s7_in (fun a b => ⟨fun z => by omega, fun _ => s7_shownAt hwm h0 (by omega) x0 (by omega) ⟨(shv_cg hwm hm h0 (by omega)).symm, hI⟩⟩) (fun z => by omega)⟩
  unfold PX6_shown
  refine s3_hasLine he (fun h0 h1 => ⟨fun z => by omega, fun _ => ⟨fun h2 => no (by omega), fun h2 => ⟨by omega, ?_⟩⟩⟩) (fun hn => ⟨fun _ => no (fun z => hn ⟨z.1, z.2.1⟩), fun z => absurd rfl z⟩)
  have hc := cel_rg hw h0 h1
  have hs := hw.2.1 l h0 h1
  have hwd := wde_rg hw h0 h1
  have hbc := bgn_rg hw h0 h1 hc.1 (Int.le_refl _)
  have ht := cell_rg hw h0 h1 hc.1 (Int.le_refl _)
  obtain ⟨⟨l1, l2, -⟩, l3, l4, l6⟩ := hL.2.2 l h0 h1
  rw [l4, l3, l2]
  have ew : wde p l = bgn p l (cel p l) + siz p l (cel p l) := rfl
  have es : siz p l (cel p l) = en p l (cel p l) - beg p l (cel p l) := rfl
  refine ⟨fun hx => ⟨by omega, fun hx2 => ?_, fun hx2 => ⟨by omega, by omega, by omega, ?_⟩⟩, fun hx => no (by omega)⟩
  · unfold PX2_cellAt
    have hcp : 0 < cel p l := by
      rcases ilg 0 (cel p l) with z | z
      · exact z
      · rw [show cel p l = 0 by omega] at hx2
        have : bgn p l 0 = 0 := rfl
        omega
    refine lk_I (fun v => 0 ≤ v ∧ v < cel p l ∧ bgn p l v ≤ X) (fun v => (cel p l - v).toNat) ?_ ⟨Int.le_refl _, hcp, by have : bgn p l 0 = 0 := rfl; omega⟩
    rintro rec v ⟨a0, a1, a2⟩ hrec
    have fin : X < bgn p l (v + 1) → (0 ≤ l * 24 + v ∧ l * 24 + v < 288) ∧ inR (X - M (x + M x 4 + 7) (l * 24 + v)) ∧ PX2_shownInCell (x + M x 4) (x + 1) l v (X - M (x + M x 4 + 7) (l * 24 + v)) M (fun z_17 M_18 => PX7_shown (x + 168) l X M_18 (fun r2 M2 => z_17 = r2 ∧ Inv x M2)) := by
      intro hlt
      have hg := bgn_rg hw h0 h1 a0 (by omega : v ≤ cel p l)
      rw [(l6 v a0 a1).2.2]
      refine ⟨by omega, by omega, s2_shownIn he hw hL h0 h1 a0 a1 (by omega) ?_⟩
      rw [← shv_cell hw h0 h1 a0 a1 a2 hlt]
      exact go h0 h1 (by omega) hx
    unfold BX2_cellAt_2
    rw [l1]
    refine ⟨by omega, by omega, fun hy => fin (by rw [show v + 1 = cel p l by omega]; exact hx2), fun hy => ⟨by omega, ?_⟩⟩
    rw [show l * 24 + v + 1 = l * 24 + (v + 1) by omega, (l6 (v + 1) (by omega) (by omega)).2.2]
    exact ⟨fun hz => fin hz, fun hz => ⟨by omega, hrec _ ⟨by omega, by omega, by omega⟩ (by omega)⟩⟩
  · unfold PX3_signAt
    refine ⟨by omega, ?_⟩
    rw [vc_ln hw he h0 h1 (by omega) (by omega), show beg p l (cel p l) + X - bgn p l (cel p l) = beg p l (cel p l) + (X - bgn p l (cel p l)) by omega, ← shv_tail hw h0 h1 (by omega) hx]
    exact go h0 h1 (by omega) hx
end SHM
