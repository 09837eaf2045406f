def svs (r : Int → Int) (l k : Int) : Int := if siz r l k = 0 then 0 else (wid r l k - wds r l k l) * (la r l k - fl r l k + 1)
section SV
variable {M : Mm} {m x lb pg l k : Int} {p : Int → Int} {Q : Int → Mm → Prop}
theorem svs_rg (hw : WR p) (h0 : 0 ≤ l) (h1 : l < p 0) (hk0 : 0 ≤ k) (hk : k < cel p l) : -15264 ≤ svs p l k ∧ svs p l k ≤ 15264 := by
  unfold svs
  by_cases hz : siz p l k = 0
  · rw [if_pos hz]; omega
  · rw [if_neg hz]
    have e := q_all hw h0 h1 hk0 hk hz
    have hm := hw.1
    obtain ⟨b1, b2, b3, b4, b5⟩ := lst_rg hw h0 h1 hk0 hk hz
    obtain ⟨-, hwq⟩ := oC_cg (at' := lst p l k) hw (Eqv.rf p) h0 h1 ⟨b1, b2⟩
    have r1 : 0 ≤ alw p ∧ alw p ≤ 15264 := alw_rg hw hm.1 (Int.le_refl _)
    have r2 : 0 ≤ alw (oC p l (lst p l k)) ∧ alw (oC p l (lst p l k)) ≤ 15264 := alw_rg hwq (show 0 ≤ p 0 from hm.1) (Int.le_refl _)
    omega
theorem mx_cg {r q : Int → Int} (hw : WR r) (he : Eqv r q) (h0 : 0 ≤ l) (h1 : l < r 0) (hk0 : 0 ≤ k) (hk : k < cel r l) : wds r l k l = wds q l k l := by
  have hc := cel_rg hw h0 h1
  have key : ∀ i, fl r l k ≤ i → i < la r l k + 1 → szs r k l i = szs q k l i ∧ ahs r k l i = ahs q k l i := fun i a b => by
    obtain ⟨g1, g2, g3⟩ := blk_in h0 h1 hk a (by omega)
    have es : szs r k l i = szs q k l i := by
      unfold szs
      rw [siz_cg hw he g1 g2 hk0 (by omega)]
    refine ⟨es, ?_⟩
    unfold ahs
    rw [es, ahd_cg hw he g1 g2 hk0 (by omega)]
  have m0 : mS r l k l = mS q l k l := by
    unfold mS
    rw [← fl_cg hw he h0 h1, ← la_cg hw he h0 h1]
    exact mxr_cong (fun i a b => (key i a b).1)
  have m1 : mA r l k l = mA q l k l := by
    unfold mA
    rw [← fl_cg hw he h0 h1, ← la_cg hw he h0 h1]
    exact mxr_cong (fun i a b => (key i a b).2)
  have m2 : mB r l k l = mB q l k l := by
    unfold mB
    rw [← fl_cg hw he h0 h1, ← la_cg hw he h0 h1]
    exact mxr_cong (fun i a b => by unfold bhs; rw [(key i a b).1, (key i a b).2])
  unfold wds nds
  rw [he.2.2.2.1 k hk0 (by omega), m0, m1, m2, he.2.1, he.2.2.1]
theorem svs_cg {r q : Int → Int} (hw : WR r) (he : Eqv r q) (h0 : 0 ≤ l) (h1 : l < r 0) (hk0 : 0 ≤ k) (hk : k < cel r l) : svs r l k = svs q l k := by
  unfold svs
  rw [siz_cg hw he h0 h1 hk0 (by omega), wid_cg hw he h0 h1 hk0 hk, mx_cg hw he h0 h1 hk0 hk, fl_cg hw he h0 h1, la_cg hw he h0 h1]
theorem s2_saves (hr : Eqv (vw M pg) p) (hw : WR p) (hd : pg + 3 < lb ∨ lb + 11 < pg) (hL : Laid lb p M) (h0 : 0 ≤ l) (h1 : l < p 0) (hk0 : 0 ≤ k) (hk : k < cel p l) (hq : ∀ M2 : Mm, (∀ a, a ≠ lb + 8 → M2 a = M a) → Q (svs p l k) M2) : PX2_saves lb pg l k M Q := by
  have hwv : WR (vw M pg) := hr.sy.wr hw
  have hm := hw.1
  have h0v := hr.1
  have h1v : l < vw M pg 0 := by omega
  have hkv : k < cel (vw M pg) l := by rw [cel_cg hwv hr h0 h1v]; exact hk
  have hc := cel_rg hw h0 h1
  have hcc := cell_rg hw h0 h1 hk0 (by omega : k ≤ cel p l)
  have LV := hL.cg hw hr.sy
  have hrg := svs_rg hw h0 h1 hk0 hk
  obtain ⟨-, c2, -⟩ := (hL.2.2 l h0 h1).1.2.2 k hk0 hk
  obtain ⟨w6, -, -⟩ := (hL.2.2 l h0 h1).2.2.2 k hk0 hk
  unfold PX2_saves
  rw [c2]
  refine ⟨by omega, fun hz => ?_, fun hz => ?_⟩
  · have := hq M (fun _ _ => rfl)
    unfold svs at this
    rw [if_pos hz] at this
    exact this
  · have hzv : siz (vw M pg) l k = siz p l k := siz_cg hwv hr h0 h1v hk0 (by omega)
    refine s2_measure rfl hwv hd LV.2.1 (fun i a b => (LV.2.2 i a b).1) h0 h1v hk0 hkv (fun i a b c => by rw [c]; omega) (fun M2 f2 e0 e1 e2 e3 e4 => ⟨by omega, ?_⟩)
    have ev : (M2 (lb + 6) (l * 24 + k) - M2 (lb + 8) 4) * (M2 (lb + 8) 1 - M2 (lb + 8) 0 + 1) = svs p l k := by
      rw [f2 (lb + 6) (by omega), w6, e4, e1, e0, mx_cg hwv hr h0 h1v hk0 hkv, fl_cg hwv hr h0 h1v, la_cg hwv hr h0 h1v]
      unfold svs
      rw [if_neg hz]
    rw [ev]
    exact ⟨by omega, hq M2 f2⟩
theorem s7_saves (hw : WR (M (m + 1))) (h0 : 0 ≤ l) (h1 : l < M (m + 1) 0) (hk0 : 0 ≤ k) (hk : k < cel (M (m + 1)) l) (hq : ∀ M2 : Mm, (∀ a, a ≠ m + 2 → M2 a = M a) → Q (svs (M (m + 1)) l k) M2) : PX7_saves m l k M Q := by
  have hm := hw.1
  have hc := cel_rg hw h0 h1
  have hs := hw.2.1 l h0 h1
  unfold PX7_saves
  refine s7_sizeOf hw h0 h1 hk0 (by omega) ⟨fun hz => ?_, fun hz => ?_⟩
  · have := hq M (fun _ _ => rfl)
    unfold svs at this
    rw [if_pos hz] at this
    exact this
  · obtain ⟨b1, b2, b3, b4, b5⟩ := lst_rg hw h0 h1 hk0 hk hz
    have hrg := svs_rg hw h0 h1 hk0 hk
    have eA := q_all hw h0 h1 hk0 hk hz
    obtain ⟨-, hwq⟩ := oC_cg (at' := lst (M (m + 1)) l k) hw (Eqv.rf (M (m + 1))) h0 h1 ⟨b1, b2⟩
    refine s7_copies (by omega) (fun M4 f4 e4 => ⟨by omega, by omega, ?_⟩)
    rw [e4 (3 + l) (by omega) (by omega)]
    refine ⟨by omega, ?_⟩
    rintro M9 rfl
    have r9 : um M4 (m + 2) (3 + l) (M (m + 1) (3 + l) - 1) (m + 1) = M (m + 1) := by rw [um_ne _ _ _ (by omega), f4 _ (by omega)]
    refine s7_fromOf (by rw [r9]; exact hw) h0 (by rw [r9]; exact h1) hk0 (by rw [r9]; omega) ?_
    rw [r9]
    have el : beg (M (m + 1)) l k + siz (M (m + 1)) l k - 1 = lst (M (m + 1)) l k := rfl
    rw [el]
    refine ⟨by omega, ?_⟩
    refine lr_I (fun v M2 => lst (M (m + 1)) l k ≤ v ∧ v ≤ M (m + 1) (3 + l) - 1 ∧ (∀ a, a ≠ m + 2 → M2 a = M a) ∧ M2 (m + 2) (3 + l) = M (m + 1) (3 + l) - 1 ∧ (∀ j, 0 ≤ j → j < 327 → j ≠ 3 + l → (j < (15 + 24 * l) + lst (M (m + 1)) l k ∨ (15 + 24 * l) + v ≤ j) → M2 (m + 2) j = M (m + 1) j) ∧ (∀ i, lst (M (m + 1)) l k ≤ i → i < v → M2 (m + 2) ((15 + 24 * l) + i) = M (m + 1) ((15 + 24 * l) + (i + 1)))) (fun v _ => (M (m + 1) (3 + l) - v).toNat) ?_ ⟨Int.le_refl _, by omega, fun a ha => by rw [um_ne _ _ _ ha, f4 a ha], um_w _ _ _ _, fun j j0 j1 j2 _ => by rw [um_r _ (by omega)]; exact e4 j j0 j1, fun i a b => by omega⟩
    rintro rec v M2 ⟨a0, a1, f2, z2, g2, s2⟩ hrec
    unfold BX7_saves_54 PX7_signAt
    rw [z2, f2 (m + 1) (by omega)]
    refine ⟨by omega, fun hx => ?_, fun hx => ⟨by omega, by omega, by omega, ?_⟩⟩
    · have hE : Eqv (M2 (m + 2)) (oC (M (m + 1)) l (lst (M (m + 1)) l k)) := by
        refine eqv_mk (by omega) (g2 _ (by omega) (by omega) (by omega) (by omega)) (g2 _ (by omega) (by omega) (by omega) (by omega)) (g2 _ (by omega) (by omega) (by omega) (by omega)) (fun k x y => g2 _ (by omega) (by omega) (by omega) (by omega)) (fun j x y => ?_)
        have hj := hw.2.1 j x (by omega)
        by_cases hjl : j = l
        · subst hjl
          rw [z2, if_pos rfl]
          refine ⟨by omega, by omega, fun i y1 y2 => ?_⟩
          show M2 (m + 2) ((15 + 24 * j) + i) = _
          rw [if_pos rfl]
          by_cases hi : i < lst (M (m + 1)) j k
          · rw [if_pos hi, g2 _ (by omega) (by omega) (by omega) (by omega)]; rfl
          · rw [if_neg hi, s2 i (by omega) (by omega)]; rfl
        · rw [if_neg hjl, g2 _ (by omega) (by omega) (by omega) (by omega)]
          refine ⟨rfl, by omega, fun i y1 y2 => ?_⟩
          show M2 (m + 2) ((15 + 24 * j) + i) = _
          rw [if_neg hjl, g2 _ (by omega) (by omega) (by omega) (by omega)]; rfl
      have hw2 : WR (M2 (m + 2)) := hE.sy.wr hwq
      refine s7_allWide (by rw [f2 _ (by omega)]; exact hw) (s7_allWide hw2 ?_)
      rw [f2 (m + 1) (by omega), alw_cg hw2 hE]
      have ev : alw (M (m + 1)) - alw (oC (M (m + 1)) l (lst (M (m + 1)) l k)) = svs (M (m + 1)) l k := by
        unfold svs
        rw [if_neg hz]
        omega
      rw [ev]
      exact ⟨by omega, hq M2 f2⟩
    · rintro M15 rfl
      refine ⟨by omega, hrec _ _ ⟨by omega, by omega, fun q hqb => by rw [um_ne _ _ _ hqb]; exact f2 q hqb, by rw [um_r _ (by omega)]; exact z2, fun j j0 j1 j2 j3 => by rw [um_r _ (by omega)]; exact g2 j j0 j1 j2 (by omega), fun i c1 c2 => ?_⟩ (by omega)⟩
      by_cases hi : i = v
      · subst hi
        rw [um_w]
      · rw [um_r _ (by omega)]; exact s2 i c1 (by omega)
end SV
section CELL
variable {x : Int} {M : Mm}
theorem i_cell {l k w : Int} (hI : Inv x M) : PX6_cell x l k w M (fun r M1 => PX7_cell (x + 168) l k w M1 (fun r2 M2 => r = r2 ∧ Inv x M2)) := by
  obtain ⟨p, n, ps, c, ⟨h45, hw, he, -, -, hL⟩, ⟨-, hm, -⟩, -⟩ := id hI
  have hb := hw.1
  have hwm := hm.sy.wr hw
  have em := hm.1
  unfold Two at h45
  have no : ¬ (0 ≤ l ∧ l < p 0 ∧ 0 ≤ k ∧ k < cel p l) → PX7_cell (x + 168) l k w M (fun r2 M2 => -1 = r2 ∧ Inv x M2) := by
    intro hn
    unfold PX7_cell
    refine s7_isLine hw hm (fun h0 h1 => ⟨fun z => by omega, fun _ => s7_cellsOf hwm h0 (by omega) ?_⟩) (fun _ => ⟨fun _ => ⟨rfl, hI⟩, fun z => absurd rfl z⟩)
    have hc := cel_rg hw h0 h1
    rw [cel_cg hwm hm h0 (by omega)]
    exact ⟨by omega, s7_in (fun a b => by omega) (fun _ => ⟨fun _ => ⟨rfl, hI⟩, fun z => absurd rfl z⟩)⟩
  have go : ∀ (M2 : Mm) (v : Int), M2 (x + 168 + 1) = M (x + 168 + 1) → 0 ≤ l → l < p 0 → 0 ≤ k → k < cel p l → (((w < 0 ∨ 6 < w) → -1 = v) ∧ (w = 0 → siz p l k = v) ∧ (w = 1 → wid p l k = v) ∧ (w = 2 → bgn p l k = v) ∧ (w = 3 → fl p l k = v) ∧ (w = 4 → la p l k = v) ∧ (w = 5 → wst p l k = v) ∧ (w = 6 → svs p l k = v)) → Inv x M2 → PX7_cell (x + 168) l k w M2 (fun r2 M3 => v = r2 ∧ Inv x M3) := by
    intro M2 v e2 h0 h1 k0 k1 ⟨vb, v0, v1, v2, v3, v4, v5, v6⟩ hI2
    have hm2 : Eqv (M2 (x + 168 + 1)) p := by rw [e2]; exact hm
    have hwm2 : WR (M2 (x + 168 + 1)) := by rw [e2]; exact hwm
    have h1m : l < M2 (x + 168 + 1) 0 := by rw [hm2.1]; exact h1
    have hc := cel_rg hw h0 h1
    have ec := cel_cg hwm2 hm2 h0 h1m
    have k1m : k < cel (M2 (x + 168 + 1)) l := by omega
    unfold PX7_cell
    refine s7_isLine hw hm2 (fun _ _ => ⟨fun z => by omega, fun _ => s7_cellsOf hwm2 h0 h1m ?_⟩) (fun z => by omega)
    rw [ec]
    refine ⟨by omega, s7_in (fun _ _ => ⟨fun z => by omega, fun _ => ?_⟩) (fun z => by omega)⟩
    refine ⟨fun z => ⟨(vb z).symm, hI2⟩, fun z => s7_sizeOf hwm2 h0 h1m k0 (by omega) ⟨?_, hI2⟩, fun z => s7_widthOf hwm2 h0 h1m k0 k1m ⟨?_, hI2⟩, fun z => s7_beginsOf hwm2 h0 h1m k0 (by omega) ⟨?_, hI2⟩, fun z => s7_firstOf hwm2 h0 h1m ⟨?_, hI2⟩, fun z => s7_lastOf hwm2 h0 h1m ⟨?_, hI2⟩, fun z => s7_widest hwm2 h0 h1m k0 k1m ⟨?_, hI2⟩, fun z => s7_saves hwm2 h0 h1m k0 k1m (fun M4 f4 => ⟨?_, hI2.keep (fun a _ b2 => f4 a (by omega))⟩)⟩
    · rw [siz_cg hwm2 hm2 h0 h1m k0 (by omega)]; exact (v0 z).symm
    · rw [wid_cg hwm2 hm2 h0 h1m k0 k1m]; exact (v1 z).symm
    · rw [bgn_cg hwm2 hm2 h0 h1m (by omega)]; exact (v2 z).symm
    · rw [fl_cg hwm2 hm2 h0 h1m]; exact (v3 z).symm
    · rw [la_cg hwm2 hm2 h0 h1m]; exact (v4 z).symm
    · rw [wst_cg hwm2 hm2 h0 h1m k0 k1m]; exact (v5 z).symm
    · rw [svs_cg hwm2 hm2 h0 h1m k0 k1m]; exact (v6 z).symm
  unfold PX6_cell
  refine s3_hasLine he (fun h0 h1 => ⟨fun z => by omega, fun _ => ⟨fun h2 => no (by omega), fun h2 => ⟨by omega, ?_⟩⟩⟩) (fun hn => ⟨fun _ => no (fun z => hn ⟨z.1, z.2.1⟩), fun z => absurd rfl z⟩)
  have hc := cel_rg hw h0 h1
  obtain ⟨⟨l1, -, l5⟩, -, -, l6⟩ := hL.2.2 l h0 h1
  rw [l1]
  refine ⟨fun hk => ?_, fun hk => no (by omega)⟩
  obtain ⟨-, s5, -⟩ := l5 k (by omega) hk
  obtain ⟨s6, -, s7⟩ := l6 k (by omega) hk
  rw [s5, s6, s7]
  have k0 : 0 ≤ k := by omega
  refine ⟨fun hv => go M _ rfl h0 h1 k0 hk ⟨fun _ => rfl, fun z => by omega, fun z => by omega, fun z => by omega, fun z => by omega, fun z => by omega, fun z => by omega, fun z => by omega⟩ hI, fun hv => ⟨by omega, go M _ rfl h0 h1 k0 hk ⟨fun z => by omega, fun _ => rfl, fun z => by omega, fun z => by omega, fun z => by omega, fun z => by omega, fun z => by omega, fun z => by omega⟩ hI⟩, fun hv => ⟨by omega, go M _ rfl h0 h1 k0 hk ⟨fun z => by omega, fun z => by omega, fun _ => rfl, fun z => by omega, fun z => by omega, fun z => by omega, fun z => by omega, fun z => by omega⟩ hI⟩, fun hv => ⟨by omega, go M _ rfl h0 h1 k0 hk ⟨fun z => by omega, fun z => by omega, fun z => by omega, fun _ => rfl, fun z => by omega, fun z => by omega, fun z => by omega, fun z => by omega⟩ hI⟩, fun hv => s2_first hb.2 (fun i a b => (hL.2.2 i a b).1.1) h0 h1 (go M _ rfl h0 h1 k0 hk ⟨fun z => by omega, fun z => by omega, fun z => by omega, fun z => by omega, fun _ => rfl, fun z => by omega, fun z => by omega, fun z => by omega⟩ hI), fun hv => s2_last hb.2 hL.2.1 (fun i a b => (hL.2.2 i a b).1.1) h0 h1 (go M _ rfl h0 h1 k0 hk ⟨fun z => by omega, fun z => by omega, fun z => by omega, fun z => by omega, fun z => by omega, fun _ => rfl, fun z => by omega, fun z => by omega⟩ hI), fun hv => s2_widest he hw (by omega) hL h0 h1 k0 hk (fun M2 f2 => go M2 _ (f2 _ (by omega)) h0 h1 k0 hk ⟨fun z => by omega, fun z => by omega, fun z => by omega, fun z => by omega, fun z => by omega, fun z => by omega, fun _ => rfl, fun z => by omega⟩ (hI.keep (fun a b1 _ => f2 a b1))), fun hv => s2_saves he hw (by omega) hL h0 h1 k0 hk (fun M2 f2 => go M2 _ (f2 _ (by omega)) h0 h1 k0 hk ⟨fun z => by omega, fun z => by omega, fun z => by omega, fun z => by omega, fun z => by omega, fun z => by omega, fun z => by omega, fun _ => rfl⟩ (hI.keep (fun a b1 _ => f2 a b1)))⟩
end CELL
