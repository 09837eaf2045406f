section KEEP8
variable {M M2 : Mm} {x m n c : Int} {p : Int → Int} {ps : Int → Int → Int}
theorem CP.keep8 (h : CP x M p n ps c) (hf : ∀ a, a ≠ x + M x 4 + 8 → x ≤ a → a ≤ x + 73 → M2 a = M a) : CP x M2 p n ps c := by
  obtain ⟨h45, hw, he, hpa, hc, hL⟩ := h
  have h45' := h45
  unfold Two at h45'
  have ex := hf x (by omega) (by omega) (by omega)
  refine ⟨by unfold Two; rw [ex]; exact h45, hw, ?_, hpa.keep (fun a b1 b2 => hf a (by omega) (by omega) (by omega)), by rw [ex]; exact hc, ?_⟩
  · rw [vw_same (hf _ (by omega) (by omega) (by omega)) (hf _ (by omega) (by omega) (by omega)) (hf _ (by omega) (by omega) (by omega)) (hf _ (by omega) (by omega) (by omega))]; exact he
  · rw [ex]
    exact hL.keep (fun a b1 b2 b3 => hf a b3 (by omega) (by omega))
theorem MP.keep2 (h : MP m M p n ps c) (hf : ∀ a, a ≠ m + 2 → m ≤ a → a ≤ m + 4 → M2 a = M a) : MP m M2 p n ps c := by
  obtain ⟨hw, he, hpa, hc⟩ := h
  have em := hf m (by omega) (by omega) (by omega)
  exact ⟨hw, by rw [hf _ (by omega) (by omega) (by omega)]; exact he, hpa.keep (by rw [em]) (by rw [em]) (hf _ (by omega) (by omega) (by omega)), by rw [em]; exact hc⟩
/-- what reading changes counts for nothing -/
theorem Inv.keep (h : Inv x M) (hf : ∀ a, a ≠ x + M x 4 + 8 → a ≠ x + 170 → M2 a = M a) : Inv x M2 := by
  obtain ⟨p, n, ps, c, h1, h2, ⟨tn, tx, h3⟩, kb, kq, kn, ks, h4⟩ := h
  have h45 := h1.1
  unfold Two at h45
  refine ⟨p, n, ps, c, h1.keep8 (fun a b1 b2 b3 => hf a b1 (by omega)), h2.keep2 (fun a b1 b2 b3 => hf a (by omega) (by omega)), ⟨tn, tx, h3.keep (hf _ (by omega) (by omega)) (hf _ (by omega) (by omega)) (by rw [hf _ (by omega) (by omega)]) (hf _ (by omega) (by omega))⟩, kb, kq, kn, ks, h4.keep (fun a b1 b2 => hf a (by omega) (by omega)) (fun a b1 b2 => hf a (by omega) (by omega))⟩
end KEEP8
section CNT
variable {M : Mm} {m x lb : Int} {p : Int → Int} {Q : Int → Mm → Prop}
theorem pv_rg {r : Int → Int} {i : Int} (hw : WR r) (h0 : 0 ≤ i) (h1 : i < r 0) : 0 ≤ pv r i ∧ pv r i ≤ 24 := by
  unfold pv
  split
  · omega
  · have := cel_rg hw (show 0 ≤ i - 1 by omega) (show i - 1 < r 0 by omega)
    omega
theorem bks_rg {r : Int → Int} {v : Int} (hw : WR r) (h0 : 0 ≤ v) (h1 : v ≤ r 0) : 0 ≤ bks r v ∧ bks r v ≤ 24 * v := sm_rg h0 (fun i p0 p1 => by
  have c1 := cel_rg hw p0 (by omega : i < r 0)
  have c2 := pv_rg hw p0 (by omega : i < r 0)
  show 0 ≤ max 0 (cel r i - pv r i) ∧ max 0 (cel r i - pv r i) ≤ 24
  omega)
theorem s7_blocks (hw : WR (M (m + 1))) (hq : Q (bks (M (m + 1)) (M (m + 1) 0)) M) : PX7_blocks m M Q := by
  have hm := hw.1
  unfold PX7_blocks
  refine lk_II (fun u v => u = bks (M (m + 1)) v ∧ 0 ≤ v ∧ v ≤ M (m + 1) 0) (fun _ v => (M (m + 1) 0 - v).toNat) ?_ ⟨rfl, Int.le_refl _, hm.1⟩
  rintro rec u v ⟨rfl, h0, h1⟩ hrec
  have hb := bks_rg hw h0 h1
  unfold BX7_blocks_4
  refine ⟨fun hx => by rw [show v = M (m + 1) 0 by omega]; exact hq, fun hx => ?_⟩
  have hc := cel_rg hw h0 (by omega : v < M (m + 1) 0)
  have hs : bks (M (m + 1)) (v + 1) = bks (M (m + 1)) v + max 0 (cel (M (m + 1)) v - pv (M (m + 1)) v) := sm_s _ h0
  refine ⟨fun hv => s7_cellsOf hw h0 (by omega) ?_, fun hv => ⟨by omega, s7_cellsOf hw (by omega) (by omega) (s7_cellsOf hw h0 (by omega) ?_)⟩⟩
  · have hp : pv (M (m + 1)) v = 0 := by unfold pv; rw [if_pos (by omega)]
    exact ⟨fun hz => ⟨by omega, by omega, hrec _ _ ⟨by omega, by omega, by omega⟩ (by omega)⟩, fun hz => ⟨by omega, by omega, hrec _ _ ⟨by omega, by omega, by omega⟩ (by omega)⟩⟩
  · have hp : pv (M (m + 1)) v = cel (M (m + 1)) (v - 1) := by unfold pv; rw [if_neg (by omega)]
    have hc2 := cel_rg hw (by omega : 0 ≤ v - 1) (by omega : v - 1 < M (m + 1) 0)
    exact ⟨fun hz => ⟨by omega, by omega, hrec _ _ ⟨by omega, by omega, by omega⟩ (by omega)⟩, fun hz => ⟨by omega, by omega, hrec _ _ ⟨by omega, by omega, by omega⟩ (by omega)⟩⟩
theorem s7_widestLine (hw : WR (M (m + 1))) (hq : Q (mxr (wde (M (m + 1))) 0 (M (m + 1) 0)) M) : PX7_widestLine m M Q := by
  have hm := hw.1
  unfold PX7_widestLine
  refine lk_II (fun u v => u = mxr (wde (M (m + 1))) 0 v ∧ 0 ≤ v ∧ v ≤ M (m + 1) 0) (fun _ v => (M (m + 1) 0 - v).toNat) ?_ ⟨(mxr_0 _ (Int.le_refl _)).symm, Int.le_refl _, hm.1⟩
  rintro rec u v ⟨rfl, h0, h1⟩ hrec
  unfold BX7_widestLine_4
  refine ⟨fun hx => by rw [show v = M (m + 1) 0 by omega]; exact hq, fun hx => ?_⟩
  have hs := mxr_s (wde (M (m + 1))) h0
  exact s7_wideOf hw h0 (by omega) ⟨fun hz => ⟨by omega, hrec _ _ ⟨by omega, by omega, by omega⟩ (by omega)⟩, fun hz => s7_wideOf hw h0 (by omega) ⟨by omega, hrec _ _ ⟨by omega, by omega, by omega⟩ (by omega)⟩⟩
theorem s2_widestLine (hw : WR p) (hL : Laid lb p M) (hq : Q (mxr (wde p) 0 (p 0)) M) : PX2_widestLine lb M Q := by
  have hm := hw.1
  unfold PX2_widestLine
  refine lk_II (fun u v => u = mxr (wde p) 0 v ∧ 0 ≤ v ∧ v ≤ p 0) (fun _ v => (p 0 - v).toNat) ?_ ⟨(mxr_0 _ (Int.le_refl _)).symm, Int.le_refl _, hm.1⟩
  rintro rec u v ⟨rfl, h0, h1⟩ hrec
  unfold BX2_widestLine_4
  rw [hL.2.1]
  refine ⟨fun hx => by rw [show v = p 0 by omega]; exact hq, fun hx => ⟨by omega, by omega, ?_⟩⟩
  rw [(hL.2.2 v h0 (by omega)).2.2.1, ← mxr_s (wde p) h0]
  exact hrec _ _ ⟨rfl, by omega, by omega⟩ (by omega)
theorem s2_allTogether (hw : WR p) (hL : Laid lb p M) (hq : Q (alw p) M) : PX2_allTogether lb M Q := by
  have hm := hw.1
  unfold PX2_allTogether
  refine lk_II (fun u v => u = sm (wde p) v ∧ 0 ≤ v ∧ v ≤ p 0) (fun _ v => (p 0 - v).toNat) ?_ ⟨rfl, Int.le_refl _, hm.1⟩
  rintro rec u v ⟨rfl, h0, h1⟩ hrec
  unfold BX2_allTogether_4
  rw [hL.2.1]
  refine ⟨fun hx => by rw [show v = p 0 by omega]; exact hq, fun hx => ⟨by omega, ?_⟩⟩
  have b1 := alw_rg hw h0 h1
  have b2 := wde_rg hw h0 (by omega : v < p 0)
  rw [(hL.2.2 v h0 (by omega)).2.2.1]
  exact ⟨by omega, by omega, hrec _ _ ⟨(sm_s _ h0).symm, by omega, by omega⟩ (by omega)⟩
theorem i_count {w : Int} (hI : Inv x M) : PX6_count x w M (fun r M1 => PX7_count (x + 168) w M1 (fun r2 M2 => r = r2 ∧ Inv x M2)) := by
  obtain ⟨p, n, ps, c, ⟨h45, hw, he, hpa, hc, hL⟩, ⟨-, hm, mpa, mc⟩, ⟨tn, tx, ⟨t1, -⟩, ⟨s1, -⟩, -⟩, -⟩ := id hI
  have hb := hw.1
  have hwm := hm.sy.wr hw
  unfold PX6_count
  refine ⟨fun hv => ?_, fun hv => ?_, fun hv => ?_, fun hv => ?_, fun hv => ?_, fun hv => ?_, fun hv => s2_widestLine hw hL ?_, fun hv => s2_allTogether hw hL ?_, fun hv => ?_, fun hv => ?_⟩ <;> unfold PX7_count
  · exact ⟨fun _ => ⟨rfl, hI⟩, fun z => by omega, fun z => by omega, fun z => by omega, fun z => by omega, fun z => by omega, fun z => by omega, fun z => by omega, fun z => by omega, fun z => by omega⟩
  · exact ⟨fun z => by omega, fun _ => ⟨by rw [hm.1]; exact he.1, hI⟩, fun z => by omega, fun z => by omega, fun z => by omega, fun z => by omega, fun z => by omega, fun z => by omega, fun z => by omega, fun z => by omega⟩
  · exact ⟨fun z => by omega, fun z => by omega, fun _ => ⟨by rw [hm.2.1]; exact he.2.1, hI⟩, fun z => by omega, fun z => by omega, fun z => by omega, fun z => by omega, fun z => by omega, fun z => by omega, fun z => by omega⟩
  · exact ⟨fun z => by omega, fun z => by omega, fun z => by omega, fun _ => ⟨by rw [hm.2.2.1]; exact he.2.2.1, hI⟩, fun z => by omega, fun z => by omega, fun z => by omega, fun z => by omega, fun z => by omega, fun z => by omega⟩
  · exact ⟨fun z => by omega, fun z => by omega, fun z => by omega, fun z => by omega, fun _ => ⟨by rw [mc]; exact hc, hI⟩, fun z => by omega, fun z => by omega, fun z => by omega, fun z => by omega, fun z => by omega⟩
  · exact ⟨fun z => by omega, fun z => by omega, fun z => by omega, fun z => by omega, fun z => by omega, fun _ => s7_blocks hwm ⟨by rw [hL.1, bks_cg hwm hm], hI⟩, fun z => by omega, fun z => by omega, fun z => by omega, fun z => by omega⟩
  · refine ⟨fun z => by omega, fun z => by omega, fun z => by omega, fun z => by omega, fun z => by omega, fun z => by omega, fun _ => s7_widestLine hwm ⟨?_, hI⟩, fun z => by omega, fun z => by omega, fun z => by omega⟩
    rw [hm.1]
    exact (mxr_cong (fun i a b => wde_cg hwm hm a (by rw [hm.1]; exact b))).symm
  · exact ⟨fun z => by omega, fun z => by omega, fun z => by omega, fun z => by omega, fun z => by omega, fun z => by omega, fun z => by omega, fun _ => s7_allWide hwm ⟨(alw_cg hwm hm).symm, hI⟩, fun z => by omega, fun z => by omega⟩
  · exact ⟨fun z => by omega, fun z => by omega, fun z => by omega, fun z => by omega, fun z => by omega, fun z => by omega, fun z => by omega, fun z => by omega, fun _ => ⟨by rw [mpa.1]; exact hpa.1, hI⟩, fun z => by omega⟩
  · exact ⟨fun z => by omega, fun z => by omega, fun z => by omega, fun z => by omega, fun z => by omega, fun z => by omega, fun z => by omega, fun z => by omega, fun z => by omega, fun _ => ⟨by rw [s1]; exact t1, hI⟩⟩
end CNT
/-! ===== the line that makes a block so wide ===== -/
def wst (r : Int → Int) (l k : Int) : Int := if ned r l k < r 2 then -9 else if r (303 + k) = 3 then fi (gm r k 1) (mst r l k 1) (la r l k + 1) (fl r l k) else fi (gm r k 0) (mst r l k 0) (la r l k + 1) (fl r l k)
theorem fst_in {r : Int → Int} {l k w : Int} (hw : WR r) (h0 : 0 ≤ l) (h1 : l < r 0) (hk0 : 0 ≤ k) (hk : k < cel r l) : fl r l k ≤ fi (gm r k w) (mst r l k w) (la r l k + 1) (fl r l k) ∧ fi (gm r k w) (mst r l k w) (la r l k + 1) (fl r l k) ≤ la r l k ∧ gm r k w (fi (gm r k w) (mst r l k w) (la r l k + 1) (fl r l k)) = mst r l k w := by
  have hb := blk_rg (r := r) (k := k) h0 h1
  obtain ⟨i, i0, i1, i2⟩ := mxr_hit (g := gm r k w) (a := fl r l k) (b := la r l k + 1) (fun i a b => (gm_rg hw h0 h1 hk0 hk w a (by omega)).1) (by omega)
  obtain ⟨g1, g2, g3, g4⟩ := fi_spec (gm r k w) (mst r l k w) (show fl r l k ≤ la r l k + 1 by omega)
  have hlt : fi (gm r k w) (mst r l k w) (la r l k + 1) (fl r l k) < la r l k + 1 := by
    rcases ilg (fi (gm r k w) (mst r l k w) (la r l k + 1) (fl r l k)) (la r l k + 1) with z | z
    · exact z
    · exact absurd i2 (g3 i i0 (by omega))
  exact ⟨g1, by omega, g4 hlt⟩
section WST
variable {M : Mm} {m x lb pg l k : Int} {p : Int → Int} {Q : Int → Mm → Prop}
theorem s7_widest (hw : WR (M (m + 1))) (h0 : 0 ≤ l) (h1 : l < M (m + 1) 0) (hk0 : 0 ≤ k) (hk : k < cel (M (m + 1)) l) (hq : Q (wst (M (m + 1)) l k) M) : PX7_widest m l k M Q := by
  have hm := hw.1
  have hc := cel_rg hw h0 h1
  have hb := blk_rg (r := M (m + 1)) (k := k) h0 h1
  unfold wst at hq
  unfold PX7_widest
  refine s7_needOf hw h0 h1 hk0 hk ⟨fun hz => ⟨by omega, fun h3 => ?_, fun h3 => ?_⟩, fun hz => by rw [if_pos (by omega)] at hq; exact hq⟩
  · rw [if_neg (by omega), if_pos h3] at hq
    refine ⟨fun z => by omega, fun _ => s7_mostOf hw h0 h1 hk0 hk (s7_firstOf hw h0 h1 ?_)⟩
    obtain ⟨g1, g2, g3⟩ := fst_in (w := 1) hw h0 h1 hk0 hk
    refine lk_I (fun v => fl (M (m + 1)) l k ≤ v ∧ v ≤ la (M (m + 1)) l k ∧ fi (gm (M (m + 1)) k 1) (mst (M (m + 1)) l k 1) (la (M (m + 1)) l k + 1) v = fi (gm (M (m + 1)) k 1) (mst (M (m + 1)) l k 1) (la (M (m + 1)) l k + 1) (fl (M (m + 1)) l k)) (fun v => (la (M (m + 1)) l k - v).toNat) ?_ ⟨Int.le_refl _, by omega, rfl⟩
    rintro rec v ⟨a0, a1, ev⟩ hrec
    obtain ⟨b1, b2, b3⟩ := blk_in h0 h1 hk a0 a1
    unfold BX7_widest_72
    have hge : gm (M (m + 1)) k 1 v ≤ mst (M (m + 1)) l k 1 := mxr_ge _ a0 (by omega)
    have hgv : gm (M (m + 1)) k 1 v = ahd (M (m + 1)) v k := rfl
    refine ⟨fun z => by omega, fun _ => s7_aheadOf hw b1 b2 hk0 (by omega) ⟨fun hy => ?_, fun hy => ?_⟩⟩
    · rw [fi_stop (fun z => z.2 (by omega))] at ev
      rw [ev]; exact hq
    · rw [fi_go (by omega) (by omega)] at ev
      have : v + 1 ≤ la (M (m + 1)) l k := by
        rcases ilg v (la (M (m + 1)) l k) with z | z
        · omega
        · rw [fi_stop (by omega)] at ev
          omega
      exact ⟨by omega, hrec _ ⟨by omega, this, ev⟩ (by omega)⟩
  · rw [if_neg (by omega), if_neg h3] at hq
    refine ⟨fun _ => s7_mostOf hw h0 h1 hk0 hk (s7_firstOf hw h0 h1 ?_), fun z => absurd rfl z⟩
    obtain ⟨g1, g2, g3⟩ := fst_in (w := 0) hw h0 h1 hk0 hk
    refine lk_I (fun v => fl (M (m + 1)) l k ≤ v ∧ v ≤ la (M (m + 1)) l k ∧ fi (gm (M (m + 1)) k 0) (mst (M (m + 1)) l k 0) (la (M (m + 1)) l k + 1) v = fi (gm (M (m + 1)) k 0) (mst (M (m + 1)) l k 0) (la (M (m + 1)) l k + 1) (fl (M (m + 1)) l k)) (fun v => (la (M (m + 1)) l k - v).toNat) ?_ ⟨Int.le_refl _, by omega, rfl⟩
    rintro rec v ⟨a0, a1, ev⟩ hrec
    obtain ⟨b1, b2, b3⟩ := blk_in h0 h1 hk a0 a1
    unfold BX7_widest_72
    have hge : gm (M (m + 1)) k 0 v ≤ mst (M (m + 1)) l k 0 := mxr_ge _ a0 (by omega)
    have hgv : gm (M (m + 1)) k 0 v = siz (M (m + 1)) v k := rfl
    refine ⟨fun _ => s7_sizeOf hw b1 b2 hk0 (by omega) ⟨fun hy => ?_, fun hy => ?_⟩, fun z => absurd rfl z⟩
    · rw [fi_stop (fun z => z.2 (by omega))] at ev
      rw [ev]; exact hq
    · rw [fi_go (by omega) (by omega)] at ev
      have : v + 1 ≤ la (M (m + 1)) l k := by
        rcases ilg v (la (M (m + 1)) l k) with z | z
        · omega
        · rw [fi_stop (by omega)] at ev
          omega
      exact ⟨by omega, hrec _ ⟨by omega, this, ev⟩ (by omega)⟩
theorem s2_widest (hr : Eqv (vw M pg) p) (hw : WR p) (hd : pg + 3 < lb ∨ lb + 11 < pg) (hL : Laid lb p M) (h0 : 0 ≤ l) (h1 : l < p 0) (hk0 : 0 ≤ k) (hk : k < cel p l) (hq : ∀ M2 : Mm, (∀ a, a ≠ lb + 8 → M2 a = M a) → Q (wst p l k) M2) : PX2_widest lb pg l k M Q := by
  have hwv : WR (vw M pg) := hr.sy.wr hw
  have hm := hw.1
  have h0v := hr.1
  have h1v : l < vw M pg 0 := by omega
  have hkv : k < cel (vw M pg) l := by rw [cel_cg hwv hr h0 h1v]; exact hk
  have hc := cel_rg hw h0 h1
  have hb := blk_rg (r := p) (k := k) h0 h1
  have LV := hL.cg hw hr.sy
  obtain ⟨o0, o1, o2, on, ow⟩ := ms_own (sh := -9) hwv h0 h1v hk0 hkv (by omega)
  unfold wst at hq
  unfold PX2_widest
  refine s2_measure rfl hwv hd LV.2.1 (fun i a b => (LV.2.2 i a b).1) h0 h1v hk0 hkv (fun i a b c => by have := (blk_rg (r := vw M pg) (k := k) h0 h1v).1; omega) (fun M2 f2 e0 e1 e2 e3 e4 => ?_)
  have ev : vw M2 pg = vw M pg := vw_same (f2 _ (by omega)) (f2 _ (by omega)) (f2 _ (by omega)) (f2 _ (by omega))
  have E2 : Eqv (vw M2 pg) p := by rw [ev]; exact hr
  have e0' : M2 (lb + 8) 0 = fl p l k := by rw [e0, fl_cg hwv hr h0 h1v]
  have e1' : M2 (lb + 8) 1 = la p l k := by rw [e1, la_cg hwv hr h0 h1v]
  have e2' : M2 (lb + 8) 2 = mst p l k 1 := by rw [e2, o1, mst_cg hwv hr h0 h1v hk0 hkv]
  have e3' : M2 (lb + 8) 3 = ned p l k := by rw [e3, on, ned_cg hwv hr h0 h1v hk0 hkv]
  have L2 : Laid lb p M2 := hL.keep (fun a b1 b2 b3 => f2 a b3)
  rw [show M2 pg 2 = p 2 from E2.2.2.1, e3', e0', e2']
  rw [show M2 (pg + 3) k = p (303 + k) by rw [← E2.2.2.2.1 k hk0 (by omega)]; exact (vw_al M2 pg hk0).symm]
  have loop : ∀ (w fl' : Int), (w = 0 ∨ w = 1) → fl' = (if w = 0 then 0 else 1) → (∀ M2 : Mm, (∀ a, a ≠ lb + 8 → M2 a = M a) → Q (fi (gm p k w) (mst p l k w) (la p l k + 1) (fl p l k)) M2) → ∃ t, lp_I (BX2_widest_76 Q lb k fl' (mst p l k w)) t (fl p l k) M2 := by
    intro w fl' hw01 hfl hq2
    obtain ⟨g1, g2, g3⟩ := fst_in (w := w) hw h0 h1 hk0 hk
    refine lk_I (fun v => fl p l k ≤ v ∧ v ≤ la p l k ∧ fi (gm p k w) (mst p l k w) (la p l k + 1) v = fi (gm p k w) (mst p l k w) (la p l k + 1) (fl p l k)) (fun v => (la p l k - v).toNat) ?_ ⟨Int.le_refl _, by omega, rfl⟩
    rintro rec v ⟨a0, a1, ev2⟩ hrec
    obtain ⟨b1, b2, b3⟩ := blk_in h0 h1 hk a0 a1
    have hcv := cel_rg hw b1 b2
    obtain ⟨-, c2, c3⟩ := (L2.2.2 v b1 b2).1.2.2 k hk0 b3
    have hit : gm p k w v = mst p l k w → Q v M2 := by
      intro hy
      rw [fi_stop (fun z => z.2 hy)] at ev2
      rw [ev2]; exact hq2 M2 f2
    have miss : ¬ gm p k w v = mst p l k w → inR (v + 1) ∧ rec (v + 1) M2 := by
      intro hy
      rw [fi_go (by omega) hy] at ev2
      have : v + 1 ≤ la p l k := by
        rcases ilg v (la p l k) with z | z
        · omega
        · rw [fi_stop (by omega)] at ev2
          omega
      exact ⟨by omega, hrec _ ⟨by omega, this, ev2⟩ (by omega)⟩
    unfold BX2_widest_76
    rw [e1', c2, c3]
    refine ⟨fun z => by omega, fun _ => ⟨fun hf => ⟨by omega, ?_⟩, fun hf => ⟨by omega, ?_⟩⟩⟩
    · have w0 : w = 0 := by
        rcases hw01 with z | z
        · exact z
        · rw [if_neg (by omega)] at hfl; omega
      have eg : gm p k w v = siz p v k := by rw [w0]; rfl
      rw [eg] at hit miss
      exact ⟨hit, miss⟩
    · have w1 : w = 1 := by
        rcases hw01 with z | z
        · rw [if_pos z] at hfl; omega
        · exact z
      have eg : gm p k w v = ahd p v k := by rw [w1]; rfl
      rw [eg] at hit miss
      exact ⟨hit, miss⟩
  refine ⟨fun hz => ⟨by omega, fun h3 => ⟨fun z => by omega, fun _ => ?_⟩, fun h3 => ⟨fun _ => ?_, fun z => absurd rfl z⟩⟩, fun hz => ?_⟩
  · rw [if_neg (by omega), if_pos h3] at hq
    exact loop 1 1 (Or.inr rfl) rfl hq
  · rw [if_neg (by omega), if_neg h3] at hq
    have hne : ned p l k = mst p l k 0 := by unfold ned; rw [if_neg h3]
    rw [hne]
    exact loop 0 0 (Or.inl rfl) rfl hq
  · rw [if_pos (by omega)] at hq
    exact hq M2 f2
theorem wst_cg {r q : Int → Int} (hw : WR r) (he : Eqv r q) (h0 : 0 ≤ l) (h1 : l < r 0) (hk0 : 0 ≤ k) (hk : k < cel r l) : wst r l k = wst q l k := by
  have hc := cel_rg hw h0 h1
  have hb := blk_rg (r := r) (k := k) h0 h1
  have eg : ∀ w i, fl r l k ≤ i → i < la r l k + 1 → gm r k w i = gm q k w i := fun w i a b => by
    obtain ⟨g1, g2, g3⟩ := blk_in h0 h1 hk a (by omega)
    unfold gm
    rw [siz_cg hw he g1 g2 hk0 (by omega), ahd_cg hw he g1 g2 hk0 (by omega)]
  unfold wst
  rw [ned_cg hw he h0 h1 hk0 hk, he.2.2.1, he.2.2.2.1 k hk0 (by omega), ← fl_cg hw he h0 h1, ← la_cg hw he h0 h1, ← mst_cg hw he h0 h1 hk0 hk, ← mst_cg hw he h0 h1 hk0 hk, fi_cong (by omega) (eg 1), fi_cong (by omega) (eg 0)]
end WST
