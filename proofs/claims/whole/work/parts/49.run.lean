section RUN
variable {M : Mm} {x m n c : Int} {p : Int → Int} {ps : Int → Int → Int} {tn : Int} {tx : Int → Int}
theorem CP.cg {q : Int → Int} (h : CP x M p n ps c) (he : Eqv p q) : CP x M q n ps c := by
  obtain ⟨h45, hw, hv, hpa, hc, hL⟩ := h
  exact ⟨h45, he.wr hw, hv.tr he, hpa, hc, hL.cg hw he⟩
theorem MP.cg {q : Int → Int} (h : MP m M p n ps c) (he : Eqv p q) : MP m M q n ps c := by
  obtain ⟨hw, hv, hpa, hc⟩ := h
  exact ⟨he.wr hw, hv.tr he, hpa, hc⟩
/-- the line added may be told by other signs where they are not looked at -/
theorem add_cg {l w : Int} {f g : Int → Int} (hw : WR p) (hl : 0 ≤ l) (h1 : l ≤ p 0) (h2 : p 0 < 12) (hz : 0 ≤ w ∧ w ≤ 24) (hfg : ∀ i, 0 ≤ i → i < w → f i = g i) : Eqv (oW p l w f) (oW p l w g) ∧ msk (oW p l w f) p (og l (-9)) (oW p l w f 0) = msk (oW p l w g) p (og l (-9)) (oW p l w g 0) := by
  obtain ⟨k1, k2⟩ := oW_cg (l := l) (n := w) hw (Eqv.rf p) hl h1 h2 hz hfg
  refine ⟨k1, ?_⟩
  have hm := hw.1
  have e0 : oW p l w f 0 = p 0 + 1 := rfl
  have e1 : oW p l w g 0 = p 0 + 1 := rfl
  rw [e1, e0]
  refine msk_cg k2 hw k1 (Eqv.rf p) (by rw [e0]; exact Int.le_refl _) (fun j a b => ?_) (by omega)
  rw [og_op hl]
  split
  · omega
  · split <;> omega
theorem c_perform {Q : Int → Mm → Prop} {v n1 n2 wf we' nx a : Int} (hT : TS (x + 47) M tn tx) (hG : GK tn tx a v n1 n2 wf we' nx) (h2 : M (x + 47) 2 = v) (h3 : M (x + 47) 3 = n1) (h4 : (v = 2 ∨ v = 4 ∨ v = 5 ∨ v = 6) → M (x + 47) 4 = n2) (h5 : M (x + 47) 5 = wf) (h6 : M (x + 47) 6 = we') (h : CP x M p n ps c) (hK : Tcmd tx v n1 n2 wf we' p n ps c (fun r p' n' ps' c' => ∀ (r2 : Int) (M2 : Mm), (r2 < 0 ↔ r < 0) → FC x M M2 → CP x M2 p' n' ps' c' → Q r2 M2)) : PX6_perform x M Q := by
  obtain ⟨t1, t2, t3⟩ := hT
  obtain ⟨gv, g1, g2, gw, g0, g6, gx⟩ := hG
  obtain ⟨K0, K1, K2, K3, K4, K5, K6, K7, K8⟩ := hK
  have hw := h.2.1
  unfold PX6_perform
  rw [h2, h3, h5]
  refine ⟨fun z => by omega, fun z => ?_, fun z => c_drop h (K1 z), fun z => ?_, fun z => ?_, fun z => ⟨by omega, ?_⟩, fun z => ?_, fun z => ?_, fun z => c_pad h (K7 z), fun z => c_least h (K8 z)⟩
  · have KK := K0 z
    have ebw : M (x + 47 + 1) (M (x + 47) 5) = tx wf := by rw [h5]; exact t2 wf gw.1 (by omega)
    have hz : 0 ≤ (if we' - wf = 1 ∧ tx wf = 45 then 0 else we' - wf) ∧ (if we' - wf = 1 ∧ tx wf = 45 then 0 else we' - wf) ≤ we' - wf := by split <;> omega
    refine c_add (w := if we' - wf = 1 ∧ tx wf = 45 then 0 else we' - wf) (by have := g0 z; omega) (by rw [h6, ebw, h5]) h ⟨KK.1, fun hc r2 M2 hr f2 c2 => ?_⟩
    obtain ⟨e1, e2⟩ := add_cg (l := n1) (w := if we' - wf = 1 ∧ tx wf = 45 then 0 else we' - wf) (f := fun i => M (x + 47 + 1) (M (x + 47) 5 + i)) (g := fun i => tx (wf + i)) hw hc.1 hc.2.1 hc.2.2 (by have := g0 z; omega) (fun i a b => by rw [h5]; exact t2 _ (by omega) (by omega))
    rw [e2] at c2
    exact KK.2 hc r2 M2 hr f2 (c2.cg e1)
  · rw [h4 (Or.inl z)]
    have KK := K2 z
    exact c_split h ⟨fun y M2 f2 c2 => KK.1 y _ M2 Iff.rfl f2 c2, fun y1 y2 M2 f2 c2 => KK.2.1 y1 y2 _ M2 Iff.rfl f2 c2, fun y1 y2 M2 f2 c2 => KK.2.2 y1 y2 _ M2 Iff.rfl f2 c2⟩
  · have KK := K3 z
    exact c_join h ⟨fun y M2 f2 c2 => KK.1 y _ M2 Iff.rfl f2 c2, fun y1 y2 M2 f2 c2 => KK.2.1 y1 y2 _ M2 Iff.rfl f2 c2, fun y1 y2 M2 f2 c2 => KK.2.2 y1 y2 _ M2 Iff.rfl f2 c2⟩
  · rw [h4 (Or.inr (Or.inl z)), t2 wf gw.1 (by omega)]
    have KK := K4 z
    exact c_put h ⟨fun y M2 f2 c2 => KK.1 y _ M2 Iff.rfl f2 c2, fun y1 y2 M2 f2 c2 => KK.2.1 y1 y2 _ M2 Iff.rfl f2 c2, fun y1 y2 M2 f2 c2 => KK.2.2 y1 y2 _ M2 Iff.rfl f2 c2⟩
  · rw [h4 (Or.inr (Or.inr (Or.inl z)))]
    have KK := K5 z
    exact c_cut h ⟨fun y M2 f2 c2 => KK.1 y _ M2 Iff.rfl f2 c2, fun y1 M2 f2 c2 => KK.2 y1 _ M2 Iff.rfl f2 c2⟩
  · rw [h4 (Or.inr (Or.inr (Or.inr z)))]
    exact c_align (by have := g6 z; omega) h (K6 z)
theorem m_does {Q : Int → Mm → Prop} {v n1 n2 wf we' nx a : Int} (hT : TM m M tn tx) (hG : GK tn tx a v n1 n2 wf we' nx) (h14 : M m 14 = v) (h15 : M m 15 = n1) (h16 : (v = 2 ∨ v = 4 ∨ v = 5) → M m 16 = n2) (h10 : M m 10 = wf) (h11 : M m 11 = we' - wf) (h : MP m M p n ps c) (hK : Tcmd tx v n1 n2 wf we' p n ps c (fun r p' n' ps' c' => ∀ (r2 : Int) (M2 : Mm), (r2 < 0 ↔ r < 0) → FM m M M2 → MP m M2 p' n' ps' c' → Q r2 M2)) : PX7_does m M Q := by
  obtain ⟨t1, t2, t3, t4⟩ := id hT
  obtain ⟨gv, g1, g2, gw, g0, g6, gx⟩ := hG
  obtain ⟨K0, K1, K2, K3, K4, K5, K6, K7, K8⟩ := hK
  have hw := h.1
  have hwR : WR (M (m + 1)) := h.2.1.sy.wr hw
  have ebw : M (m + 5) wf = tx wf := t2 wf gw.1 (by omega)
  unfold PX7_does
  rw [h14, h15, h10]
  refine ⟨fun z => ?_, fun z => ?_, fun z => ?_, fun z => ?_, fun z => ?_, fun z => ⟨by omega, ?_⟩, fun z => ?_, fun z => ?_, fun z => ?_⟩
  · have KK := K8 (by omega)
    refine ⟨fun y => m_no (KK.1 (by omega) _ M Iff.rfl (FM.rf m M) h), fun y => ?_⟩
    obtain ⟨k1, k2⟩ := oL_cg (v := n1) hwR h.2.1 (by omega)
    exact m_becomes (by omega) h ((eq_oL hwR).tr k1) (k1.wr k2) rfl (fun M2 f2 c2 => KK.2 (by omega) _ M2 Iff.rfl f2 c2)
  · have KK := K0 z
    have hz : 0 ≤ (if we' - wf = 1 ∧ tx wf = 45 then 0 else we' - wf) ∧ (if we' - wf = 1 ∧ tx wf = 45 then 0 else we' - wf) ≤ we' - wf := by split <;> omega
    refine m_adds (w := if we' - wf = 1 ∧ tx wf = 45 then 0 else we' - wf) (by have := g0 z; omega) (by rw [h11, h10, ebw]) h ⟨fun y M2 f2 c2 => KK.1 (by rw [← h15]; exact y) _ M2 Iff.rfl f2 c2, fun hc M2 f2 c2 => ?_⟩
    rw [h15] at hc
    obtain ⟨e1, e2⟩ := add_cg (l := n1) (w := if we' - wf = 1 ∧ tx wf = 45 then 0 else we' - wf) (f := fun i => M (m + 5) (M m 10 + i)) (g := fun i => tx (wf + i)) hw hc.1 hc.2.1 hc.2.2 (by have := g0 z; omega) (fun i a b => by rw [h10]; exact t2 _ (by omega) (by omega))
    rw [h15, e2] at c2
    exact KK.2 hc _ M2 Iff.rfl f2 (c2.cg e1)
  · have KK := K1 z
    refine m_drops h ?_
    rw [h15]
    exact ⟨fun y M2 f2 c2 => KK.1 y _ M2 Iff.rfl f2 c2, fun y M2 f2 c2 => KK.2 y _ M2 Iff.rfl f2 c2⟩
  · rw [h16 (Or.inl z)]
    have KK := K2 z
    exact m_split h ⟨fun y M2 f2 c2 => KK.1 y _ M2 Iff.rfl f2 c2, fun y1 y2 M2 f2 c2 => KK.2.1 y1 y2 _ M2 Iff.rfl f2 c2, fun y1 y2 M2 f2 c2 => KK.2.2 y1 y2 _ M2 Iff.rfl f2 c2⟩
  · have KK := K3 z
    exact m_join (by omega) h ⟨fun y M2 f2 c2 => KK.1 y _ M2 Iff.rfl f2 c2, fun y1 y2 M2 f2 c2 => KK.2.1 y1 y2 _ M2 Iff.rfl f2 c2, fun y1 y2 M2 f2 c2 => KK.2.2 y1 y2 _ M2 Iff.rfl f2 c2⟩
  · rw [h16 (Or.inr (Or.inl z)), ebw]
    have KK := K4 z
    exact m_put h ⟨fun y M2 f2 c2 => KK.1 y _ M2 Iff.rfl f2 c2, fun y1 y2 M2 f2 c2 => KK.2.1 y1 y2 _ M2 Iff.rfl f2 c2, fun y1 y2 M2 f2 c2 => KK.2.2 y1 y2 _ M2 Iff.rfl f2 c2⟩
  · rw [h16 (Or.inr (Or.inr z))]
    have KK := K5 z
    exact m_cut h ⟨fun y M2 f2 c2 => KK.1 y _ M2 Iff.rfl f2 c2, fun y1 M2 f2 c2 => KK.2 y1 _ M2 Iff.rfl f2 c2⟩
  · have KK := K6 z
    have hg6 := g6 z
    refine s7_way hT h10 h11 gw ?_
    rw [← hg6.1, h15]
    refine ⟨fun y => ⟨by omega, m_no (KK.1 (by omega) _ M Iff.rfl (FM.rf m M) h)⟩, fun y => ⟨by omega, ?_⟩⟩
    obtain ⟨k1, k2⟩ := oA_cg (k := n1) (v := n2) hwR h.2.1
    exact m_becomes (by omega) h ((eq_oA hwR (by omega)).tr k1) (k1.wr k2) rfl (fun M2 f2 c2 => KK.2 (by omega) _ M2 Iff.rfl f2 c2)
  · have KK := K7 z
    refine ⟨fun y => m_no (KK.1 (by omega) _ M Iff.rfl (FM.rf m M) h), fun y => ?_⟩
    obtain ⟨k1, k2⟩ := oP_cg (v := n1) hwR h.2.1 (by omega)
    exact m_becomes (by omega) h ((eq_oP hwR).tr k1) (k1.wr k2) rfl (fun M2 f2 c2 => KK.2 (by omega) _ M2 Iff.rfl f2 c2)
theorem s5_first {s f : Int} {Q : Int → Mm → Prop} {n0 : Nat} (hT : TS s M tn tx) (h0 : 0 ≤ tn) (hC : Cf tn tx n0 0 f) (hq : ∀ M2 : Mm, Fr s M M2 → Q f M2) : PX5_firstFault s M Q := by
  unfold PX5_firstFault PX5_rewind
  rintro M1 rfl
  rintro M2 rfl
  refine lr_I (fun i M3 => ∃ k, Cf tn tx k (M3 s 7) f ∧ 0 ≤ i ∧ i ≤ M3 s 7 ∧ M3 s 7 ≤ tn ∧ Fr s M M3 ∧ M3 s 8 = -9) (fun i _ => (150 - i).toNat) ?_ ⟨n0, by rw [um_r _ (by omega), um_w]; exact hC, Int.le_refl _, by rw [um_r _ (by omega), um_w]; exact Int.le_refl _, by rw [um_r _ (by omega), um_w]; exact h0, ⟨fun a ha => by rw [um_ne _ _ _ ha, um_ne _ _ _ ha], by rw [um_r _ (by omega), um_r _ (by omega)]⟩, um_w _ _ _ _⟩
  rintro rec i M3 ⟨k, hk, i0, i1, a1, F3, e8⟩ hrec
  have hr := sb_rg (tx := tx) a1
  have T3 := hT.fr F3
  have ht := hT.2.2
  have fin : tn ≤ sb tn tx (M3 s 7) → f = -9 := by
    intro he
    cases k with
    | zero =>
      rcases hk with ⟨-, h⟩ | ⟨h, -⟩
      · exact h
      · omega
    | succ k => have := hk.1; omega
  unfold BX5_firstFault_6
  refine ⟨fun hx => ?_, fun hx => ?_⟩
  · rw [e8, ← fin (by omega)]
    exact hq M3 F3
  · refine s5_read T3 ⟨by omega, a1⟩ (fun he M4 F4 k8 => ⟨fun _ => ?_, fun z => absurd rfl z⟩) (fun hlt => ?_)
    · rw [k8, e8, ← fin he]
      exact hq M4 (F3.tr F4)
    · cases k with
      | zero =>
        rcases hk with ⟨h, -⟩ | ⟨-, h⟩
        · omega
        · exact h.2 _ _ (fun M4 F4 k8 => ⟨fun _ => by rw [k8]; exact hq M4 (F3.tr F4), fun z => absurd rfl z⟩)
      | succ k =>
        obtain ⟨-, v, n1, n2, wf, we', nx, ho, hc⟩ := hk
        have gx := ho.1.2.2.2.2.2.2
        exact ho.2 _ _ (fun M4 F4 k2 k3 k4 k5 k6 k7 k8 => ⟨fun z => by omega, fun _ => ⟨by omega, hrec _ _ ⟨k, by rw [k7]; exact hc, by omega, by omega, by omega, F3.tr F4, by rw [k8]; exact e8⟩ (by omega)⟩⟩)
/-- the Model's run behind the class's -/
theorem m_run {Q : Int → Mm → Prop} {f : Int} {n0 : Nat} (hT : TM m M tn tx) (h0 : 0 ≤ tn) (hC : Cf tn tx n0 0 f) (h : MP m M p n ps c)
    (hF : 0 ≤ f → ∀ M2 : Mm, FrM m M M2 → Q (-10 - f) M2)
    (hD : f < 0 → ∃ (k : Nat) (aE : Int) (pE : Int → Int) (nE : Int) (psE : Int → Int → Int) (cE dE : Int), Cr tn tx k 0 p n ps c 0 aE pE nE psE cE dE ∧ tn ≤ sb tn tx aE ∧ ∀ M2 : Mm, (∀ a, (a < m ∨ m + 4 < a) → M2 a = M a) → M2 m 7 = 0 → MP m M2 pE nE psE cE → Q dE M2) : PX7_run m M Q := by
  have ht := hT.2.2.1
  unfold PX7_run
  rintro M1 rfl
  have F1 : FrM m M (um M m 9 0) := ⟨fun a ha => um_ne _ _ _ ha, fun j hj => um_r _ (by omega)⟩
  refine s7_blanks (hT.fr F1) (by rw [um_w]; omega) (fun M3 f3 g3 e3 => ?_)
  rw [um_w] at e3
  have F3 : FrM m M M3 := F1.tr ⟨f3, fun j hj => g3 j (by omega)⟩
  refine lr_o (fun M4 => ∃ k a, Cf tn tx k a f ∧ 0 ≤ a ∧ a ≤ tn ∧ M4 m 9 = sb tn tx a ∧ FrM m M M4) (fun M4 => (tn - M4 m 9).toNat) ?_ ⟨n0, 0, hC, Int.le_refl _, h0, e3, F3⟩
  rintro rec M4 ⟨k, a, hk, a0, a1, e9, F4⟩ hrec
  have hr := sb_rg (tx := tx) a1
  have T4 := hT.fr F4
  unfold BX7_run_9
  rw [T4.1, e9]
  refine ⟨fun hx => ?_, fun hx => ?_⟩
  rotate_left
  · refine s7_reads T4 (by omega) ?_
    rw [e9]
    refine Arc_sb a1 ?_
    cases k with
    | zero =>
      rcases hk with ⟨z, -⟩ | ⟨-, ho⟩
      · omega
      · refine ho.2 _ _ (fun M5 F5 e12 => ⟨fun _ => ?_, fun z => absurd rfl z⟩)
        have hf := ho.1
        dsimp only
        rw [e12]
        exact ⟨by omega, hF hf.1 M5 (F4.tr F5)⟩
    | succ k =>
      obtain ⟨-, v, n1, n2, wf, we', nx, ho, hc⟩ := hk
      have gx := ho.1.2.2.2.2.2.2
      refine ho.2 _ _ (fun M5 F5 _ _ _ _ _ d9 => ⟨fun z => by omega, fun _ => ?_⟩)
      refine s7_blanks (T4.fr F5) (by omega) (fun M6 f6 g6 e6 => hrec M6 ⟨k, nx, hc, by omega, gx.2, by rw [e6, d9], (F4.tr F5).tr ⟨f6, fun j hj => g6 j (by omega)⟩⟩ ?_)
      have := sb_rg (tx := tx) gx.2
      rw [e6, d9]
      omega
  have hf9 : f = -9 := by
    cases k with
    | zero =>
      rcases hk with ⟨-, h⟩ | ⟨h, -⟩
      · exact h
      · omega
    | succ k => have := hk.1; omega
  obtain ⟨kE, aE, pE, nE, psE, cE, dE, hCr, hEnd, hQ⟩ := hD (by omega)
  rintro M12 rfl
  have F12 : FrM m M (um M4 m 9 0) := F4.tr ⟨fun a ha => um_ne _ _ _ ha, fun j hj => um_r _ (by omega)⟩
  refine s7_blanks (hT.fr F12) (by rw [um_w]; omega) (fun M14 f14 g14 e14 => ?_)
  rw [um_w] at e14
  have F14 : FrM m M M14 := F12.tr ⟨f14, fun j hj => g14 j (by omega)⟩
  refine lr_I (fun d M5 => ∃ (k : Nat) (a : Int) (p : Int → Int) (n : Int) (ps : Int → Int → Int) (c : Int), Cr tn tx k a p n ps c d aE pE nE psE cE dE ∧ MP m M5 p n ps c ∧ M5 m 9 = sb tn tx a ∧ (0 ≤ a ∧ a ≤ tn) ∧ (0 ≤ d ∧ d ≤ a) ∧ TM m M5 tn tx ∧ ∀ q, (q < m ∨ m + 4 < q) → M5 q = M q) (fun d M5 => (tn - M5 m 9).toNat) ?_ ⟨kE, 0, p, n, ps, c, hCr, ?_, e14, ⟨Int.le_refl _, h0⟩, ⟨Int.le_refl _, Int.le_refl _⟩, hT.fr F14, fun q hq => F14.1 q (by omega)⟩
  rotate_left
  · obtain ⟨q1, q2, q3, q4⟩ := h
    exact ⟨q1, by rw [F14.1 _ (by omega)]; exact q2, q3.keep (F14.2 4 (by omega)) (F14.2 5 (by omega)) (F14.1 _ (by omega)), by rw [F14.2 3 (by omega)]; exact q4⟩
  rintro rec2 d M5 ⟨k5, a5, p5, n5, ps5, c5, hCr5, h5, e95, ha5, hd5, T5, f5⟩ hrec2
  have hr5 := sb_rg (tx := tx) ha5.2
  unfold BX7_run_53
  rw [T5.1, e95]
  refine ⟨fun hx2 => ?_, fun hx2 => ?_⟩
  · cases k5 with
    | succ k => have := hCr5.1; omega
    | zero =>
      obtain ⟨rfl, rfl, rfl, rfl, rfl, rfl⟩ := hCr5
      rintro M29 rfl
      refine hQ _ (fun q hq => by rw [um_ne _ _ _ (by omega)]; exact f5 q hq) (um_w _ _ _ _) ?_
      obtain ⟨q1, q2, q3, q4⟩ := h5
      exact ⟨q1, by rw [um_ne _ _ _ (by omega)]; exact q2, q3.keep (um_r _ (by omega)) (um_r _ (by omega)) (um_ne _ _ _ (by omega)), by rw [um_r _ (by omega)]; exact q4⟩
  · cases k5 with
    | zero =>
      obtain ⟨rfl, -⟩ := hCr5
      omega
    | succ k =>
      obtain ⟨-, v, n1, n2, wf, we', nx, ho, r, p1, m1, qs, c1, hT1, hCr6⟩ := hCr5
      have gx := ho.1.2.2.2.2.2.2
      refine s7_reads T5 (by omega) ?_
      rw [e95]
      refine Arc_sb ha5.2 (ho.2 _ _ (fun M6 F6 d14 d15 d16 d10 d11 d9 => ?_))
      have h6 : MP m M6 p5 n5 ps5 c5 := by
        obtain ⟨q1, q2, q3, q4⟩ := h5
        exact ⟨q1, by rw [F6.1 _ (by omega)]; exact q2, q3.keep (F6.2 4 (by omega)) (F6.2 5 (by omega)) (F6.1 _ (by omega)), by rw [F6.2 3 (by omega)]; exact q4⟩
      have T6 := T5.fr F6
      refine m_does T6 ho.1 d14 d15 d16 d10 d11 h6 (hT1 _ (fun r2 M7 hr2 f7 h7 => ?_))
      have T7 : TM m M7 tn tx := ⟨by rw [f7.2 7 (by omega) (by omega) (by omega)]; exact T6.1, fun i a b => by rw [f7.1 _ (by omega) (by omega)]; exact T6.2.1 i a b, T6.2.2⟩
      have e97 : M7 m 9 = nx := by rw [f7.2 9 (by omega) (by omega) (by omega)]; exact d9
      have rest : ∀ d2 : Int, d2 = (if r < 0 then d else d + 1) → PX7_blanks m M7 (fun M_22 => inR d2 ∧ rec2 d2 M_22) := by
        intro d2 hd2
        have hdr : d2 = d ∨ d2 = d + 1 := by rw [hd2]; split <;> omega
        refine s7_blanks T7 (by omega) (fun M8 f8 g8 e8 => ⟨by omega, hrec2 _ _ ⟨k, nx, p1, m1, qs, c1, by rw [hd2]; exact hCr6, ?_, by rw [e8, e97], by omega, by omega, T7.fr ⟨f8, fun j hj => g8 j (by omega)⟩, fun q hq => by rw [f8 q (by omega), f7.1 q (by omega) (by omega), F6.1 q (by omega)]; exact f5 q hq⟩ ?_⟩)
        · obtain ⟨q1, q2, q3, q4⟩ := h7
          exact ⟨q1, by rw [f8 _ (by omega)]; exact q2, q3.keep (g8 4 (by omega)) (g8 5 (by omega)) (f8 _ (by omega)), by rw [g8 3 (by omega)]; exact q4⟩
        · have := sb_rg (tx := tx) gx.2
          rw [e8, e97]
          omega
      refine ⟨fun hz => rest _ (by rw [if_pos (hr2.1 hz)]; omega), fun hz => rest _ (by rw [if_neg (fun y => hz (hr2.2 y))])⟩
theorem i_run (hI : Inv x M) : PX6_run x M (fun r M1 => PX7_run (x + 168) M1 (fun r2 M2 => r = r2 ∧ Inv x M2)) := by
  obtain ⟨p, n, ps, c, h1, h2, ⟨tn, tx, h3⟩, kb, kq, kn, ks, h4⟩ := id hI
  obtain ⟨⟨t1, t2⟩, ⟨s1, s2⟩, ⟨u1, u2⟩⟩ := id h3
  have hTS : TS (x + 47) M tn tx := ⟨t1, t2, u1.2⟩
  obtain ⟨n0, f, hC⟩ := Cf_ex (tn := tn) (tx := tx) tn.toNat 0 (Int.le_refl _) u1.1 (by omega)
  have hfr := Cf_rg n0 0 f u1.2 hC
  unfold PX6_run
  refine s5_first hTS u1.1 hC (fun M2 F2 => ⟨fun hf => ?_, fun hf => ⟨by omega, ?_⟩⟩)
  · -- all is read: now it is done
    unfold PX5_rewind
    rintro M3 rfl
    rintro M4 rfl
    have C4 : CP x (um (um M2 (x + 47) 7 0) (x + 47) 8 (-9)) p n ps c := by
      obtain ⟨h45, hw, he, hpa, hc, hL⟩ := id h1
      have h45' := h45
      unfold Two at h45'
      have fr : ∀ a, a ≠ x + 47 → um (um M2 (x + 47) 7 0) (x + 47) 8 (-9) a = M a := fun a ha => by rw [um_ne _ _ _ ha, um_ne _ _ _ ha, F2.1 a ha]
      refine ⟨by unfold Two; rw [fr x (by omega)]; exact h45, hw, ?_, hpa.keep (fun a b1 b2 => fr a (by omega)), by rw [fr x (by omega)]; exact hc, ?_⟩
      · rw [vw_same (fr _ (by omega)) (fr _ (by omega)) (fr _ (by omega)) (fr _ (by omega))]; exact he
      · rw [fr x (by omega)]
        exact hL.keep (fun a b1 b2 _ => fr a (by omega))
    refine lr_II (fun d i M5 => ∃ (j k : Nat) (p5 : Int → Int) (n5 : Int) (ps5 : Int → Int → Int) (c5 : Int), Cf tn tx j (M5 (x + 47) 7) (-9) ∧ Cr tn tx k 0 p n ps c 0 (M5 (x + 47) 7) p5 n5 ps5 c5 d ∧ CP x M5 p5 n5 ps5 c5 ∧ TS (x + 47) M5 tn tx ∧ (0 ≤ i ∧ i ≤ M5 (x + 47) 7 ∧ M5 (x + 47) 7 ≤ tn) ∧ (0 ≤ d ∧ d ≤ i) ∧ ∀ a, (a < x ∨ x + 73 < a ∨ (x + 47 < a ∧ a < x + 50)) → M5 a = M a) (fun _ i _ => (150 - i).toNat) ?_ ⟨n0, 0, p, n, ps, c, ?_, ?_, C4, ?_, ?_, ⟨Int.le_refl _, Int.le_refl _⟩, fun a ha => ?_⟩
    rotate_left
    · rw [um_r _ (by omega), um_w, ← (show f = -9 by omega)]; exact hC
    · rw [um_r _ (by omega), um_w]
      exact ⟨rfl, rfl, rfl, rfl, rfl, rfl⟩
    · exact hTS.fr ⟨fun a ha => by rw [um_ne _ _ _ ha, um_ne _ _ _ ha, F2.1 a ha], by rw [um_r _ (by omega), um_r _ (by omega), F2.2]⟩
    · rw [um_r _ (by omega), um_w]; omega
    · rw [um_ne _ _ _ (by omega), um_ne _ _ _ (by omega), F2.1 a (by omega)]
    rintro rec d i M5 ⟨j, k, p5, n5, ps5, c5, hCf, hCr, C5, T5, hi, hd, f5⟩ hrec
    have hr := sb_rg (tx := tx) hi.2.2
    -- the end
    have fin : ∀ M6 : Mm, Fr (x + 47) M5 M6 → tn ≤ sb tn tx (M5 (x + 47) 7) → JX6_run_61 (fun r M1 => PX7_run (x + 168) M1 (fun r2 M2 => r = r2 ∧ Inv x M2)) x d M6 := by
      intro M6 F6 hE
      unfold JX6_run_61
      rintro M14 rfl
      have fr : ∀ a, a ≠ x + 47 → um M6 (x + 47) 1 0 a = M5 a := fun a ha => by rw [um_ne _ _ _ ha, F6.1 a ha]
      have frM : ∀ a, (a < x ∨ x + 73 < a ∨ (x + 47 < a ∧ a < x + 50)) → um M6 (x + 47) 1 0 a = M a := fun a ha => by rw [fr a (by omega), f5 a ha]
      have C14 : CP x (um M6 (x + 47) 1 0) p5 n5 ps5 c5 := by
        obtain ⟨h45, hw, he, hpa, hc, hL⟩ := id C5
        have h45' := h45
        unfold Two at h45'
        refine ⟨by unfold Two; rw [fr x (by omega)]; exact h45, hw, ?_, hpa.keep (fun a b1 b2 => fr a (by omega)), by rw [fr x (by omega)]; exact hc, ?_⟩
        · rw [vw_same (fr _ (by omega)) (fr _ (by omega)) (fr _ (by omega)) (fr _ (by omega))]; exact he
        · rw [fr x (by omega)]
          exact hL.keep (fun a b1 b2 _ => fr a (by omega))
      have sz : um M6 (x + 47) 1 0 (x + 47) 1 = 0 := um_w _ _ _ _
      generalize um M6 (x + 47) 1 0 = M14 at *
      refine m_run (n0 := n0) (f := f) (p := p) (n := n) (ps := ps) (c := c) (tn := tn) (tx := tx) ⟨by rw [frM _ (by omega)]; exact s1, fun i a b => by rw [frM _ (by omega)]; exact s2 i a b, u1.2, u2⟩ u1.1 hC (h2.keep (fun a b1 b2 => frM a (by omega))) (fun z => by omega) (fun _ => ⟨k, M5 (x + 47) 7, p5, n5, ps5, c5, d, hCr, hE, fun M15 f15 k7 h15 => ⟨rfl, p5, n5, ps5, c5, C14.keep (fun a b1 b2 => f15 a (by omega)), h15, ⟨0, tx, ⟨by rw [f15 _ (by omega)]; exact sz, fun i a b => by omega⟩, ⟨k7, fun i a b => by omega⟩, by omega, fun i a b => by omega⟩, kb, kq, kn, ks, h4.keep (fun a b1 b2 => ?_) (fun a b1 b2 => ?_)⟩⟩)
      · rw [f15 a (by omega), frM a (by omega)]
      · rw [f15 a (by omega), frM a (by omega)]
    unfold BX6_run_28
    refine ⟨fun hx => fin M5 ⟨fun _ _ => rfl, rfl⟩ (by omega), fun hx => ?_⟩
    refine s5_read T5 ⟨by omega, by omega⟩ (fun hE M6 F6 _ => ⟨fun _ => fin M6 F6 hE, fun z => absurd rfl z⟩) (fun hlt => ?_)
    cases j with
    | zero =>
      rcases hCf with ⟨z, -⟩ | ⟨-, z⟩
      · omega
      · have := z.1; omega
    | succ j =>
      obtain ⟨-, v, n1, n2, wf, we', nx, ho, hc⟩ := hCf
      have gx := ho.1.2.2.2.2.2.2
      refine ho.2 _ _ (fun M6 F6 k2 k3 k4 k5 k6 k7 k8 => ⟨fun z => by omega, fun _ => ?_⟩)
      have C6 : CP x M6 p5 n5 ps5 c5 := by
        obtain ⟨h45, hw, he, hpa, hc, hL⟩ := id C5
        have h45' := h45
        unfold Two at h45'
        refine ⟨by unfold Two; rw [F6.1 x (by omega)]; exact h45, hw, ?_, hpa.keep (fun a b1 b2 => F6.1 a (by omega)), by rw [F6.1 x (by omega)]; exact hc, ?_⟩
        · rw [vw_same (F6.1 _ (by omega)) (F6.1 _ (by omega)) (F6.1 _ (by omega)) (F6.1 _ (by omega))]; exact he
        · rw [F6.1 x (by omega)]
          exact hL.keep (fun a b1 b2 _ => F6.1 a (by omega))
      obtain ⟨r, p1, m1, qs, c1, hd1⟩ := d_cmd (tx := tx) (v := v) (n1 := n1) (n2 := n2) (wf := wf) (we' := we') (p := p5) (n := n5) (ps := ps5) (c := c5) C5.2.1 ho.1.1
      have hCr2 := Cr_sn hlt ho hd1 k 0 p n ps c 0 hCr
      refine c_perform (T5.fr F6) ho.1 k2 k3 k4 k5 k6 C6 (hd1 _ (fun r2 M7 hr2 f7 C7 => ?_))
      have e7 : M7 (x + 47) = M6 (x + 47) := f7 _ (by omega)
      have T7 : TS (x + 47) M7 tn tx := ⟨by rw [e7]; exact (T5.fr F6).1, fun i a b => by rw [f7 _ (by omega)]; exact (T5.fr F6).2.1 i a b, u1.2⟩
      have nxt : ∀ d2 : Int, d2 = (if r < 0 then d else d + 1) → rec d2 (i + 1) M7 := by
        intro d2 hd2
        have hdr : d2 = d ∨ d2 = d + 1 := by rw [hd2]; split <;> omega
        refine hrec _ _ _ ⟨j, k + 1, p1, m1, qs, c1, by rw [e7, k7]; exact hc, by rw [e7, k7, hd2]; exact hCr2, C7, T7, by rw [e7, k7]; omega, by omega, fun a ha => by rw [f7 a (by omega), F6.1 a (by omega), f5 a ha]⟩ (by omega)
      refine ⟨fun hz => ⟨by omega, nxt _ (by rw [if_pos (hr2.1 hz)])⟩, fun hz => ⟨by omega, by omega, nxt _ (by rw [if_neg (fun y => hz (hr2.2 y))])⟩⟩
  · -- a fault
    refine m_run (n0 := n0) (f := f) (p := p) (n := n) (ps := ps) (c := c) (tn := tn) (tx := tx) ⟨by rw [F2.1 _ (by omega)]; exact s1, fun i a b => by rw [F2.1 _ (by omega)]; exact s2 i a b, u1.2, u2⟩ u1.1 hC (h2.keep (fun a b1 b2 => F2.1 a (by omega))) (fun _ M3 F3 => ⟨rfl, ?_⟩) (fun z => absurd z hf)
    refine ⟨p, n, ps, c, ?_, ?_, ⟨tn, tx, ⟨by rw [F3.1 _ (by omega), F2.2]; exact t1, fun i a b => by rw [F3.1 _ (by omega), F2.1 _ (by omega)]; exact t2 i a b⟩, ⟨by rw [F3.2 7 (by omega), F2.1 _ (by omega)]; exact s1, fun i a b => by rw [F3.1 _ (by omega), F2.1 _ (by omega)]; exact s2 i a b⟩, u1, u2⟩, kb, kq, kn, ks, h4.keep (fun a b1 b2 => by rw [F3.1 _ (by omega), F2.1 _ (by omega)]) (fun a b1 b2 => by rw [F3.1 _ (by omega), F2.1 _ (by omega)])⟩
    · obtain ⟨h45, hw, he, hpa, hc, hL⟩ := id h1
      have h45' := h45
      unfold Two at h45'
      have fr : ∀ a, a ≠ x + 47 → a ≠ x + 168 → M3 a = M a := fun a b1 b2 => by rw [F3.1 a b2, F2.1 a b1]
      refine ⟨by unfold Two; rw [fr x (by omega) (by omega)]; exact h45, hw, ?_, hpa.keep (fun a b1 b2 => fr a (by omega) (by omega)), by rw [fr x (by omega) (by omega)]; exact hc, ?_⟩
      · rw [vw_same (fr _ (by omega) (by omega)) (fr _ (by omega) (by omega)) (fr _ (by omega) (by omega)) (fr _ (by omega) (by omega))]; exact he
      · rw [fr x (by omega) (by omega)]
        exact hL.keep (fun a b1 b2 _ => fr a (by omega) (by omega))
    · obtain ⟨q1, q2, q3, q4⟩ := h2
      have e168 : M2 (x + 168) = M (x + 168) := F2.1 _ (by omega)
      exact ⟨q1, by rw [F3.1 _ (by omega), F2.1 _ (by omega)]; exact q2, q3.keep (by rw [F3.2 4 (by omega), e168]) (by rw [F3.2 5 (by omega), e168]) (by rw [F3.1 _ (by omega), F2.1 _ (by omega)]), by rw [F3.2 3 (by omega), e168]; exact q4⟩
end RUN
