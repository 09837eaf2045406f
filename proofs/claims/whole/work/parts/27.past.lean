/-! ===== the class's past: a ring of ten pages ===== -/
def PaC (M : Mm) (pa n : Int) (ps : Int → Int → Int) : Prop := M pa 0 = n ∧ (0 ≤ n ∧ n ≤ 10) ∧ (0 ≤ M pa 1 ∧ M pa 1 < 10) ∧ ∀ i, 0 ≤ i → i < n → Eqv (vw M (pa + 2 + 4 * ((M pa 1 + n - 1 - i) % 10))) (ps i) ∧ WR (ps i)
theorem PaC.keep {M M2 : Mm} {pa n : Int} {ps : Int → Int → Int} (h : PaC M pa n ps) (hf : ∀ a, pa ≤ a → a ≤ pa + 41 → M2 a = M a) : PaC M2 pa n ps := by
  obtain ⟨h0, h1, h2, h3⟩ := h
  refine ⟨by rw [hf pa (by omega) (by omega)]; exact h0, h1, by rw [hf pa (by omega) (by omega)]; exact h2, fun i a b => ?_⟩
  rw [hf pa (by omega) (by omega)]
  have hm : 0 ≤ (M pa 1 + n - 1 - i) % 10 ∧ (M pa 1 + n - 1 - i) % 10 < 10 := by omega
  rw [vw_same (hf _ (by omega) (by omega)) (hf _ (by omega) (by omega)) (hf _ (by omega) (by omega)) (hf _ (by omega) (by omega))]
  exact h3 i a b
section PAST
variable {M : Mm} {pa pg n : Int} {ps : Int → Int → Int} {r : Int → Int}
theorem s4_remember {Q : Mm → Prop} (hp : PaC M pa n ps) (hr : vw M pg = r) (hw : WR r) (hd : pg + 3 < pa ∨ pa + 41 < pg)
    (hq : ∀ M2 : Mm, (∀ a, (a < pa ∨ pa + 41 < a) → M2 a = M a) → PaC M2 pa (if n = 10 then 10 else n + 1) (fun i => if i = 0 then r else ps (i - 1)) → Q M2) : PX4_remember pa pg M Q := by
  obtain ⟨h0, h1, h2, h3⟩ := hp
  have key : ∀ (M1 : Mm) (k o : Int), (∀ a, a ≠ pa → M1 a = M a) → M1 pa 0 = k → M1 pa 1 = o → (0 ≤ k ∧ k < 10) → (0 ≤ o ∧ o < 10) → k + 1 = (if n = 10 then 10 else n + 1) → (∀ i, 0 ≤ i → i < k → Eqv (vw M (pa + 2 + 4 * ((o + (k + 1) - 1 - (i + 1)) % 10))) (ps i) ∧ WR (ps i)) → JX4_remember_28 Q pa pg M1 := by
    intro M1 k o f1 ek eo hk ho hkn hps
    have hr1 : vw M1 pg = r := by rw [vw_same (f1 _ (by omega)) (f1 _ (by omega)) (f1 _ (by omega)) (f1 _ (by omega))]; exact hr
    unfold JX4_remember_28 PX4_slot
    rw [ek, eo]
    have hm : 0 ≤ (o + k) % 10 ∧ (o + k) % 10 < 10 := by omega
    refine ⟨by omega, by omega, by omega, ?_⟩
    refine s3_copy hr1 hw (by omega) (fun M2 f2 e2 => ?_)
    have ek2 : M2 pa 0 = k := by rw [f2 pa (by omega) (by omega) (by omega) (by omega)]; exact ek
    have eo2 : M2 pa 1 = o := by rw [f2 pa (by omega) (by omega) (by omega) (by omega)]; exact eo
    rw [ek2]
    refine ⟨by omega, ?_⟩
    rintro M3 rfl
    refine hq _ (fun a ha => ?_) ⟨?_, by omega, ?_, fun i a b => ?_⟩
    · rw [um_ne _ _ _ (by omega), f2 a (by omega) (by omega) (by omega) (by omega), f1 a (by omega)]
    · rw [um_w]; exact hkn
    · rw [um_r _ (by omega), eo2]; exact ho
    · rw [um_r _ (by omega), eo2]
      have hm2 : 0 ≤ (o + (k + 1) - 1 - i) % 10 ∧ (o + (k + 1) - 1 - i) % 10 < 10 := by omega
      rw [← hkn, vw_same (M := M2) (um_ne _ _ _ (by omega)) (um_ne _ _ _ (by omega)) (um_ne _ _ _ (by omega)) (um_ne _ _ _ (by omega))]
      dsimp only
      by_cases hi : i = 0
      · rw [if_pos hi, hi, show pa + 2 + 4 * ((o + (k + 1) - 1 - 0) % 10) = pa + 1 + 1 + 4 * ((o + k) % 10) by omega]
        exact ⟨e2, hw⟩
      · rw [if_neg hi]
        have hne : (o + (k + 1) - 1 - i) % 10 ≠ (o + k) % 10 := by omega
        rw [vw_same (M := M) (by rw [f2 _ (by omega) (by omega) (by omega) (by omega), f1 _ (by omega)]) (by rw [f2 _ (by omega) (by omega) (by omega) (by omega), f1 _ (by omega)]) (by rw [f2 _ (by omega) (by omega) (by omega) (by omega), f1 _ (by omega)]) (by rw [f2 _ (by omega) (by omega) (by omega) (by omega), f1 _ (by omega)])]
        have := hps (i - 1) (by omega) (by omega)
        rw [show i - 1 + 1 = i by omega] at this
        exact this
  unfold PX4_remember
  rw [h0]
  refine ⟨fun hn => ?_, fun hn => ?_⟩
  · unfold PX4_slot
    refine ⟨by omega, by omega, ?_⟩
    rintro M13 rfl
    rw [um_r _ (by omega), h0]
    refine ⟨by omega, ?_⟩
    rintro M15 rfl
    refine key _ (n - 1) ((M pa 1 + 1) % 10) (fun a ha => by rw [um_ne _ _ _ ha, um_ne _ _ _ ha]) (um_w _ _ _ _) (by rw [um_r _ (by omega), um_w]) (by omega) (by omega) (by rw [if_pos hn]; omega) (fun i a b => ?_)
    rw [show ((M pa 1 + 1) % 10 + (n - 1 + 1) - 1 - (i + 1)) % 10 = (M pa 1 + n - 1 - i) % 10 by omega]
    exact h3 i a (by omega)
  · refine key M n (M pa 1) (fun _ _ => rfl) h0 rfl (by omega) h2 (by rw [if_neg hn]) (fun i a b => ?_)
    rw [show (M pa 1 + (n + 1) - 1 - (i + 1)) % 10 = (M pa 1 + n - 1 - i) % 10 by omega]
    exact h3 i a b
theorem s4_latest {Q : Int → Mm → Prop} (hp : PaC M pa n ps) (hn : 0 < n) (hq : Q (pa + 2 + 4 * ((M pa 1 + n - 1 - 0) % 10)) M) : PX4_latest pa M Q := by
  obtain ⟨h0, h1, h2, h3⟩ := hp
  unfold PX4_latest PX4_slot
  rw [h0]
  refine ⟨fun hz => by omega, fun hz => ⟨by omega, by omega, by omega, by omega, ?_⟩⟩
  rw [show pa + 1 + 1 + 4 * ((M pa 1 + (n - 1)) % 10) = pa + 2 + 4 * ((M pa 1 + n - 1 - 0) % 10) by omega]
  exact hq
theorem s4_forget {Q : Mm → Prop} (hp : PaC M pa n ps) (hn : 0 < n) (hq : ∀ M2 : Mm, (∀ a, a ≠ pa → M2 a = M a) → PaC M2 pa (n - 1) (fun i => ps (i + 1)) → Q M2) : PX4_forgetLatest pa M Q := by
  obtain ⟨h0, h1, h2, h3⟩ := hp
  unfold PX4_forgetLatest
  rw [h0]
  refine ⟨fun hz => by omega, fun hz => ⟨by omega, ?_⟩⟩
  rintro M3 rfl
  refine hq _ (fun a ha => um_ne _ _ _ ha) ⟨um_w _ _ _ _, by omega, by rw [um_r _ (by omega)]; exact h2, fun i a b => ?_⟩
  rw [um_r _ (by omega)]
  have hm : 0 ≤ (M pa 1 + (n - 1) - 1 - i) % 10 ∧ (M pa 1 + (n - 1) - 1 - i) % 10 < 10 := by omega
  rw [vw_same (M := M) (um_ne _ _ _ (by omega)) (um_ne _ _ _ (by omega)) (um_ne _ _ _ (by omega)) (um_ne _ _ _ (by omega)), show (M pa 1 + (n - 1) - 1 - i) % 10 = (M pa 1 + n - 1 - (i + 1)) % 10 by omega]
  exact h3 (i + 1) (by omega) (by omega)
theorem s4_copy {pb : Int} {Q : Mm → Prop} (hp : PaC M pb n ps) (hd : pa + 41 < pb ∨ pb + 41 < pa) (hq : ∀ M2 : Mm, (∀ a, (a < pa ∨ pa + 41 < a) → M2 a = M a) → PaC M2 pa n ps → Q M2) : PX4_copyFrom pa pb M Q := by
  obtain ⟨h0, h1, h2, h3⟩ := hp
  unfold PX4_copyFrom
  rw [h0]
  rintro M2 rfl
  rw [um_r _ (by omega)]
  rintro M4 rfl
  refine lr_I (fun v M3 => 0 ≤ v ∧ v ≤ n ∧ (∀ a, (a < pa ∨ pa + 41 < a) → M3 a = M a) ∧ M3 pa 0 = n ∧ M3 pa 1 = M pb 1 ∧ ∀ q, 0 ≤ q → q < v → Eqv (vw M3 (pa + 2 + 4 * ((M pb 1 + q) % 10))) (ps (n - 1 - q))) (fun v _ => (n - v).toNat) ?_ ⟨Int.le_refl _, h1.1, fun a ha => by rw [um_ne _ _ _ (by omega), um_ne _ _ _ (by omega)], by rw [um_r _ (by omega), um_w], by rw [um_w], fun q a b => by omega⟩
  rintro rec v M3 ⟨a0, a1, f3, e0, e1, hv⟩ hrec
  unfold BX4_copyFrom_18 PX4_slot
  rw [e0, e1]
  have hm : 0 ≤ (M pb 1 + v) % 10 ∧ (M pb 1 + v) % 10 < 10 := by omega
  refine ⟨fun hx => ?_, fun hx => ⟨by omega, by omega, by omega, by omega, by omega, by omega, ?_⟩⟩
  · refine hq M3 f3 ⟨e0, h1, by rw [e1]; exact h2, fun i a b => ?_⟩
    have := hv (n - 1 - i) (by omega) (by omega)
    rw [show n - 1 - (n - 1 - i) = i by omega] at this
    rw [e1, show M pb 1 + n - 1 - i = M pb 1 + (n - 1 - i) by omega]
    exact ⟨this, (h3 i a b).2⟩
  · obtain ⟨g1, g2⟩ := h3 (n - 1 - v) (by omega) (by omega)
    rw [show M pb 1 + n - 1 - (n - 1 - v) = M pb 1 + v by omega] at g1
    have ev : vw M3 (pb + 1 + 1 + 4 * ((M pb 1 + v) % 10)) = vw M (pb + 2 + 4 * ((M pb 1 + v) % 10)) := by
      rw [show pb + 1 + 1 + 4 * ((M pb 1 + v) % 10) = pb + 2 + 4 * ((M pb 1 + v) % 10) by omega]
      exact vw_same (f3 _ (by omega)) (f3 _ (by omega)) (f3 _ (by omega)) (f3 _ (by omega))
    rw [e1]
    refine s3_copy ev (g1.sy.wr g2) (by omega) (fun M5 f5 e5 => ⟨by omega, hrec _ _ ⟨by omega, by omega, fun a ha => ?_, ?_, ?_, fun q a b => ?_⟩ (by omega)⟩)
    · rw [f5 a (by omega) (by omega) (by omega) (by omega), f3 a ha]
    · rw [f5 pa (by omega) (by omega) (by omega) (by omega)]; exact e0
    · rw [f5 pa (by omega) (by omega) (by omega) (by omega)]; exact e1
    · by_cases hq2 : q = v
      · subst hq2
        rw [show pa + 2 + 4 * ((M pb 1 + q) % 10) = pa + 1 + 1 + 4 * ((M pb 1 + q) % 10) by omega]
        exact e5.tr g1
      · have hm2 : 0 ≤ (M pb 1 + q) % 10 ∧ (M pb 1 + q) % 10 < 10 := by omega
        have hne : (M pb 1 + q) % 10 ≠ (M pb 1 + v) % 10 := by omega
        rw [vw_same (M := M3) (f5 _ (by omega) (by omega) (by omega) (by omega)) (f5 _ (by omega) (by omega) (by omega) (by omega)) (f5 _ (by omega) (by omega) (by omega) (by omega)) (f5 _ (by omega) (by omega) (by omega) (by omega))]
        exact hv q a (by omega)
end PAST
/-! ===== signs of two lines the same? ===== -/
/-- 1 if line l of r has the signs of line m of q -/
def sameL (r : Int → Int) (l : Int) (q : Int → Int) (m : Int) : Prop := r (3 + l) = q (3 + m) ∧ ∀ i, 0 ≤ i → i < r (3 + l) → ln r l i = ln q m i
theorem s3_same {M : Mm} {pg l p2 m : Int} {r q : Int → Int} {Q : Int → Mm → Prop} (hr : vw M pg = r) (hw : WR r) (hr2 : vw M p2 = q) (hw2 : WR q) (h0 : 0 ≤ l) (h1 : l < r 0) (g0 : 0 ≤ m) (g1 : m < q 0) (hy : sameL r l q m → Q 1 M) (hn : ¬ sameL r l q m → Q 0 M) : PX3_hasSameSigns pg l p2 m M Q := by
  have hm := hw.1
  have hm2 := hw2.1
  have hs := hw.2.1 l h0 h1
  have hs2 := hw2.2.1 m g0 g1
  have es : M (pg + 1) l = r (3 + l) := by rw [← hr]; exact (vw_sz M pg h0 (by omega)).symm
  have es2 : M (p2 + 1) m = q (3 + m) := by rw [← hr2]; exact (vw_sz M p2 g0 (by omega)).symm
  unfold PX3_hasSameSigns
  rw [es, es2]
  refine ⟨by omega, by omega, fun he => ?_, fun he => hn (fun z => he z.1)⟩
  refine lk_I (fun v => 0 ≤ v ∧ v ≤ r (3 + l) ∧ ∀ i, 0 ≤ i → i < v → ln r l i = ln q m i) (fun v => (r (3 + l) - v).toNat) ?_ ⟨Int.le_refl _, hs.1, fun i a b => by omega⟩
  rintro rec v ⟨a0, a1, hv⟩ hrec
  unfold BX3_hasSameSigns_20 PX3_signAt
  rw [es]
  refine ⟨by omega, fun hx => hy ⟨he, fun i a b => hv i a (by omega)⟩, fun hx => ⟨by omega, by omega, ?_⟩⟩
  have e1 : M (pg + 2) ((l * 24) + v) = ln r l v := by rw [← hr]; exact (vw_ln M pg h0 (by omega) a0 (by omega)).symm
  have e2 : M (p2 + 2) ((m * 24) + v) = ln q m v := by rw [← hr2]; exact (vw_ln M p2 g0 (by omega) a0 (by omega)).symm
  rw [e1, e2]
  refine ⟨fun hz => ⟨by omega, hrec _ ⟨by omega, by omega, fun i a b => ?_⟩ (by omega)⟩, fun hz => hn (fun z => hz (z.2 v a0 (by omega)))⟩
  by_cases hi : i = v
  · rw [hi]; exact hz
  · exact hv i a (by omega)
