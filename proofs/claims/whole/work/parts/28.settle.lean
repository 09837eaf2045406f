theorem pv_cg {r q : Int → Int} {l : Int} (hw : WR r) (he : Eqv r q) (h0 : 0 ≤ l) (h1 : l < r 0) : pv r l = pv q l := by
  unfold pv
  split
  · rfl
  · exact cel_cg hw he (by omega) (by omega)
theorem bks_cg {r q : Int → Int} (hw : WR r) (he : Eqv r q) : bks r (r 0) = bks q (q 0) := by
  unfold bks
  rw [← he.1]
  refine sm_cong (fun i a b => ?_)
  show max 0 (cel r i - pv r i) = max 0 (cel q i - pv q i)
  rw [cel_cg hw he a b, pv_cg hw he a b]
theorem LC.cg {lb l : Int} {r q : Int → Int} {M : Mm} (h : LC lb r M l) (hw : WR r) (he : Eqv r q) (h0 : 0 ≤ l) (h1 : l < r 0) : LC lb q M l := by
  obtain ⟨g1, g2, g3⟩ := h
  have hc := cel_rg hw h0 h1
  have e := cel_cg hw he h0 h1
  refine ⟨by rw [g1, e], by rw [g2, ← e, beg_cg hw he h0 h1 hc.1 (Int.le_refl _)], fun k a b => ?_⟩
  obtain ⟨f1, f2, f3⟩ := g3 k a (by omega)
  rw [f1, f2, f3]
  exact ⟨beg_cg hw he h0 h1 a (by omega), siz_cg hw he h0 h1 a (by omega), ahd_cg hw he h0 h1 a (by omega)⟩
theorem Laid.cg {lb : Int} {r q : Int → Int} {M : Mm} (h : Laid lb r M) (hw : WR r) (he : Eqv r q) : Laid lb q M := by
  obtain ⟨h0, h8, hl⟩ := h
  refine ⟨by rw [h0, bks_cg hw he], by rw [h8, he.1], fun l a b => ?_⟩
  have b2 : l < r 0 := by rw [he.1]; exact b
  obtain ⟨g1, g2, g3, g4⟩ := hl l a b2
  have hc := cel_rg hw a b2
  have e := cel_cg hw he a b2
  refine ⟨g1.cg hw he a b2, by rw [g2, ← e]; exact bgn_cg hw he a b2 (Int.le_refl _), by rw [g3]; exact wde_cg hw he a b2, fun k k0 k1 => ?_⟩
  obtain ⟨f1, f2, f3⟩ := g4 k k0 (by omega)
  rw [f1, f2, f3]
  exact ⟨wid_cg hw he a b2 k0 (by omega), mst_cg hw he a b2 k0 (by omega) 1, bgn_cg hw he a b2 (by omega)⟩
theorem sameL_cg {r r2 q q2 : Int → Int} {l m : Int} (he : Eqv r r2) (hf : Eqv q q2) (h0 : 0 ≤ l) (h1 : l < r 0) (g0 : 0 ≤ m) (g1 : m < q 0) (h : sameL r l q m) : sameL r2 l q2 m := by
  obtain ⟨a1, a2⟩ := he.2.2.2.2 l h0 h1
  obtain ⟨b1, b2⟩ := hf.2.2.2.2 m g0 g1
  obtain ⟨c1, c2⟩ := h
  refine ⟨by omega, fun i x y => ?_⟩
  rw [← a2 i x (by omega), c2 i x (by omega), b2 i x (by omega)]
theorem PaC.cg {M : Mm} {pa n : Int} {ps qs : Int → Int → Int} (h : PaC M pa n ps) (he : ∀ i, 0 ≤ i → i < n → Eqv (ps i) (qs i)) : PaC M pa n qs := by
  obtain ⟨h0, h1, h2, h3⟩ := h
  refine ⟨h0, h1, h2, fun i a b => ?_⟩
  obtain ⟨g1, g2⟩ := h3 i a b
  exact ⟨g1.tr (he i a b), (he i a b).wr g2⟩
/-! ===== what changed ===== -/
def og (op cl l : Int) : Int := if 0 ≤ op ∧ op ≤ l then (if l = op then -9 else l - 1) else if 0 ≤ cl ∧ cl ≤ l then l + 1 else l
def chn (r q : Int → Int) (l w : Int) : Prop := ¬ sameL r l q w ∨ ∃ k, 0 ≤ k ∧ k < cel r l ∧ wid r l k ≠ wid q w k
noncomputable def mkN (r q : Int → Int) (o : Int → Int) : Nat → Int
  | 0 => 0
  | n + 1 => @ite _ (o (n : Int) < 0 ∨ chn r q n (o (n : Int))) (Classical.propDecidable _) (iOr (mkN r q o n) (iShl 1 (n : Int))) (mkN r q o n)
noncomputable def msk (r q : Int → Int) (o : Int → Int) (l : Int) : Int := mkN r q o l.toNat
theorem msk_0 (r q o : Int → Int) : msk r q o 0 = 0 := rfl
theorem msk_y {r q o : Int → Int} {l : Int} (h : 0 ≤ l) (hc : o l < 0 ∨ chn r q l (o l)) : msk r q o (l + 1) = iOr (msk r q o l) (iShl 1 l) := by
  obtain ⟨n, rfl⟩ := Int.eq_ofNat_of_zero_le h
  show @ite _ _ (Classical.propDecidable _) _ _ = _
  rw [if_pos hc]
  rfl
theorem msk_n {r q o : Int → Int} {l : Int} (h : 0 ≤ l) (hc : ¬ (o l < 0 ∨ chn r q l (o l))) : msk r q o (l + 1) = msk r q o l := by
  obtain ⟨n, rfl⟩ := Int.eq_ofNat_of_zero_le h
  show @ite _ _ (Classical.propDecidable _) _ _ = _
  rw [if_neg hc]
  rfl
theorem iOr_0 (y : Int32) : iOr y.toInt 0 = y.toInt := by
  unfold iOr
  rw [Int32.ofInt_toInt]
  congr 1
  exact Int32.or_zero
theorem msk_or (r q o : Int → Int) (l : Int) : iOr (msk r q o l) 0 = msk r q o l := by
  have key : ∀ n : Nat, ∃ y : Int32, mkN r q o n = y.toInt := by
    intro n
    induction n with
    | zero => exact ⟨0, rfl⟩
    | succ n ih =>
      show ∃ y : Int32, @ite _ _ (Classical.propDecidable _) _ _ = y.toInt
      split
      · exact ⟨_, rfl⟩
      · exact ih
  obtain ⟨y, hy⟩ := key l.toNat
  unfold msk
  rw [hy]
  exact iOr_0 y
theorem s6_former {M : Mm} {op cl l : Int} {Q : Int → Mm → Prop} (hl : 0 ≤ l) (hl2 : l < 12) (hq : Q (og op cl l) M) : PX6_formerPlace l op cl M Q := by
  unfold og at hq
  unfold PX6_formerPlace JX6_formerPlace_23 JX6_formerPlace_38
  have rest : (¬ (0 ≤ op ∧ op ≤ l)) → (cl < 0 → Q l M) ∧ (¬ cl < 0 → (l < cl → Q l M) ∧ (¬ l < cl → inR (l + 1) ∧ Q (l + 1) M)) := by
    intro h
    rw [if_neg h] at hq
    refine ⟨fun hc => ?_, fun hc => ⟨fun hd => ?_, fun hd => ⟨by omega, ?_⟩⟩⟩
    · rw [if_neg (by omega)] at hq; exact hq
    · rw [if_neg (by omega)] at hq; exact hq
    · rw [if_pos (by omega)] at hq; exact hq
  refine ⟨fun h => rest (by omega), fun h => ⟨fun h2 => rest (by omega), fun h2 => ?_⟩⟩
  rw [if_pos (by omega)] at hq
  refine ⟨fun h3 => ?_, fun h3 => ⟨by omega, ?_⟩⟩
  · rw [if_pos h3] at hq; exact hq
  · rw [if_neg h3] at hq; exact hq
theorem s6_anew {M : Mm} {x was l n : Int} {ps : Int → Int → Int} {r q : Int → Int} {Q : Int → Mm → Prop} (hr : Eqv (vw M (x + 1)) r) (hw : WR r) (hp : PaC M (x + 5) n ps) (hn : 0 < n) (hps : ps 0 = q) (L1 : Laid (x + M x 4) r M) (L2 : Laid (x + M x 5) q M) (h0 : 0 ≤ l) (h1 : l < r 0) (g0 : 0 ≤ was) (g1 : was < q 0) (hy : chn r q l was → Q 1 M) (hn' : ¬ chn r q l was → Q 0 M) : PX6_isLaidAnew x was l M Q := by
  obtain ⟨e1, e2⟩ := hp.2.2.2 0 (Int.le_refl _) hn
  rw [hps] at e1 e2
  have hm := hw.1
  have hm2 := e2.1
  unfold PX6_isLaidAnew
  refine s4_latest hp hn ?_
  refine s3_same rfl (hr.sy.wr hw) rfl (e1.sy.wr e2) h0 (by rw [hr.1]; exact h1) g0 (by rw [e1.1]; exact g1) (fun hs => ⟨fun z => by omega, fun _ => ?_⟩) (fun hs => ⟨fun _ => hy (Or.inl (fun z => hs (sameL_cg hr.sy e1.sy h0 h1 g0 g1 z))), fun z => absurd rfl z⟩)
  have hs2 : sameL r l q was := sameL_cg hr e1 h0 (by rw [hr.1]; exact h1) g0 (by rw [e1.1]; exact g1) hs
  have hcc : cel r l = cel q was := by
    unfold cel
    rw [← hs2.1]
    exact cT_cong hs2.2
  have hc := cel_rg hw h0 h1
  obtain ⟨⟨l1, -, -⟩, -, -, l4⟩ := L1.2.2 l h0 h1
  obtain ⟨-, -, -, l5⟩ := L2.2.2 was g0 g1
  refine lk_I (fun v => 0 ≤ v ∧ v ≤ cel r l ∧ ∀ k, 0 ≤ k → k < v → wid r l k = wid q was k) (fun v => (cel r l - v).toNat) ?_ ⟨Int.le_refl _, hc.1, fun k a b => by omega⟩
  rintro rec v ⟨a0, a1, hv⟩ hrec
  unfold BX6_isLaidAnew_23
  rw [l1]
  refine ⟨by omega, fun hx => hn' ?_, fun hx => ⟨by omega, by omega, ?_⟩⟩
  · rintro (z | ⟨k, k0, k1, k2⟩)
    · exact z hs2
    · exact k2 (hv k k0 (by omega))
  · rw [(l4 v a0 (by omega)).1, (l5 v a0 (by omega)).1]
    refine ⟨fun hz => ⟨by omega, hrec _ ⟨by omega, by omega, fun k k0 k1 => ?_⟩ (by omega)⟩, fun hz => hy (Or.inr ⟨v, a0, by omega, hz⟩)⟩
    by_cases hk : k = v
    · rw [hk]; exact hz
    · exact hv k k0 (by omega)
def Two (M : Mm) (x : Int) : Prop := (M x 4 = 50 ∧ M x 5 = 62) ∨ (M x 4 = 62 ∧ M x 5 = 50)
theorem s6_settle {M : Mm} {x op cl n : Int} {ps : Int → Int → Int} {r p : Int → Int} {Q : Mm → Prop} (h45 : Two M x) (hL : Laid (x + M x 4) p M) (hp : PaC M (x + 5) n ps) (hn : 0 < n) (hps : ps 0 = p) (hr : Eqv (vw M (x + 1)) r) (hw : WR r) (ho : ∀ l, 0 ≤ l → l < r 0 → og op cl l < p 0)
    (hq : ∀ M2 : Mm, (∀ a, a ≠ x → (a < x + 50 ∨ x + 73 < a) → M2 a = M a) → (M2 x 4 = M x 5 ∧ M2 x 5 = M x 4) → M2 x 6 = msk r p (og op cl) (r 0) → Laid (x + M2 x 4) r M2 → Q M2) : PX6_settle x op cl M Q := by
  have hm := hw.1
  unfold PX6_settle
  rw [show x + M x 5 - x = M x 5 by omega, show x + M x 4 - x = M x 4 by omega]
  unfold Two at h45
  refine ⟨by omega, ?_⟩
  rintro M3 rfl
  refine ⟨by omega, ?_⟩
  rintro M5 rfl
  rw [show um (um M x 4 (M x 5)) x 5 (M x 4) x 4 = M x 5 by rw [um_r _ (by omega), um_w]]
  have ev : vw (um (um M x 4 (M x 5)) x 5 (M x 4)) (x + 1) = vw M (x + 1) := vw_same (by rw [um_ne _ _ _ (by omega), um_ne _ _ _ (by omega)]) (by rw [um_ne _ _ _ (by omega), um_ne _ _ _ (by omega)]) (by rw [um_ne _ _ _ (by omega), um_ne _ _ _ (by omega)]) (by rw [um_ne _ _ _ (by omega), um_ne _ _ _ (by omega)])
  refine s2_lay ev (hr.sy.wr hw) (by omega) (fun M9 f9 L9 => ?_)
  have L9r := L9.cg (hr.sy.wr hw) hr
  rintro M10 rfl
  have f9b : ∀ a, a ≠ x → (a < x + M x 5 ∨ x + M x 5 + 11 < a) → M9 a = M a := fun a b1 b2 => by rw [f9 a b2, um_ne _ _ _ b1, um_ne _ _ _ b1]
  have e94 : M9 x 4 = M x 5 := by rw [f9 x (by omega), um_r _ (by omega), um_w]
  have e95 : M9 x 5 = M x 4 := by rw [f9 x (by omega), um_w]
  refine lr_I (fun v M2 => 0 ≤ v ∧ v ≤ r 0 ∧ (∀ a, a ≠ x → M2 a = M9 a) ∧ M2 x 4 = M x 5 ∧ M2 x 5 = M x 4 ∧ M2 x 6 = msk r p (og op cl) v) (fun v _ => (r 0 - v).toNat) ?_ ⟨Int.le_refl _, hm.1, fun a ha => um_ne _ _ _ ha, by rw [um_r _ (by omega)]; exact e94, by rw [um_r _ (by omega)]; exact e95, um_w _ _ _ _⟩
  rintro rec v M2 ⟨a0, a1, f2, e4, e5, e6⟩ hrec
  have f2b : ∀ a, a ≠ x → (a < x + 50 ∨ x + 73 < a) → M2 a = M a := fun a b1 b2 => by rw [f2 a b1, f9b a b1 (by omega)]
  have LN : Laid (x + M2 x 4) r M2 := by
    rw [e4]
    exact L9r.keep (fun a b1 b2 _ => f2 a (by omega))
  have LO : Laid (x + M2 x 5) p M2 := by
    rw [e5]
    exact hL.keep (fun a b1 b2 _ => by rw [f2 a (by omega), f9b a (by omega) (by omega)])
  have ev2 : Eqv (vw M2 (x + 1)) r := by
    rw [vw_same (f2b _ (by omega) (by omega)) (f2b _ (by omega) (by omega)) (f2b _ (by omega) (by omega)) (f2b _ (by omega) (by omega))]
    exact hr
  have hp2 : PaC M2 (x + 5) n ps := hp.keep (fun a b1 b2 => f2b a (by omega) (by omega))
  have e0 : M2 (x + 1) 0 = r 0 := ev2.1
  unfold BX6_settle_37
  rw [e0]
  refine ⟨fun hx => hq M2 f2b ⟨e4, e5⟩ (by rw [e6, show v = r 0 by omega]) LN, fun hx => s6_former a0 (by omega) ?_⟩
  have yes : (og op cl v < 0 ∨ chn r p v (og op cl v)) → JX6_settle_74 rec Q x op cl v M2 := by
    intro hc
    unfold JX6_settle_74
    rintro M15 rfl
    refine ⟨by omega, hrec _ _ ⟨by omega, by omega, fun a ha => by rw [um_ne _ _ _ ha]; exact f2 a ha, by rw [um_r _ (by omega)]; exact e4, by rw [um_r _ (by omega)]; exact e5, ?_⟩ (by omega)⟩
    rw [um_w, e6, msk_y a0 hc]
  refine ⟨fun hz => yes (Or.inl hz), fun hz => ?_⟩
  refine s6_anew ev2 hw hp2 hn hps LN LO a0 (by omega) (by omega) (ho v a0 (by omega)) (fun hc => ⟨fun z => by omega, fun _ => yes (Or.inr hc)⟩) (fun hc => ⟨fun _ => ⟨by omega, hrec _ _ ⟨by omega, by omega, f2, e4, e5, ?_⟩ (by omega)⟩, fun z => absurd rfl z⟩)
  rw [e6, msk_n a0 (fun z => z.elim hz hc)]
