/-! ===== the text: blanks, words, numbers, names ===== -/
def sb (tn : Int) (tx : Int → Int) (a : Int) : Int := fi (fun i => if tx i = 32 then 0 else 1) 1 tn a
noncomputable def we (tn : Int) (tx : Int → Int) (a : Int) : Int := fi (fun i => @ite _ (isS (tx i)) (Classical.propDecidable _) 0 1) 1 tn a
section TXT
variable {tn a : Int} {tx : Int → Int}
theorem sb_stop (h : ¬ (a < tn ∧ tx a = 32)) : sb tn tx a = a := by
  refine fi_stop (fun z => h ⟨z.1, ?_⟩)
  by_cases hc : tx a = 32
  · exact hc
  · exact absurd (by show (if tx a = 32 then (0 : Int) else 1) = 1; rw [if_neg hc]) z.2
theorem sb_go (h : a < tn) (h2 : tx a = 32) : sb tn tx a = sb tn tx (a + 1) := fi_go h (by show (if tx a = 32 then (0 : Int) else 1) ≠ 1; rw [if_pos h2]; omega)
theorem sb_rg (h : a ≤ tn) : a ≤ sb tn tx a ∧ sb tn tx a ≤ tn := by
  obtain ⟨g1, g2, -, -⟩ := fi_spec (fun i => if tx i = 32 then (0 : Int) else 1) 1 h
  exact ⟨g1, g2⟩
theorem sb_nb (h : a ≤ tn) : sb tn tx a < tn → tx (sb tn tx a) ≠ 32 := by
  intro h2 h3
  obtain ⟨-, -, -, g4⟩ := fi_spec (fun i => if tx i = 32 then (0 : Int) else 1) 1 h
  have : (if tx (sb tn tx a) = 32 then (0 : Int) else 1) = 1 := g4 h2
  rw [if_pos h3] at this
  omega
theorem sb_sb (h : a ≤ tn) : sb tn tx (sb tn tx a) = sb tn tx a := sb_stop (fun z => sb_nb h z.1 z.2)
theorem we_stop (h : ¬ (a < tn ∧ isS (tx a))) : we tn tx a = a := by
  refine fi_stop (fun z => h ⟨z.1, ?_⟩)
  by_cases hc : isS (tx a)
  · exact hc
  · exact absurd (by show @ite Int (isS (tx a)) (Classical.propDecidable _) 0 1 = 1; rw [if_neg hc]) z.2
theorem we_go (h : a < tn) (h2 : isS (tx a)) : we tn tx a = we tn tx (a + 1) := fi_go h (by show @ite Int (isS (tx a)) (Classical.propDecidable _) 0 1 ≠ 1; rw [if_pos h2]; omega)
theorem we_rg (h : a ≤ tn) : a ≤ we tn tx a ∧ we tn tx a ≤ tn := by
  obtain ⟨g1, g2, -, -⟩ := fi_spec (fun i => @ite Int (isS (tx i)) (Classical.propDecidable _) 0 1) 1 h
  exact ⟨g1, g2⟩
end TXT
def vl (tx : Int → Int) (f : Int) : Nat → Int
  | 0 => 0
  | n + 1 => 10 * vl tx f n + tx (f + n) - 48
def nv (tx : Int → Int) (f e : Int) : Int := vl tx f (e - f).toNat
theorem nv_s (tx : Int → Int) {f e : Int} (h : f ≤ e) : nv tx f (e + 1) = 10 * nv tx f e + tx e - 48 := by
  unfold nv
  rw [show (e + 1 - f).toNat = (e - f).toNat + 1 by omega]
  show 10 * vl tx f (e - f).toNat + tx (f + ((e - f).toNat : Nat)) - 48 = _
  rw [show f + (((e - f).toNat : Nat) : Int) = e by omega]
theorem nv_0 (tx : Int → Int) (f : Int) : nv tx f f = 0 := by
  unfold nv
  rw [show (f - f).toNat = 0 by omega]
  rfl
def nOk (tx : Int → Int) (f e : Int) : Prop := e - f ≤ 3 ∧ (e - f = 1 ∨ tx f ≠ 48) ∧ ∀ i, f ≤ i → i < e → 48 ≤ tx i ∧ tx i ≤ 57
theorem nv_rg {tx : Int → Int} {f e : Int} (h : f ≤ e) (h3 : e - f ≤ 3) (hd : ∀ i, f ≤ i → i < e → 48 ≤ tx i ∧ tx i ≤ 57) : 0 ≤ nv tx f e ∧ nv tx f e ≤ 999 := by
  have c0 := nv_0 tx f
  have s1 := nv_s tx (f := f) (e := f) (Int.le_refl _)
  have s2 := nv_s tx (f := f) (e := f + 1) (by omega)
  have s3 := nv_s tx (f := f) (e := f + 1 + 1) (by omega)
  have d0 := hd f (Int.le_refl _)
  have d1 := hd (f + 1) (by omega)
  have d2 := hd (f + 1 + 1) (by omega)
  rcases ilg f e with h1 | h1
  · rcases ilg (f + 1) e with h2 | h2
    · rcases ilg (f + 1 + 1) e with h4 | h4
      · rw [show e = f + 1 + 1 + 1 by omega]
        have := d0 (by omega)
        have := d1 (by omega)
        have := d2 (by omega)
        omega
      · rw [show e = f + 1 + 1 by omega]
        have := d0 (by omega)
        have := d1 (by omega)
        omega
    · rw [show e = f + 1 by omega]
      have := d0 (by omega)
      omega
  · rw [show e = f by omega]
    omega
def isW (tx : Int → Int) (f e : Int) (s : Nat) : Prop := e - f = sLen s ∧ ∀ i, 0 ≤ i → i < sLen s → sCh s i = tx (f + i)
/-- the first of the n names from s on that is the word; -9 if none is -/
noncomputable def wh (tx : Int → Int) (f e : Int) (s : Nat) (n : Int) : Nat → Int → Int
  | 0, _ => -9
  | t + 1, v => @ite _ (isW tx f e (s + v.toNat)) (Classical.propDecidable _) v (wh tx f e s n t (v + 1))
noncomputable def vb (tx : Int → Int) (f e : Int) : Int := wh tx f e 4 9 9 0
noncomputable def wy (tx : Int → Int) (f e : Int) : Int := wh tx f e 0 4 4 0
theorem wh_rg {tx : Int → Int} {f e : Int} {s : Nat} {n : Int} : ∀ (t : Nat) (v : Int), 0 ≤ v → wh tx f e s n t v = -9 ∨ (v ≤ wh tx f e s n t v ∧ wh tx f e s n t v < v + t ∧ isW tx f e (s + (wh tx f e s n t v).toNat))
  | 0, v, _ => Or.inl rfl
  | t + 1, v, h => by
    show @ite Int _ (Classical.propDecidable _) _ _ = -9 ∨ (v ≤ @ite Int _ (Classical.propDecidable _) _ _ ∧ @ite Int _ (Classical.propDecidable _) _ _ < v + ((t + 1 : Nat) : Int) ∧ isW tx f e (s + (@ite Int _ (Classical.propDecidable _) _ _).toNat))
    by_cases hc : isW tx f e (s + v.toNat)
    · rw [if_pos hc]
      exact Or.inr ⟨Int.le_refl _, by omega, hc⟩
    · rw [if_neg hc]
      rcases wh_rg t (v + 1) (by omega) with z | ⟨z1, z2, z3⟩
      · exact Or.inl z
      · exact Or.inr ⟨by omega, by omega, z3⟩
section R5
variable {M : Mm} {s tn : Int} {tx : Int → Int}
theorem s5_skip {Q : Mm → Prop} (h1 : M s 1 = tn) (hb : ∀ i, 0 ≤ i → i < tn → M (s + 1) i = tx i) (ht : tn ≤ 150) (ha : 0 ≤ M s 7 ∧ M s 7 ≤ tn) (hq : ∀ M2 : Mm, (∀ a, a ≠ s → M2 a = M a) → (∀ j, j ≠ 7 → M2 s j = M s j) → M2 s 7 = sb tn tx (M s 7) → Q M2) : PX5_skipBlanks s M Q := by
  unfold PX5_skipBlanks
  refine lr_o (fun M2 => (∀ a, a ≠ s → M2 a = M a) ∧ (∀ j, j ≠ 7 → M2 s j = M s j) ∧ 0 ≤ M2 s 7 ∧ M2 s 7 ≤ tn ∧ sb tn tx (M2 s 7) = sb tn tx (M s 7)) (fun M2 => (tn - M2 s 7).toNat) ?_ ⟨fun _ _ => rfl, fun _ _ => rfl, ha.1, ha.2, rfl⟩
  rintro rec M2 ⟨f2, g2, a0, a1, e2⟩ hrec
  unfold BX5_skipBlanks_0
  rw [g2 1 (by omega), h1, f2 (s + 1) (by omega)]
  refine ⟨fun hx => hq M2 f2 g2 (by rw [← e2, sb_stop (by omega)]), fun hx => ⟨by omega, ?_⟩⟩
  rw [hb _ a0 (by omega)]
  refine ⟨fun hc => ⟨by omega, ?_⟩, fun hc => hq M2 f2 g2 (by rw [← e2, sb_stop (fun z => hc z.2)])⟩
  rintro M7 rfl
  refine hrec _ ⟨fun a ha => by rw [um_ne _ _ _ ha]; exact f2 a ha, fun j hj => by rw [um_r _ (by omega)]; exact g2 j hj, by rw [um_w]; omega, by rw [um_w]; omega, ?_⟩ (by rw [um_w]; omega)
  rw [um_w, ← e2, sb_go (by omega) hc]
theorem s5_word {Q : Int → Mm → Prop} (h1 : M s 1 = tn) (hb : ∀ i, 0 ≤ i → i < tn → M (s + 1) i = tx i) (ht : tn ≤ 150) (ha : 0 ≤ M s 7 ∧ M s 7 ≤ tn)
    (hn : ¬ sb tn tx (M s 7) < we tn tx (sb tn tx (M s 7)) → ∀ M2 : Mm, (∀ a, a ≠ s → M2 a = M a) → (∀ j, j ≠ 5 → j ≠ 6 → j ≠ 7 → j ≠ 8 → M2 s j = M s j) → M2 s 8 = sb tn tx (M s 7) → Q 0 M2)
    (hy : sb tn tx (M s 7) < we tn tx (sb tn tx (M s 7)) → ∀ M2 : Mm, (∀ a, a ≠ s → M2 a = M a) → (∀ j, j ≠ 5 → j ≠ 6 → j ≠ 7 → M2 s j = M s j) → M2 s 5 = sb tn tx (M s 7) → M2 s 6 = we tn tx (sb tn tx (M s 7)) → M2 s 7 = we tn tx (sb tn tx (M s 7)) → Q 1 M2) : PX5_readWord s M Q := by
  have hr := sb_rg (tx := tx) ha.2
  have hr2 := we_rg (tx := tx) hr.2
  unfold PX5_readWord
  refine s5_skip h1 hb ht ha (fun M1 f1 g1 e1 => ?_)
  rw [e1]
  rintro M4 rfl
  generalize hf : sb tn tx (M s 7) = f at hn hy hr hr2 e1 ⊢
  refine lr_o (fun M2 => (∀ a, a ≠ s → M2 a = M a) ∧ (∀ j, j ≠ 5 → j ≠ 7 → M2 s j = M s j) ∧ M2 s 5 = f ∧ f ≤ M2 s 7 ∧ M2 s 7 ≤ tn ∧ we tn tx (M2 s 7) = we tn tx f) (fun M2 => (tn - M2 s 7).toNat) ?_ ⟨fun a ha => by rw [um_ne _ _ _ ha]; exact f1 a ha, fun j b1 b2 => by rw [um_r _ (by omega)]; exact g1 j b2, um_w _ _ _ _, by rw [um_r _ (by omega), e1]; omega, by rw [um_r _ (by omega), e1]; omega, by rw [um_r _ (by omega), e1]⟩
  rintro rec M2 ⟨f2, g2, c5, a0, a1, e2⟩ hrec
  have fin : M2 s 7 = we tn tx f → JX5_readWord_51 Q s M2 := by
    intro e7
    unfold JX5_readWord_51 PX5_failAt
    rintro M18 rfl
    rw [show um M2 s 6 (M2 s 7) s 5 = f by rw [um_r _ (by omega)]; exact c5, um_w, um_r _ (by omega), e7]
    refine ⟨fun hlt => hy hlt _ (fun a ha => by rw [um_ne _ _ _ ha]; exact f2 a ha) (fun j b1 b2 b3 => by rw [um_r _ (by omega)]; exact g2 j b1 b3) (by rw [um_r _ (by omega)]; exact c5) (um_w _ _ _ _) (by rw [um_r _ (by omega)]; exact e7), fun hlt => ?_⟩
    rintro M22 rfl
    refine ⟨fun _ => hn hlt _ (fun a ha => by rw [um_ne _ _ _ ha, um_ne _ _ _ ha]; exact f2 a ha) (fun j b1 b2 b3 b4 => by rw [um_r _ (by omega), um_r _ (by omega)]; exact g2 j b1 b3) (by rw [um_w]; omega), fun z => absurd rfl z⟩
  unfold BX5_readWord_12
  rw [g2 1 (by omega) (by omega), h1, f2 (s + 1) (by omega)]
  refine ⟨fun hx => fin (by rw [← e2, we_stop (by omega)]), fun hx => ⟨by omega, ?_⟩⟩
  rw [hb _ (by omega) (by omega)]
  refine s5_isSign (fun hs => ⟨fun z => by omega, fun _ => ⟨by omega, ?_⟩⟩) (fun hs => ⟨fun _ => fin (by rw [← e2, we_stop (fun z => hs z.2)]), fun z => absurd rfl z⟩)
  rintro M13 rfl
  refine hrec _ ⟨fun a ha => by rw [um_ne _ _ _ ha]; exact f2 a ha, fun j b1 b2 => by rw [um_r _ (by omega)]; exact g2 j b1 b2, by rw [um_r _ (by omega)]; exact c5, by rw [um_w]; omega, by rw [um_w]; omega, by rw [um_w, ← e2, we_go (by omega) hs]⟩ (by rw [um_w]; omega)
theorem s5_isWord {Q : Int → Mm → Prop} {w : Nat} {f e : Int} (hb : ∀ i, 0 ≤ i → i < tn → M (s + 1) i = tx i) (ht : tn ≤ 150) (h5 : M s 5 = f) (h6 : M s 6 = e) (hf : 0 ≤ f ∧ f ≤ e ∧ e ≤ tn) (hy : isW tx f e w → Q 1 M) (hn : ¬ isW tx f e w → Q 0 M) : PX5_isWord s w M Q := by
  unfold PX5_isWord
  rw [h5, h6]
  refine ⟨by omega, fun he => ?_, fun he => hn (fun z => he z.1.symm)⟩
  refine lk_I (fun v => 0 ≤ v ∧ v ≤ sLen w ∧ ∀ i, 0 ≤ i → i < v → sCh w i = tx (f + i)) (fun v => (sLen w - v).toNat) ?_ ⟨Int.le_refl _, by omega, fun i a b => by omega⟩
  rintro rec v ⟨a0, a1, hv⟩ hrec
  unfold BX5_isWord_20
  rw [h5]
  refine ⟨fun hx => hy ⟨he.symm, fun i a b => hv i a (by omega)⟩, fun hx => ⟨by omega, by omega, ?_⟩⟩
  rw [hb _ (by omega) (by omega)]
  refine ⟨fun hc => ⟨by omega, hrec _ ⟨by omega, by omega, fun i a b => ?_⟩ (by omega)⟩, fun hc => hn (fun z => hc (z.2 v a0 (by omega)))⟩
  by_cases hi : i = v
  · rw [hi]; exact hc
  · exact hv i a (by omega)
theorem s5_verb {Q : Int → Mm → Prop} {f e : Int} (hb : ∀ i, 0 ≤ i → i < tn → M (s + 1) i = tx i) (ht : tn ≤ 150) (h5 : M s 5 = f) (h6 : M s 6 = e) (hf : 0 ≤ f ∧ f ≤ e ∧ e ≤ tn) (hq : Q (vb tx f e) M) : PX5_verbOfWord s M Q := by
  unfold PX5_verbOfWord
  refine lk_I (fun v => 0 ≤ v ∧ v ≤ 9 ∧ wh tx f e 4 9 (9 - v).toNat v = vb tx f e) (fun v => (9 - v).toNat) ?_ ⟨Int.le_refl _, by omega, rfl⟩
  rintro rec v ⟨a0, a1, ev⟩ hrec
  unfold BX5_verbOfWord_2
  refine ⟨fun hx => ?_, fun hx => ?_⟩
  · rw [show v = 9 by omega] at ev
    rw [← ev] at hq
    exact hq
  · have step : PX5_isWord s (4 + v.toNat) M (fun z_3 M_4 => (z_3 = 0 → inR (v + 1) ∧ rec (v + 1) M_4) ∧ (¬ z_3 = 0 → Q v M_4)) := by
      rw [show (9 - v).toNat = (9 - (v + 1)).toNat + 1 by omega] at ev
      have ev2 : @ite Int (isW tx f e (4 + v.toNat)) (Classical.propDecidable _) v (wh tx f e 4 9 (9 - (v + 1)).toNat (v + 1)) = vb tx f e := ev
      refine s5_isWord hb ht h5 h6 hf (fun hw => ⟨fun z => by omega, fun _ => ?_⟩) (fun hw => ⟨fun _ => ⟨by omega, hrec _ ⟨by omega, by omega, ?_⟩ (by omega)⟩, fun z => absurd rfl z⟩)
      · rw [if_pos hw] at ev2
        rw [ev2]; exact hq
      · rw [if_neg hw] at ev2
        exact ev2
    unfold PX5_nameOfVerb
    refine ⟨fun z => ?_, fun z => ?_, fun z => ?_, fun z => ?_, fun z => ?_, fun z => ?_, fun z => ?_, fun z => ?_, fun z => ?_⟩
    · rw [show v = 8 by omega] at step ⊢; exact step
    · subst z; exact step
    · subst z; exact step
    · subst z; exact step
    · subst z; exact step
    · subst z; exact step
    · subst z; exact step
    · subst z; exact step
    · subst z; exact step
theorem s5_align {Q : Int → Mm → Prop} {f e : Int} (hb : ∀ i, 0 ≤ i → i < tn → M (s + 1) i = tx i) (ht : tn ≤ 150) (h5 : M s 5 = f) (h6 : M s 6 = e) (hf : 0 ≤ f ∧ f ≤ e ∧ e ≤ tn) (hn : wy tx f e < 0 → Q 0 M) (hy : 0 ≤ wy tx f e → Q 1 (um M s 4 (wy tx f e))) : PX5_takeAlign s M Q := by
  unfold PX5_takeAlign
  refine lk_I (fun v => 0 ≤ v ∧ v ≤ 4 ∧ wh tx f e 0 4 (4 - v).toNat v = wy tx f e) (fun v => (4 - v).toNat) ?_ ⟨Int.le_refl _, by omega, rfl⟩
  rintro rec v ⟨a0, a1, ev⟩ hrec
  unfold BX5_takeAlign_2
  refine ⟨fun hx => ?_, fun hx => ?_⟩
  · rw [show v = 4 by omega] at ev
    exact hn (by rw [← ev]; show (-9 : Int) < 0; omega)
  · have step : PX5_isWord s (0 + v.toNat) M (fun z_3 M_4 => (z_3 = 0 → inR (v + 1) ∧ rec (v + 1) M_4) ∧ (¬ z_3 = 0 → ∀ M_8 : Mm, M_8 = um M_4 s 4 v → Q 1 M_8)) := by
      rw [show (4 - v).toNat = (4 - (v + 1)).toNat + 1 by omega] at ev
      have ev2 : @ite Int (isW tx f e (0 + v.toNat)) (Classical.propDecidable _) v (wh tx f e 0 4 (4 - (v + 1)).toNat (v + 1)) = wy tx f e := ev
      refine s5_isWord hb ht h5 h6 hf (fun hw => ⟨fun z => by omega, fun _ => ?_⟩) (fun hw => ⟨fun _ => ⟨by omega, hrec _ ⟨by omega, by omega, ?_⟩ (by omega)⟩, fun z => absurd rfl z⟩)
      · rw [if_pos hw] at ev2
        rintro M8 rfl
        rw [ev2]
        exact hy (by omega)
      · rw [if_neg hw] at ev2
        exact ev2
    unfold PX5_nameOfAlign
    refine ⟨fun z => ?_, fun z => ?_, fun z => ?_, fun z => ?_⟩
    · rw [show v = 3 by omega] at step ⊢; exact step
    · subst z; exact step
    · subst z; exact step
    · subst z; exact step
theorem s5_number {Q : Int → Mm → Prop} {f e v1 : Int} (hb : ∀ i, 0 ≤ i → i < tn → M (s + 1) i = tx i) (ht : tn ≤ 150) (h5 : M s 5 = f) (h6 : M s 6 = e) (hf : 0 ≤ f ∧ f < e ∧ e ≤ tn) (hn : ¬ nOk tx f e → Q 0 M) (hy : nOk tx f e → Q 1 (um M s (if v1 = 0 then 4 else 3) (nv tx f e))) : PX5_takeNumber s v1 M Q := by
  have loop : e - f ≤ 3 → (e - f = 1 ∨ tx f ≠ 48) → JX5_takeNumber_36 Q s v1 M := by
    intro k1 k2
    unfold JX5_takeNumber_36
    rw [h5]
    refine lk_II (fun u v => u = nv tx f v ∧ f ≤ v ∧ v ≤ e ∧ ∀ i, f ≤ i → i < v → 48 ≤ tx i ∧ tx i ≤ 57) (fun _ v => (e - v).toNat) ?_ ⟨(nv_0 tx f).symm, Int.le_refl _, by omega, fun i a b => by omega⟩
    rintro rec u v ⟨rfl, a0, a1, hd⟩ hrec
    unfold BX5_takeNumber_44
    rw [h6]
    refine ⟨fun hx => ?_, fun hx => ⟨by omega, ?_⟩⟩
    · have hy2 := hy ⟨k1, k2, fun i a b => hd i a (by omega)⟩
      rw [show v = e by omega]
      refine ⟨fun z => ?_, fun z => ?_⟩
      · rintro M16 rfl
        rw [if_pos z] at hy2; exact hy2
      · rintro M17 rfl
        rw [if_neg z] at hy2; exact hy2
    · rw [hb v (by omega) (by omega)]
      have hr := nv_rg a0 (by omega) hd
      refine s5_isFig (fun hs => ⟨fun z => by omega, fun _ => ⟨by omega, ?_⟩⟩) (fun hs => ⟨fun _ => hn (fun z => hs (z.2.2 v a0 (by omega))), fun z => absurd rfl z⟩)
      rw [hb v (by omega) (by omega)]
      refine ⟨by omega, by omega, hrec _ _ ⟨(nv_s tx a0).symm, by omega, by omega, fun i a b => ?_⟩ (by omega)⟩
      by_cases hi : i = v
      · rw [hi]; exact hs
      · exact hd i a (by omega)
  unfold PX5_takeNumber
  rw [h5, h6]
  refine ⟨by omega, fun hx => hn (fun z => by have := z.1; omega), fun hx => ⟨fun hx2 => loop (by omega) (by omega), fun hx2 => ⟨by omega, ?_⟩⟩⟩
  rw [hb f (by omega) (by omega)]
  exact ⟨fun hc => hn (fun z => z.2.1.elim (fun y => by omega) (fun y => y hc)), fun hc => loop (by omega) (Or.inr hc)⟩
theorem s5_end {Q : Int → Mm → Prop} (h1 : M s 1 = tn) (hb : ∀ i, 0 ≤ i → i < tn → M (s + 1) i = tx i) (ht : tn ≤ 150) (ha : 0 ≤ M s 7 ∧ M s 7 ≤ tn)
    (hn : ¬ (sb tn tx (M s 7) < tn ∧ tx (sb tn tx (M s 7)) = 59) → ∀ M2 : Mm, (∀ a, a ≠ s → M2 a = M a) → (∀ j, j ≠ 7 → j ≠ 8 → M2 s j = M s j) → M2 s 8 = sb tn tx (M s 7) → Q 0 M2)
    (hy : (sb tn tx (M s 7) < tn ∧ tx (sb tn tx (M s 7)) = 59) → ∀ M2 : Mm, (∀ a, a ≠ s → M2 a = M a) → (∀ j, j ≠ 7 → M2 s j = M s j) → M2 s 7 = sb tn tx (M s 7) + 1 → Q 1 M2) : PX5_readEnd s M Q := by
  have hr := sb_rg (tx := tx) ha.2
  unfold PX5_readEnd JX5_readEnd_29 PX5_failAt
  refine s5_skip h1 hb ht ha (fun M1 f1 g1 e1 => ?_)
  rw [g1 1 (by omega), h1, e1, f1 (s + 1) (by omega)]
  refine ⟨fun hx => ?_, fun hx => ⟨by omega, ?_⟩⟩
  · rintro M6 rfl
    exact ⟨Or.inl rfl, hn (by omega) _ (fun a ha => by rw [um_ne _ _ _ ha]; exact f1 a ha) (fun j b1 b2 => by rw [um_r _ (by omega)]; exact g1 j b1) (um_w _ _ _ _)⟩
  · rw [hb _ (by omega) (by omega)]
    refine ⟨fun hc => ⟨by omega, ?_⟩, fun hc => ?_⟩
    · rintro M13 rfl
      exact hy ⟨by omega, hc⟩ _ (fun a ha => by rw [um_ne _ _ _ ha]; exact f1 a ha) (fun j b1 => by rw [um_r _ (by omega)]; exact g1 j b1) (um_w _ _ _ _)
    · rintro M6 rfl
      exact ⟨Or.inl rfl, hn (fun z => hc z.2) _ (fun a ha => by rw [um_ne _ _ _ ha]; exact f1 a ha) (fun j b1 b2 => by rw [um_r _ (by omega)]; exact g1 j b1) (um_w _ _ _ _)⟩
end R5
