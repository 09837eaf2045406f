def TM (m : Int) (M : Mm) (tn : Int) (tx : Int → Int) : Prop := M m 7 = tn ∧ (∀ i, 0 ≤ i → i < tn → M (m + 5) i = tx i) ∧ tn ≤ 150 ∧ ∀ i, 0 ≤ i → i < tn → 0 ≤ tx i ∧ tx i ≤ 255
def FrM (m : Int) (M M2 : Mm) : Prop := (∀ a, a ≠ m → M2 a = M a) ∧ ∀ j, j ≤ 8 → M2 m j = M m j
theorem FrM.tr {m : Int} {M M1 M2 : Mm} (h : FrM m M M1) (g : FrM m M1 M2) : FrM m M M2 := ⟨fun a ha => by rw [g.1 a ha, h.1 a ha], fun j hj => by rw [g.2 j hj, h.2 j hj]⟩
theorem TM.fr {m tn : Int} {tx : Int → Int} {M M2 : Mm} (h : TM m M tn tx) (hf : FrM m M M2) : TM m M2 tn tx := ⟨by rw [hf.2 7 (by omega)]; exact h.1, fun i a b => by rw [hf.1 _ (by omega)]; exact h.2.1 i a b, h.2.2⟩
def lv (tx : Int → Int) (f : Int) : Nat → Int
  | 0 => 0
  | n + 1 => 27 * lv tx f n + tx (f + n) - 96
def pw : Nat → Int
  | 0 => 1
  | n + 1 => 27 * pw n
theorem pw_5 : ∀ n : Nat, n < 6 → pw n ≤ 14348907 := by decide
theorem lv_rg {tx : Int → Int} {f : Int} : ∀ n : Nat, (∀ i, f ≤ i → i < f + n → 97 ≤ tx i ∧ tx i ≤ 122) → 0 ≤ lv tx f n ∧ lv tx f n + 1 ≤ pw n
  | 0, _ => by show (0 : Int) ≤ 0 ∧ (0 : Int) + 1 ≤ 1; omega
  | n + 1, h => by
    have ih := lv_rg n (fun i a b => h i a (by omega))
    have hc := h (f + n) (by omega) (by omega)
    show 0 ≤ 27 * lv tx f n + tx (f + n) - 96 ∧ 27 * lv tx f n + tx (f + n) - 96 + 1 ≤ 27 * pw n
    omega
/-- the number of a word; 0 if it is none of at most six letters -/
noncomputable def lt' (tx : Int → Int) (f e : Int) : Int := @ite _ (e - f ≤ 6 ∧ ∀ i, f ≤ i → i < e → 97 ≤ tx i ∧ tx i ≤ 122) (Classical.propDecidable _) (lv tx f (e - f).toNat) 0
theorem wh_y {tx : Int → Int} {f e v n : Int} {s t : Nat} (h : isW tx f e (s + v.toNat)) : wh tx f e s n (t + 1) v = v := by
  show @ite Int _ (Classical.propDecidable _) _ _ = _
  rw [if_pos h]
theorem wh_n {tx : Int → Int} {f e v n : Int} {s t : Nat} (h : ¬ isW tx f e (s + v.toNat)) : wh tx f e s n (t + 1) v = wh tx f e s n t (v + 1) := by
  show @ite Int _ (Classical.propDecidable _) _ _ = _
  rw [if_neg h]
section R7
variable {M : Mm} {m tn : Int} {tx : Int → Int}
theorem s7_blanks {Q : Mm → Prop} (hT : TM m M tn tx) (ha : 0 ≤ M m 9 ∧ M m 9 ≤ tn) (hq : ∀ M2 : Mm, (∀ a, a ≠ m → M2 a = M a) → (∀ j, j ≠ 9 → M2 m j = M m j) → M2 m 9 = sb tn tx (M m 9) → Q M2) : PX7_blanks m M Q := by
  obtain ⟨h1, hb, ht, -⟩ := hT
  unfold PX7_blanks
  refine lr_o (fun M2 => (∀ a, a ≠ m → M2 a = M a) ∧ (∀ j, j ≠ 9 → M2 m j = M m j) ∧ 0 ≤ M2 m 9 ∧ M2 m 9 ≤ tn ∧ sb tn tx (M2 m 9) = sb tn tx (M m 9)) (fun M2 => (tn - M2 m 9).toNat) ?_ ⟨fun _ _ => rfl, fun _ _ => rfl, ha.1, ha.2, rfl⟩
  rintro rec M2 ⟨f2, g2, a0, a1, e2⟩ hrec
  unfold BX7_blanks_0
  rw [g2 7 (by omega), h1, f2 (m + 5) (by omega)]
  refine ⟨fun hx => hq M2 f2 g2 (by rw [← e2, sb_stop (by omega)]), fun hx => ⟨by omega, ?_⟩⟩
  rw [hb _ a0 (by omega)]
  refine ⟨fun hc => ⟨by omega, ?_⟩, fun hc => hq M2 f2 g2 (by rw [← e2, sb_stop (fun z => hc z.2)])⟩
  rintro M7 rfl
  refine hrec _ ⟨fun a ha => by rw [um_ne _ _ _ ha]; exact f2 a ha, fun j hj => by rw [um_r _ (by omega)]; exact g2 j hj, by rw [um_w]; omega, by rw [um_w]; omega, ?_⟩ (by rw [um_w]; omega)
  rw [um_w, ← e2, sb_go (by omega) hc]
theorem s7_word {Q : Int → Mm → Prop} (hT : TM m M tn tx) (ha : 0 ≤ M m 9 ∧ M m 9 ≤ tn)
    (hA : Aw tn tx (M m 9) (fun f => ∀ M2 : Mm, FrM m M M2 → M2 m 12 = f → Q 0 M2) (fun f e => ∀ M2 : Mm, (∀ a, a ≠ m → M2 a = M a) → (∀ j, j ≠ 9 → j ≠ 10 → j ≠ 11 → M2 m j = M m j) → M2 m 10 = f → M2 m 11 = e - f → M2 m 9 = e → Q 1 M2)) : PX7_word m M Q := by
  obtain ⟨h1, hb, ht, -⟩ := id hT
  obtain ⟨hn, hy⟩ := hA
  have hr := sb_rg (tx := tx) ha.2
  have hr2 := we_rg (tx := tx) hr.2
  unfold PX7_word
  refine s7_blanks hT ha (fun M1 f1 g1 e1 => ?_)
  rw [e1]
  rintro M4 rfl
  generalize hf : sb tn tx (M m 9) = f at hn hy hr hr2 e1 ⊢
  refine lr_o (fun M2 => (∀ a, a ≠ m → M2 a = M a) ∧ (∀ j, j ≠ 9 → j ≠ 10 → M2 m j = M m j) ∧ M2 m 10 = f ∧ f ≤ M2 m 9 ∧ M2 m 9 ≤ tn ∧ we tn tx (M2 m 9) = we tn tx f) (fun M2 => (tn - M2 m 9).toNat) ?_ ⟨fun a ha => by rw [um_ne _ _ _ ha]; exact f1 a ha, fun j b1 b2 => by rw [um_r _ (by omega)]; exact g1 j b1, um_w _ _ _ _, by rw [um_r _ (by omega), e1]; omega, by rw [um_r _ (by omega), e1]; omega, by rw [um_r _ (by omega), e1]⟩
  rintro rec M2 ⟨f2, g2, c5, a0, a1, e2⟩ hrec
  have fin : M2 m 9 = we tn tx f → JX7_word_51 Q m M2 := by
    intro e7
    unfold JX7_word_51 PX7_fails
    rw [c5, e7]
    refine ⟨by omega, ?_⟩
    rintro M18 rfl
    rw [um_w, show um M2 m 11 (we tn tx f - f) m 10 = f by rw [um_r _ (by omega)]; exact c5]
    refine ⟨fun hlt => hy (by omega) _ (fun a ha => by rw [um_ne _ _ _ ha]; exact f2 a ha) (fun j b1 b2 b3 => by rw [um_r _ (by omega)]; exact g2 j b1 b2) (by rw [um_r _ (by omega)]; exact c5) (um_w _ _ _ _) (by rw [um_r _ (by omega)]; exact e7), fun hlt => ?_⟩
    rintro M22 rfl
    refine ⟨fun _ => hn (by omega) _ ⟨fun a ha => by rw [um_ne _ _ _ ha, um_ne _ _ _ ha]; exact f2 a ha, fun j hj => by rw [um_r _ (by omega), um_r _ (by omega)]; exact g2 j (by omega) (by omega)⟩ (um_w _ _ _ _), fun z => absurd rfl z⟩
  unfold BX7_word_12
  rw [g2 7 (by omega) (by omega), h1, f2 (m + 5) (by omega)]
  refine ⟨fun hx => fin (by rw [← e2, we_stop (by omega)]), fun hx => ⟨by omega, ?_⟩⟩
  rw [hb _ (by omega) (by omega)]
  refine s7_isSign (fun hs => ⟨fun z => by omega, fun _ => ⟨by omega, ?_⟩⟩) (fun hs => ⟨fun _ => fin (by rw [← e2, we_stop (fun z => hs z.2)]), fun z => absurd rfl z⟩)
  rintro M13 rfl
  refine hrec _ ⟨fun a ha => by rw [um_ne _ _ _ ha]; exact f2 a ha, fun j b1 b2 => by rw [um_r _ (by omega)]; exact g2 j b1 b2, by rw [um_r _ (by omega)]; exact c5, by rw [um_w]; omega, by rw [um_w]; omega, by rw [um_w, ← e2, we_go (by omega) hs]⟩ (by rw [um_w]; omega)
theorem s7_letters {Q : Int → Mm → Prop} {f e : Int} (hT : TM m M tn tx) (h10 : M m 10 = f) (h11 : M m 11 = e - f) (hf : 0 ≤ f ∧ f < e ∧ e ≤ tn) (hq : Q (lt' tx f e) M) : PX7_letters m M Q := by
  obtain ⟨h1, hb, ht, hx⟩ := id hT
  unfold PX7_letters
  rw [h11, h10]
  refine ⟨fun h6 => ?_, fun h6 => ?_⟩
  · refine ⟨1, ?_⟩
    show BX7_letters_22 _ Q m _ 0 0 f M
    unfold BX7_letters_22
    rw [h11, h10]
    refine ⟨by omega, fun z => by omega, fun _ => ⟨fun _ => ?_, fun z => absurd rfl z⟩⟩
    refine ⟨fun _ => ?_, fun z => absurd rfl z⟩
    unfold lt' at hq
    rw [if_neg (fun z => by have := z.1; omega)] at hq
    exact hq
  · refine lk_III (fun u b v => f ≤ v ∧ v ≤ e ∧ ((b = 1 ∧ u = lv tx f (v - f).toNat ∧ ∀ i, f ≤ i → i < v → 97 ≤ tx i ∧ tx i ≤ 122) ∨ (b = 0 ∧ ∃ i, f ≤ i ∧ i < e ∧ ¬ (97 ≤ tx i ∧ tx i ≤ 122)))) (fun _ _ v => (e - v).toNat) ?_ ⟨Int.le_refl _, by omega, Or.inl ⟨rfl, by rw [show (f - f).toNat = 0 by omega]; rfl, fun i a b => by omega⟩⟩
    rintro rec u b v ⟨a0, a1, hu⟩ hrec
    have out : b = 0 → (∃ i, f ≤ i ∧ i < e ∧ ¬ (97 ≤ tx i ∧ tx i ≤ 122)) → JX7_letters_74 Q u b M := by
      rintro rfl ⟨i, i0, i1, i2⟩
      unfold JX7_letters_74
      refine ⟨fun _ => ?_, fun z => absurd rfl z⟩
      unfold lt' at hq
      rw [if_neg (fun z => i2 (z.2 i i0 i1))] at hq
      exact hq
    unfold BX7_letters_22
    rw [h11, h10]
    refine ⟨by omega, fun hv => ?_, fun hv => ⟨fun hb0 => ?_, fun hb0 => ⟨by omega, ?_⟩⟩⟩
    · rcases hu with ⟨rfl, rfl, hl⟩ | ⟨b0, hl⟩
      · unfold JX7_letters_74
        refine ⟨fun z => by omega, fun _ => ?_⟩
        unfold lt' at hq
        rw [if_pos ⟨by omega, fun i a b => hl i a (by omega)⟩] at hq
        rw [show v = e by omega]
        exact hq
      · exact out b0 hl
    · rcases hu with ⟨z, -⟩ | ⟨b0, hl⟩
      · omega
      · exact out b0 hl
    · rcases hu with ⟨rfl, rfl, hl⟩ | ⟨b0, -⟩
      rotate_left
      · omega
      rw [hb v (by omega) (by omega)]
      have hr := lv_rg (tx := tx) (f := f) (v - f).toNat (fun i a b => hl i a (by omega))
      have hp := pw_5 (v - f).toNat (by omega)
      have hxv := hx v (by omega) (by omega)
      have es : lv tx f (v + 1 - f).toNat = 27 * lv tx f (v - f).toNat + tx v - 96 := by
        rw [show (v + 1 - f).toNat = (v - f).toNat + 1 by omega]
        show 27 * lv tx f (v - f).toNat + tx (f + ((v - f).toNat : Nat)) - 96 = _
        rw [show f + (((v - f).toNat : Nat) : Int) = v by omega]
      refine s7_in (fun c d => ⟨by omega, ?_⟩) (fun c => ⟨by omega, ?_⟩)
      · rw [hb v (by omega) (by omega)]
        refine ⟨by omega, by omega, hrec _ _ _ ⟨by omega, by omega, Or.inl ⟨rfl, es.symm, fun i a b => ?_⟩⟩ (by omega)⟩
        by_cases hi : i = v
        · rw [hi]; exact ⟨c, d⟩
        · exact hl i a (by omega)
      · rw [hb v (by omega) (by omega)]
        exact ⟨by omega, by omega, hrec _ _ _ ⟨by omega, by omega, Or.inr ⟨rfl, v, a0, by omega, c⟩⟩ (by omega)⟩
end R7
