theorem MI.keep2 {M M2 : Mm} {m j b n : Int} {q : Int → Int} {ps : Int → Int → Int} (h : MI m M j b q n ps) (hw : b ≠ 0 → WR q ∧ n ≤ 10 ∧ ∀ i, 0 ≤ i → i < n → WR (ps i)) (h6 : M2 (m + 6) j = M (m + 6) j) (h9 : M2 (m + 9) j = M (m + 9) j) (h10 : M2 (m + 10) j = M (m + 10) j) (h7 : ∀ t, 0 ≤ t → t < 327 → M2 (m + 7) ((327 * j) + t) = M (m + 7) ((327 * j) + t)) (h8 : ∀ t, 0 ≤ t → t < 3270 → M2 (m + 8) ((3270 * j) + t) = M (m + 8) ((3270 * j) + t)) : MI m M2 j b q n ps := by
  obtain ⟨g1, g2⟩ := h
  refine ⟨by rw [h6]; exact g1, fun hb => ?_⟩
  obtain ⟨k1, k2, k3, k4⟩ := g2 hb
  obtain ⟨w1, w2, w3⟩ := hw hb
  refine ⟨(eqv_cells (k1.sy.wr w1) (fun t a b => h7 t a b)).tr k1, by rw [h9]; exact k2, by rw [h10]; exact k3, fun i a b => ?_⟩
  have e := k4 i a b
  rw [h10]
  refine (eqv_cells (e.sy.wr (w3 i a b)) (fun t c d => h8 _ ?_ ?_)).tr e
  · omega
  · omega
section IMG
variable {x : Int} {M : Mm}
theorem i_keep {j : Int} (hI : Inv x M) : PX6_keep x j M (fun r M1 => PX7_keep (x + 168) j M1 (fun r2 M2 => r = r2 ∧ Inv x M2)) := by
  obtain ⟨p, n, ps, c, h1, h2, ⟨tn, tx, h3⟩, kb, kq, kn, ks, h4⟩ := id hI
  obtain ⟨h45, hw, he, hpa, hc, hL⟩ := id h1
  obtain ⟨-, hm, mpa, mc⟩ := id h2
  have hb := hw.1
  have no : ¬ (0 ≤ j ∧ j ≤ 1) → PX7_keep (x + 168) j M (fun r2 M2 => -1 = r2 ∧ Inv x M2) := by
    intro hk
    unfold PX7_keep
    exact s7_in (fun a c => by omega) (fun _ => ⟨fun _ => ⟨rfl, hI⟩, fun z => absurd rfl z⟩)
  unfold PX6_keep
  refine ⟨fun hj => no (by omega), fun hj => ⟨fun hj2 => ⟨by omega, ?_⟩, fun hj2 => no (by omega)⟩⟩
  generalize hI0 : x + 49 + 25 + 47 * j = I
  refine s3_copy (r := vw M (x + 1)) rfl (he.sy.wr hw) (by omega) (fun M3 f3 e3 => ?_)
  refine s4_copy (n := n) (ps := ps) (hpa.keep (fun a b1 b2 => f3 a (by omega) (by omega) (by omega) (by omega))) (by omega) (fun M5 f5 p5 => ?_)
  rintro M6 rfl
  have fr : ∀ a, (a < I ∨ I + 46 < a) → um M5 I 0 1 a = M a := fun a ha => by rw [um_ne _ _ _ (by omega), f5 a (by omega), f3 a (by omega) (by omega) (by omega) (by omega)]
  have E6 : Eqv (vw (um M5 I 0 1) (I + 1)) p := by
    rw [vw_same (M := M3) (by rw [um_ne _ _ _ (by omega), f5 _ (by omega)]) (by rw [um_ne _ _ _ (by omega), f5 _ (by omega)]) (by rw [um_ne _ _ _ (by omega), f5 _ (by omega)]) (by rw [um_ne _ _ _ (by omega), f5 _ (by omega)])]
    exact e3.tr he
  have p6 : PaC (um M5 I 0 1) (I + 5) n ps := p5.keep (fun a b1 b2 => um_ne _ _ _ (by omega))
  have b6 : um M5 I 0 1 I 0 = 1 := um_w _ _ _ _
  rw [show um M5 I 0 1 (x + 1) 0 = p 0 by rw [fr _ (by omega)]; exact he.1]
  generalize um M5 I 0 1 = M6 at fr E6 p6 b6
  unfold PX7_keep
  refine s7_in (fun _ _ => ⟨fun z => by omega, fun _ => ⟨by omega, ?_⟩⟩) (fun z => by omega)
  rintro M7 rfl
  refine lr_I (fun v M8 => 0 ≤ v ∧ v ≤ 327 ∧ (∀ a, a ≠ x + 168 + 7 → M8 a = um M6 (x + 168 + 6) j 1 a) ∧ (∀ t, (t < 327 * j ∨ 327 * j + 327 ≤ t) → M8 (x + 168 + 7) t = M6 (x + 168 + 7) t) ∧ (∀ t, 0 ≤ t → t < v → M8 (x + 168 + 7) ((327 * j) + t) = M6 (x + 168 + 1) t)) (fun v _ => (327 - v).toNat) ?_ ⟨by omega, by omega, fun _ _ => rfl, fun t _ => by rw [um_r _ (by omega)], fun t a b => by omega⟩
  rintro rec v M8 ⟨a0, a1, f8, g8, e8⟩ hrec
  unfold BX7_keep_20
  refine ⟨fun hx => ?_, fun hx => ⟨by omega, by omega, ?_⟩⟩
  rotate_left
  · rintro M9 rfl
    refine ⟨by omega, hrec _ _ ⟨by omega, by omega, fun a ha => by rw [um_ne _ _ _ ha]; exact f8 a ha, fun t ht => by rw [um_r _ (by omega)]; exact g8 t ht, fun t b1 b2 => ?_⟩ (by omega)⟩
    by_cases ht : t = v
    · rw [ht, um_w, f8 _ (by omega), um_r _ (by omega)]
    · rw [um_r _ (by omega)]; exact e8 t b1 (by omega)
  refine lr_I (fun v M10 => 0 ≤ v ∧ v ≤ 3270 ∧ (∀ a, a ≠ x + 168 + 8 → M10 a = M8 a) ∧ (∀ t, (t < 3270 * j ∨ 3270 * j + 3270 ≤ t) → M10 (x + 168 + 8) t = M6 (x + 168 + 8) t) ∧ (∀ t, 0 ≤ t → t < v → M10 (x + 168 + 8) ((3270 * j) + t) = M6 (x + 168 + 4) t)) (fun v _ => (3270 - v).toNat) ?_ ⟨by omega, by omega, fun _ _ => rfl, fun t _ => by rw [f8 _ (by omega), um_r _ (by omega)], fun t a b => by omega⟩
  rintro rec2 w M10 ⟨c0, c1, f10, g10, e10⟩ hrec2
  unfold BX7_keep_53
  refine ⟨fun hx2 => ⟨by omega, ?_⟩, fun hx2 => ⟨by omega, by omega, ?_⟩⟩
  rotate_left
  · rintro M9 rfl
    refine ⟨by omega, hrec2 _ _ ⟨by omega, by omega, fun a ha => by rw [um_ne _ _ _ ha]; exact f10 a ha, fun t ht => by rw [um_r _ (by omega)]; exact g10 t ht, fun t b1 b2 => ?_⟩ (by omega)⟩
    by_cases ht : t = w
    · rw [ht, um_w, f10 _ (by omega), f8 _ (by omega), um_r _ (by omega)]
    · rw [um_r _ (by omega)]; exact e10 t b1 (by omega)
  rintro M21 rfl
  refine ⟨by omega, ?_⟩
  rintro M24 rfl
  have f1x : M10 (x + 168) = M (x + 168) := by rw [f10 _ (by omega), f8 _ (by omega), um_ne _ _ _ (by omega), fr _ (by omega)]
  have ev5 : um M10 (x + 168 + 9) j (M10 (x + 168) 4) (x + 168) 5 = M (x + 168) 5 := by rw [um_r _ (by omega), f1x]
  rw [ev5, f1x]
  have F : ∀ a, (a < I ∨ I + 46 < a) → (a < x + 174 ∨ x + 178 < a) → um (um M10 (x + 168 + 9) j (M (x + 168) 4)) (x + 168 + 10) j (M (x + 168) 5) a = M a := fun a b1 b2 => by
    rw [um_ne _ _ _ (by omega), um_ne _ _ _ (by omega), f10 _ (by omega), f8 _ (by omega), um_ne _ _ _ (by omega), fr a b1]
  have G : ∀ a, I ≤ a → a ≤ I + 46 → um (um M10 (x + 168 + 9) j (M (x + 168) 4)) (x + 168 + 10) j (M (x + 168) 5) a = M6 a := fun a b1 b2 => by
    rw [um_ne _ _ _ (by omega), um_ne _ _ _ (by omega), f10 _ (by omega), f8 _ (by omega), um_ne _ _ _ (by omega)]
  refine ⟨?_, p, n, ps, c, h1.keep (fun a b1 b2 => F a (by omega) (by omega)), h2.keep (fun a b1 b2 => F a (by omega) (by omega)), ⟨tn, tx, h3.keep (F _ (by omega) (by omega)) (F _ (by omega) (by omega)) (by rw [F _ (by omega) (by omega)]) (F _ (by omega) (by omega))⟩, fun i => if i = j then 1 else kb i, fun i => if i = j then p else kq i, fun i => if i = j then n else kn i, fun i => if i = j then ps else ks i, fun i i0 i1 => ?_⟩
  · rw [F (x + 168 + 1) (by omega) (by omega)]; exact hm.1.symm
  · dsimp only
    by_cases hij : i = j
    · subst hij
      rw [if_pos rfl, if_pos rfl, if_pos rfl, if_pos rfl]
      refine ⟨⟨?_, fun _ => ⟨?_, hw, ?_⟩⟩, ⟨?_, fun _ => ⟨?_, ?_, ?_, fun t t0 t1 => ?_⟩⟩⟩
      · rw [hI0, G _ (by omega) (by omega)]; exact b6
      · rw [hI0, vw_same (G _ (by omega) (by omega)) (G _ (by omega) (by omega)) (G _ (by omega) (by omega)) (G _ (by omega) (by omega))]; exact E6
      · rw [hI0]
        exact p6.keep (fun a b1 b2 => G a (by omega) (by omega))
      · rw [um_r _ (by omega), um_r _ (by omega), f10 _ (by omega), f8 _ (by omega), um_w]
      · refine (eqv_cells (hm.sy.wr hw) (fun t t0 t1 => ?_)).tr hm
        rw [um_r _ (by omega), um_r _ (by omega), f10 _ (by omega), e8 t t0 (by omega), fr _ (by omega)]
      · rw [um_r _ (by omega), um_w]; exact mpa.1
      · rw [um_w]; exact mpa.2.2.1
      · rw [um_w]
        obtain ⟨q1, q2⟩ := mpa.2.2.2 t t0 t1
        refine (eqv_cells (q1.sy.wr q2) (fun u u0 u1 => ?_)).tr q1
        have hn := mpa.2.1
        have h5 := mpa.2.2.1
        rw [um_r _ (by omega), um_r _ (by omega), e10 _ (by omega) (by omega), fr _ (by omega)]
    · rw [if_neg hij, if_neg hij, if_neg hij, if_neg hij]
      obtain ⟨q1, q2⟩ := h4 i i0 i1
      refine ⟨q1.keep (fun a b1 b2 => F a (by omega) (by omega)), q2.keep2 (fun hb => ⟨(q1.2 hb).2.1, (q1.2 hb).2.2.2.1.2, fun t t0 t1 => ((q1.2 hb).2.2.2.2.2 t t0 t1).2⟩) ?_ ?_ ?_ (fun t t0 t1 => ?_) (fun t t0 t1 => ?_)⟩
      · rw [um_r _ (by omega), um_r _ (by omega), f10 _ (by omega), f8 _ (by omega), um_r _ (by omega), fr _ (by omega)]
      · rw [um_r _ (by omega), um_r _ (by omega), f10 _ (by omega), f8 _ (by omega), um_r _ (by omega), fr _ (by omega)]
      · rw [um_r _ (by omega), um_r _ (by omega), f10 _ (by omega), f8 _ (by omega), um_r _ (by omega), fr _ (by omega)]
      · rw [um_r _ (by omega), um_r _ (by omega), f10 _ (by omega), g8 _ (by omega), fr _ (by omega)]
      · rw [um_r _ (by omega), um_r _ (by omega), g10 _ (by omega), fr _ (by omega)]
theorem i_back {j : Int} (hI : Inv x M) : PX6_back x j M (fun r M1 => PX7_back (x + 168) j M1 (fun r2 M2 => r = r2 ∧ Inv x M2)) := by
  obtain ⟨p, n, ps, c, h1, h2, ⟨tn, tx, h3⟩, kb, kq, kn, ks, h4⟩ := id hI
  obtain ⟨h45, hw, he, hpa, hc, hL⟩ := id h1
  obtain ⟨-, hm, mpa, mc⟩ := id h2
  have no : ¬ (0 ≤ j ∧ j ≤ 1) → PX7_back (x + 168) j M (fun r2 M2 => -1 = r2 ∧ Inv x M2) := by
    intro hk
    unfold PX7_back
    exact s7_in (fun a c => by omega) (fun _ => ⟨fun _ => ⟨rfl, hI⟩, fun z => absurd rfl z⟩)
  unfold PX6_back
  refine ⟨fun hj => no (by omega), fun hj => ⟨fun hj2 => ⟨by omega, ?_⟩, fun hj2 => no (by omega)⟩⟩
  obtain ⟨⟨q1, q2⟩, ⟨r1, r2⟩⟩ := h4 j (by omega) hj2
  rw [q1]
  refine ⟨fun hk0 => ?_, fun hk0 => ?_⟩
  · unfold PX7_back
    refine s7_in (fun _ _ => ⟨fun z => by omega, fun _ => ⟨by omega, ?_⟩⟩) (fun z => by omega)
    rw [r1]
    exact ⟨fun _ => ⟨rfl, hI⟩, fun z => absurd hk0 z⟩
  obtain ⟨k1, k2, k3⟩ := q2 hk0
  obtain ⟨l1, l2, l3, l4⟩ := r2 hk0
  generalize hkq : kq j = q at k1 k2 l1
  generalize hkn : kn j = kn' at k3 l2 l4
  generalize hks : ks j = ks' at k3 l4
  generalize hI0 : x + 49 + 25 + 47 * j = I at k1 k3
  have hb := k2.1
  have hn := k3.2.1
  have h45' := h45
  unfold Two at h45'
  refine s3_copy (r := vw M (I + 1)) rfl (k1.sy.wr k2) (by omega) (fun M4 f4 e4 => ?_)
  refine s4_copy (n := kn') (ps := ks') (k3.keep (fun a b1 b2 => f4 a (by omega) (by omega) (by omega) (by omega))) (by omega) (fun M6 f6 p6 => ?_)
  have ex : M6 x = M x := by rw [f6 x (by omega), f4 x (by omega) (by omega) (by omega) (by omega)]
  have ev : vw M6 (x + 1) = vw M4 (x + 1) := vw_same (f6 _ (by omega)) (f6 _ (by omega)) (f6 _ (by omega)) (f6 _ (by omega))
  have E4 := e4.tr k1
  rw [ex]
  refine s2_lay ev (E4.sy.wr k2) (by omega) (fun M9 f9 L9 => ?_)
  rintro M10 rfl
  have fr : ∀ a, (a < x ∨ (x + 46 < a ∧ a < x + 50) ∨ x + 73 < a) → um M9 x 6 0 a = M a := fun a ha => by rw [um_ne _ _ _ (by omega), f9 a (by omega), f6 a (by omega), f4 a (by omega) (by omega) (by omega) (by omega)]
  have C10 : CP x (um M9 x 6 0) q kn' ks' 0 := by
    refine ⟨?_, k2, ?_, p6.keep (fun a b1 b2 => by rw [um_ne _ _ _ (by omega), f9 a (by omega)]), um_w _ _ _ _, ?_⟩
    · unfold Two
      rw [um_r _ (by omega), um_r _ (by omega), f9 x (by omega), ex]
      exact h45
    · rw [vw_same (M := M4) (by rw [um_ne _ _ _ (by omega), f9 _ (by omega), f6 _ (by omega)]) (by rw [um_ne _ _ _ (by omega), f9 _ (by omega), f6 _ (by omega)]) (by rw [um_ne _ _ _ (by omega), f9 _ (by omega), f6 _ (by omega)]) (by rw [um_ne _ _ _ (by omega), f9 _ (by omega), f6 _ (by omega)])]
      exact E4
    · rw [um_r _ (by omega), f9 x (by omega), ex]
      exact (L9.cg (E4.sy.wr k2) E4).keep (fun a b1 b2 _ => um_ne _ _ _ (by omega))
  rw [show um M9 x 6 0 (x + 1) 0 = q 0 from C10.2.2.1.1]
  generalize um M9 x 6 0 = M10 at fr C10
  unfold PX7_back
  refine s7_in (fun _ _ => ⟨fun z => by omega, fun _ => ⟨by omega, ?_⟩⟩) (fun z => by omega)
  rw [fr (x + 168 + 6) (by omega), r1]
  refine ⟨fun z => absurd z hk0, fun _ => ?_⟩
  refine lr_I (fun v M8 => 0 ≤ v ∧ v ≤ 327 ∧ (∀ a, a ≠ x + 168 + 1 → M8 a = M10 a) ∧ (∀ t, 0 ≤ t → t < v → M8 (x + 168 + 1) t = M (x + 168 + 7) ((327 * j) + t))) (fun v _ => (327 - v).toNat) ?_ ⟨by omega, by omega, fun _ _ => rfl, fun t a b => by omega⟩
  rintro rec v M8 ⟨a0, a1, f8, e8⟩ hrec
  unfold BX7_back_25
  refine ⟨fun hx => ?_, fun hx => ⟨by omega, by omega, ?_⟩⟩
  rotate_left
  · rintro M9 rfl
    refine ⟨by omega, hrec _ _ ⟨by omega, by omega, fun a ha => by rw [um_ne _ _ _ ha]; exact f8 a ha, fun t b1 b2 => ?_⟩ (by omega)⟩
    by_cases ht : t = v
    · rw [ht, um_w, f8 _ (by omega), fr _ (by omega)]
    · rw [um_r _ (by omega)]; exact e8 t b1 (by omega)
  refine lr_I (fun v M11 => 0 ≤ v ∧ v ≤ 3270 ∧ (∀ a, a ≠ x + 168 + 4 → M11 a = M8 a) ∧ (∀ t, 0 ≤ t → t < v → M11 (x + 168 + 4) t = M (x + 168 + 8) ((3270 * j) + t))) (fun v _ => (3270 - v).toNat) ?_ ⟨by omega, by omega, fun _ _ => rfl, fun t a b => by omega⟩
  rintro rec2 w M11 ⟨c0, c1, f11, e11⟩ hrec2
  unfold BX7_back_58
  refine ⟨fun hx2 => ⟨by omega, ?_⟩, fun hx2 => ⟨by omega, by omega, ?_⟩⟩
  rotate_left
  · rintro M9 rfl
    refine ⟨by omega, hrec2 _ _ ⟨by omega, by omega, fun a ha => by rw [um_ne _ _ _ ha]; exact f11 a ha, fun t b1 b2 => ?_⟩ (by omega)⟩
    by_cases ht : t = w
    · rw [ht, um_w, f11 _ (by omega), f8 _ (by omega), fr _ (by omega)]
    · rw [um_r _ (by omega)]; exact e11 t b1 (by omega)
  have F : ∀ a, a ≠ x + 168 + 1 → a ≠ x + 168 + 4 → M11 a = M10 a := fun a b1 b2 => by rw [f11 a b2, f8 a b1]
  rintro M21 rfl
  refine ⟨by omega, ?_⟩
  rintro M24 rfl
  rintro M25 rfl
  have v9 : M11 (x + 168 + 9) j = kn' := by rw [F _ (by omega) (by omega), fr _ (by omega)]; exact l2
  have v10 : um M11 (x + 168) 4 (M11 (x + 168 + 9) j) (x + 168 + 10) j = M (x + 168 + 10) j := by rw [um_r _ (by omega), F _ (by omega) (by omega), fr _ (by omega)]
  rw [v10, v9]
  generalize hk10 : M (x + 168 + 10) j = o at l3 l4
  have H : ∀ a, a ≠ x + 168 → um (um (um M11 (x + 168) 4 kn') (x + 168) 5 o) (x + 168) 3 0 a = M11 a := fun a ha => by rw [um_ne _ _ _ ha, um_ne _ _ _ ha, um_ne _ _ _ ha]
  refine ⟨?_, q, kn', ks', 0, C10.keep (fun a b1 b2 => by rw [H a (by omega), F a (by omega) (by omega)]), ⟨k2, ?_, ⟨?_, hn, ?_, fun i i0 i1 => ?_⟩, um_w _ _ _ _⟩, ⟨tn, tx, h3.keep ?_ ?_ ?_ ?_⟩, kb, kq, kn, ks, h4.keep (fun a b1 b2 => ?_) (fun a b1 b2 => ?_)⟩
  · rw [H _ (by omega), f11 _ (by omega), e8 0 (by omega) (by omega)]
    exact l1.1.symm
  · rw [H _ (by omega), f11 _ (by omega)]
    refine (eqv_cells (l1.sy.wr k2) (fun t t0 t1 => ?_)).tr l1
    rw [e8 t t0 (by omega)]
  · rw [um_r _ (by omega), um_r _ (by omega), um_w]
  · rw [um_r _ (by omega), um_w]; exact l3
  · rw [um_r _ (by omega), um_w, H _ (by omega)]
    have q1 := l4 i i0 i1
    have q2 := (k3.2.2.2 i i0 i1).2
    refine ⟨(eqv_cells (q1.sy.wr q2) (fun u u0 u1 => ?_)).tr q1, q2⟩
    rw [e11 _ (by omega) (by omega)]
  · rw [H _ (by omega), F _ (by omega) (by omega), fr _ (by omega)]
  · rw [H _ (by omega), F _ (by omega) (by omega), fr _ (by omega)]
  · rw [um_r _ (by omega), um_r _ (by omega), um_r _ (by omega), F _ (by omega) (by omega), fr _ (by omega)]
  · rw [H _ (by omega), F _ (by omega) (by omega), fr _ (by omega)]
  · rw [H _ (by omega), F _ (by omega) (by omega), fr _ (by omega)]
  · rw [H _ (by omega), F _ (by omega) (by omega), fr _ (by omega)]
end IMG
