section R8
variable {M : Mm} {m tn : Int} {tx : Int → Int} {Q : Int → Mm → Prop}
theorem s7_fails {at' : Int} (hq : Q 0 (um M m 12 at')) : PX7_fails m at' M Q := by
  unfold PX7_fails
  rintro M1 rfl
  exact hq
theorem s7_number (hT : TM m M tn tx) (ha : 0 ≤ M m 9 ∧ M m 9 ≤ tn)
    (hA : An tn tx (M m 9) (fun f => ∀ M2 : Mm, FrM m M M2 → M2 m 12 = f → Q 0 M2) (fun n f e => ∀ M2 : Mm, FrM m M M2 → (∀ j, 14 ≤ j → M2 m j = M m j) → M2 m 13 = n → M2 m 10 = f → M2 m 11 = e - f → M2 m 9 = e → Q 1 M2)) : PX7_number m M Q := by
  obtain ⟨t1, t2, t3, t4⟩ := id hT
  unfold An at hA
  unfold PX7_number
  refine s7_word hT ha (hA.mono (fun f h M2 F2 e2 => ⟨fun _ => h M2 F2 e2, fun z => absurd rfl z⟩) (fun f e h1 h2 h3 hh M2 f2 g2 c10 c11 c9 => ⟨fun z => by omega, fun _ => ?_⟩))
  obtain ⟨B1, B2⟩ := hh
  have hr := sb_rg (tx := tx) ha.2
  have hr2 := we_rg (tx := tx) (a := f) (tn := tn) (by omega)
  rintro M3 rfl
  have f3 : ∀ a, a ≠ m → um M2 m 13 0 a = M a := fun a ha => by rw [um_ne _ _ _ ha]; exact f2 a ha
  have g3 : ∀ j, j ≠ 9 → j ≠ 10 → j ≠ 11 → j ≠ 13 → um M2 m 13 0 m j = M m j := fun j b1 b2 b3 b4 => by rw [um_r _ (by omega)]; exact g2 j b1 b2 b3
  have d10 : um M2 m 13 0 m 10 = f := by rw [um_r _ (by omega)]; exact c10
  have d11 : um M2 m 13 0 m 11 = e - f := by rw [um_r _ (by omega)]; exact c11
  have d9 : um M2 m 13 0 m 9 = e := by rw [um_r _ (by omega)]; exact c9
  have d13 : um M2 m 13 0 m 13 = 0 := um_w _ _ _ _
  generalize um M2 m 13 0 = M3 at *
  have core : ∀ b0 : Int, ((b0 = 1 ∧ e - f ≤ 3 ∧ (e - f = 1 ∨ tx f ≠ 48)) ∨ (b0 = 0 ∧ ¬ nOk tx f e)) → ∃ n, lp_II (BX7_number_55 (fun w1_18 M_18 => JX7_number_108 Q m w1_18 M_18) Q m) n b0 f M3 := by
    intro b0 hb0
    refine lr_II (fun b v M4 => (∀ a, a ≠ m → M4 a = M a) ∧ (∀ j, j ≠ 13 → M4 m j = M3 m j) ∧ f ≤ v ∧ v ≤ e ∧ ((b = 1 ∧ M4 m 13 = nv tx f v ∧ (e - f ≤ 3 ∧ (e - f = 1 ∨ tx f ≠ 48)) ∧ ∀ i, f ≤ i → i < v → 48 ≤ tx i ∧ tx i ≤ 57) ∨ (b = 0 ∧ ¬ nOk tx f e))) (fun _ v _ => (e - v).toNat) ?_ ⟨f3, fun _ _ => rfl, Int.le_refl _, by omega, ?_⟩
    rotate_left
    · rcases hb0 with ⟨z1, z2⟩ | z
      · exact Or.inl ⟨z1, by rw [d13, nv_0], z2, fun i a b => by omega⟩
      · exact Or.inr z
    rintro rec b v M4 ⟨f4, g4, a0, a1, hb⟩ hrec
    have k9 : M4 m 9 = e := by rw [g4 9 (by omega)]; exact d9
    have k10 : M4 m 10 = f := by rw [g4 10 (by omega)]; exact d10
    have k11 : M4 m 11 = e - f := by rw [g4 11 (by omega)]; exact d11
    have F4 : FrM m M M4 := ⟨f4, fun j hj => by rw [g4 j (by omega), g3 j (by omega) (by omega) (by omega) (by omega)]⟩
    have out : b = 0 → ¬ nOk tx f e → JX7_number_108 Q m b M4 := by
      intro hb0 hno
      unfold JX7_number_108
      refine ⟨fun _ => s7_fails ⟨fun _ => B1 hno _ ⟨fun a ha => by rw [um_ne _ _ _ ha]; exact f4 a ha, fun j hj => by rw [um_r _ (by omega)]; exact F4.2 j hj⟩ (by rw [um_w]; exact k10), fun z => absurd rfl z⟩, fun z => absurd hb0 z⟩
    unfold BX7_number_55
    rw [k9, f4 (m + 5) (by omega)]
    refine ⟨fun hx => ?_, fun hx => ⟨fun hb0 => ?_, fun hb0 => ⟨by omega, ?_⟩⟩⟩
    · rcases hb with ⟨rfl, hv, hc, hd⟩ | ⟨hb0, hno⟩
      · unfold JX7_number_108
        refine ⟨fun z => by omega, fun _ => B2 ⟨hc.1, hc.2, fun i a b => hd i a (by omega)⟩ M4 F4 (fun j hj => by rw [g4 j (by omega), g3 j (by omega) (by omega) (by omega) (by omega)]) (by rw [hv, show v = e by omega]) k10 k11 k9⟩
      · exact out hb0 hno
    · rcases hb with ⟨z, -⟩ | ⟨z, hno⟩
      · omega
      · exact out z hno
    · rcases hb with ⟨rfl, hv, hc, hd⟩ | ⟨z, -⟩
      rotate_left
      · omega
      rw [t2 v (by omega) (by omega)]
      have hr3 := nv_rg a0 (by omega) hd
      have ht4 := t4 v (by omega) (by omega)
      refine s7_in (fun x y => ⟨by omega, ?_⟩) (fun x => ⟨by omega, ?_⟩)
      · rw [f4 (m + 5) (by omega), t2 v (by omega) (by omega), hv]
        refine ⟨by omega, ?_⟩
        rintro M14 rfl
        refine ⟨by omega, hrec _ _ _ ⟨fun a ha => by rw [um_ne _ _ _ ha]; exact f4 a ha, fun j hj => by rw [um_r _ (by omega)]; exact g4 j hj, by omega, by omega, Or.inl ⟨rfl, by rw [um_w, nv_s tx a0], hc, fun i a b => ?_⟩⟩ (by omega)⟩
        by_cases hi : i = v
        · rw [hi]; exact ⟨x, y⟩
        · exact hd i a (by omega)
      · rw [f4 (m + 5) (by omega), t2 v (by omega) (by omega), hv]
        refine ⟨by omega, ?_⟩
        rintro M14 rfl
        exact ⟨by omega, hrec _ _ _ ⟨fun a ha => by rw [um_ne _ _ _ ha]; exact f4 a ha, fun j hj => by rw [um_r _ (by omega)]; exact g4 j hj, by omega, by omega, Or.inr ⟨rfl, fun z => x (z.2.2 v a0 (by omega))⟩⟩ (by omega)⟩
  have bad : ¬ nOk tx f e → JX7_number_48 Q m M3 := by
    intro hno
    unfold JX7_number_48
    rw [d10]
    exact core 0 (Or.inr ⟨rfl, hno⟩)
  rw [d11, d10, f3 (m + 5) (by omega)]
  refine ⟨fun hx => bad (fun z => by have := z.1; omega), fun hx => ⟨fun hx1 => core 1 (Or.inl ⟨rfl, by omega, Or.inl hx1⟩), fun hx1 => ⟨by omega, ?_⟩⟩⟩
  rw [t2 f (by omega) (by omega)]
  exact ⟨fun hc => bad (fun z => z.2.1.elim (fun y => hx1 y) (fun y => y hc)), fun hc => core 1 (Or.inl ⟨rfl, by omega, Or.inr hc⟩)⟩
theorem s7_signW (hT : TM m M tn tx) (ha : 0 ≤ M m 9 ∧ M m 9 ≤ tn)
    (hA : Aw tn tx (M m 9) (fun f => ∀ M2 : Mm, FrM m M M2 → M2 m 12 = f → Q 0 M2) (fun f e => (¬ e - f = 1 → ∀ M2 : Mm, FrM m M M2 → M2 m 12 = f → Q 0 M2) ∧ (e - f = 1 → ∀ M2 : Mm, FrM m M M2 → (∀ j, 13 ≤ j → M2 m j = M m j) → M2 m 10 = f → M2 m 11 = e - f → M2 m 9 = e → Q 1 M2))) : PX7_sign m M Q := by
  unfold PX7_sign JX7_sign_30
  refine s7_word hT ha (hA.mono (fun f h M2 F2 e2 => ⟨fun _ => h M2 F2 e2, fun z => absurd rfl z⟩) (fun f e h1 h2 h3 hh M2 f2 g2 c10 c11 c9 => ⟨fun z => by omega, fun _ => ?_⟩))
  have F2 : FrM m M M2 := ⟨f2, fun j hj => g2 j (by omega) (by omega) (by omega)⟩
  rw [c11, c10]
  refine ⟨fun hx => hh.2 hx M2 F2 (fun j hj => g2 j (by omega) (by omega) (by omega)) c10 c11 c9, fun hx => s7_fails ⟨fun _ => hh.1 hx _ ⟨fun a ha => by rw [um_ne _ _ _ ha]; exact f2 a ha, fun j hj => by rw [um_r _ (by omega)]; exact F2.2 j hj⟩ (um_w _ _ _ _), fun z => absurd rfl z⟩⟩
theorem s7_signsW (hT : TM m M tn tx) (ha : 0 ≤ M m 9 ∧ M m 9 ≤ tn)
    (hA : Aw tn tx (M m 9) (fun f => ∀ M2 : Mm, FrM m M M2 → M2 m 12 = f → Q 0 M2) (fun f e => (24 < e - f → ∀ M2 : Mm, FrM m M M2 → M2 m 12 = f → Q 0 M2) ∧ (¬ 24 < e - f → ∀ M2 : Mm, FrM m M M2 → (∀ j, 13 ≤ j → M2 m j = M m j) → M2 m 10 = f → M2 m 11 = e - f → M2 m 9 = e → Q 1 M2))) : PX7_signs m M Q := by
  unfold PX7_signs JX7_signs_31
  refine s7_word hT ha (hA.mono (fun f h M2 F2 e2 => ⟨fun _ => h M2 F2 e2, fun z => absurd rfl z⟩) (fun f e h1 h2 h3 hh M2 f2 g2 c10 c11 c9 => ⟨fun z => by omega, fun _ => ?_⟩))
  have F2 : FrM m M M2 := ⟨f2, fun j hj => g2 j (by omega) (by omega) (by omega)⟩
  rw [c11, c10]
  refine ⟨fun hx => hh.2 (by omega) M2 F2 (fun j hj => g2 j (by omega) (by omega) (by omega)) c10 c11 c9, fun hx => s7_fails ⟨fun _ => hh.1 (by omega) _ ⟨fun a ha => by rw [um_ne _ _ _ ha]; exact f2 a ha, fun j hj => by rw [um_r _ (by omega)]; exact F2.2 j hj⟩ (um_w _ _ _ _), fun z => absurd rfl z⟩⟩
theorem wy_rg {f e : Int} : wy tx f e = -9 ∨ (0 ≤ wy tx f e ∧ wy tx f e < 4) := by
  rcases wh_rg (tx := tx) (f := f) (e := e) (s := 0) (n := 4) 4 0 (Int.le_refl _) with z | ⟨z1, z2, -⟩
  · exact Or.inl z
  · exact Or.inr ⟨z1, by have : wy tx f e < 0 + ((4 : Nat) : Int) := z2; omega⟩
theorem vb_rg {f e : Int} : vb tx f e = -9 ∨ (0 ≤ vb tx f e ∧ vb tx f e < 9) := by
  rcases wh_rg (tx := tx) (f := f) (e := e) (s := 4) (n := 9) 9 0 (Int.le_refl _) with z | ⟨z1, z2, -⟩
  · exact Or.inl z
  · exact Or.inr ⟨z1, by have : vb tx f e < 0 + ((9 : Nat) : Int) := z2; omega⟩
theorem s7_aligned (hT : TM m M tn tx) (ha : 0 ≤ M m 9 ∧ M m 9 ≤ tn)
    (hA : Aw tn tx (M m 9) (fun f => ∀ M2 : Mm, FrM m M M2 → M2 m 12 = f → Q 0 M2) (fun f e => (wy tx f e < 0 → ∀ M2 : Mm, FrM m M M2 → M2 m 12 = f → Q 0 M2) ∧ (0 ≤ wy tx f e → ∀ M2 : Mm, FrM m M M2 → (∀ j, 13 ≤ j → M2 m j = M m j) → M2 m 10 = f → M2 m 11 = e - f → M2 m 9 = e → Q 1 M2))) : PX7_aligned m M Q := by
  unfold PX7_aligned JX7_aligned_31
  refine s7_word hT ha (hA.mono (fun f h M2 F2 e2 => ⟨fun _ => h M2 F2 e2, fun z => absurd rfl z⟩) (fun f e h1 h2 h3 hh M2 f2 g2 c10 c11 c9 => ⟨fun z => by omega, fun _ => ?_⟩))
  have F2 : FrM m M M2 := ⟨f2, fun j hj => g2 j (by omega) (by omega) (by omega)⟩
  have hr := sb_rg (tx := tx) ha.2
  have hr2 := we_rg (tx := tx) (a := f) (tn := tn) (by omega)
  have hwy := wy_rg (tx := tx) (f := f) (e := e)
  refine s7_way (hT.fr F2) c10 c11 (by omega) ?_
  rw [c10]
  refine ⟨fun hx => s7_fails ⟨fun _ => hh.1 (by omega) _ ⟨fun a ha => by rw [um_ne _ _ _ ha]; exact f2 a ha, fun j hj => by rw [um_r _ (by omega)]; exact F2.2 j hj⟩ (um_w _ _ _ _), fun z => absurd rfl z⟩, fun hx => hh.2 (by omega) M2 F2 (fun j hj => g2 j (by omega) (by omega) (by omega)) c10 c11 c9⟩
theorem s7_stops (hT : TM m M tn tx) (ha : 0 ≤ M m 9 ∧ M m 9 ≤ tn)
    (hA : Ae tn tx (M m 9) (fun f => ∀ M2 : Mm, FrM m M M2 → M2 m 12 = f → Q 0 M2) (fun nx => ∀ M2 : Mm, FrM m M M2 → (∀ j, j ≠ 9 → M2 m j = M m j) → M2 m 9 = nx → Q 1 M2)) : PX7_stops m M Q := by
  obtain ⟨t1, t2, t3, t4⟩ := id hT
  obtain ⟨A1, A2⟩ := hA
  have hr := sb_rg (tx := tx) ha.2
  unfold PX7_stops
  refine s7_blanks hT ha (fun M1 f1 g1 e1 => ?_)
  have F1 : FrM m M M1 := ⟨f1, fun j hj => g1 j (by omega)⟩
  have fail : ¬ (sb tn tx (M m 9) < tn ∧ tx (sb tn tx (M m 9)) = 59) → JX7_stops_33 Q m M1 := by
    intro hno
    unfold JX7_stops_33
    rw [e1]
    exact ⟨fun _ => s7_fails ⟨Or.inl rfl, A1 hno _ ⟨fun a ha => by rw [um_ne _ _ _ ha]; exact f1 a ha, fun j hj => by rw [um_r _ (by omega)]; exact F1.2 j hj⟩ (um_w _ _ _ _)⟩, fun z => absurd rfl z⟩
  rw [g1 7 (by omega), t1, e1, f1 (m + 5) (by omega)]
  refine ⟨fun hx => fail (by omega), fun hx => ⟨by omega, ?_⟩⟩
  rw [t2 _ (by omega) (by omega)]
  refine ⟨fun hc => ⟨fun z => by omega, fun _ => ⟨by omega, ?_⟩⟩, fun hc => fail (fun z => hc z.2)⟩
  rintro M16 rfl
  exact A2 ⟨by omega, hc⟩ _ ⟨fun a ha => by rw [um_ne _ _ _ ha]; exact f1 a ha, fun j hj => by rw [um_r _ (by omega)]; exact F1.2 j hj⟩ (fun j hj => by rw [um_r _ (by omega)]; exact g1 j hj) (um_w _ _ _ _)
theorem s7_reads (hT : TM m M tn tx) (ha : 0 ≤ M m 9 ∧ M m 9 ≤ tn)
    (hA : Arc tn tx (M m 9) (fun f => ∀ M2 : Mm, FrM m M M2 → M2 m 12 = f → Q 0 M2) (fun v n1 n2 wf we' nx => ∀ M2 : Mm, FrM m M M2 → M2 m 14 = v → M2 m 15 = n1 → ((v = 2 ∨ v = 4 ∨ v = 5) → M2 m 16 = n2) → M2 m 10 = wf → M2 m 11 = we' - wf → M2 m 9 = nx → Q 1 M2)) : PX7_reads m M Q := by
  have hr := sb_rg (tx := tx) ha.2
  unfold Arc at hA
  unfold PX7_reads JX7_reads_76 JX7_reads_93 JX7_reads_159
  refine s7_word hT ha (hA.mono (fun f h M2 F2 e2 => ⟨fun _ => h M2 F2 e2, fun z => absurd rfl z⟩) (fun f e h1 h2 h3 hh M2 f2 g2 c10 c11 c9 => ⟨fun z => by omega, fun _ => ?_⟩))
  have hr2 := we_rg (tx := tx) (a := f) (tn := tn) (by omega)
  have F2 : FrM m M M2 := ⟨f2, fun j hj => g2 j (by omega) (by omega) (by omega)⟩
  have hvb := vb_rg (tx := tx) (f := f) (e := e)
  obtain ⟨B1, B2⟩ := hh
  refine s7_command (hT.fr F2) c10 c11 (by omega) ?_
  rintro M5 rfl
  rw [um_w]
  generalize vb tx f e = v at *
  have F5 : FrM m M (um M2 m 14 v) := ⟨fun a ha => by rw [um_ne _ _ _ ha]; exact f2 a ha, fun j hj => by rw [um_r _ (by omega)]; exact F2.2 j hj⟩
  have d10 : um M2 m 14 v m 10 = f := by rw [um_r _ (by omega)]; exact c10
  have d9 : um M2 m 14 v m 9 = e := by rw [um_r _ (by omega)]; exact c9
  have d14 : um M2 m 14 v m 14 = v := um_w _ _ _ _
  generalize um M2 m 14 v = M5 at *
  refine ⟨fun hv => ?_, fun hv => ?_⟩
  · rw [d10]
    exact s7_fails ⟨Or.inl rfl, B1 (by omega) _ ⟨fun a ha => by rw [um_ne _ _ _ ha]; exact F5.1 a ha, fun j hj => by rw [um_r _ (by omega)]; exact F5.2 j hj⟩ (um_w _ _ _ _)⟩
  have B3 := B2 (by omega)
  have stp : ∀ M6 : Mm, FrM m M M6 → M6 m 14 = v → ∀ n1 n2 wf we' : Int, M6 m 15 = n1 → ((v = 2 ∨ v = 4 ∨ v = 5) → M6 m 16 = n2) → M6 m 10 = wf → M6 m 11 = we' - wf → M6 m 9 = we' → (0 ≤ we' ∧ we' ≤ tn) → Ae tn tx we' (fun f => ∀ M2 : Mm, FrM m M M2 → M2 m 12 = f → Q 0 M2) (fun nx => ∀ M2 : Mm, FrM m M M2 → M2 m 14 = v → M2 m 15 = n1 → ((v = 2 ∨ v = 4 ∨ v = 5) → M2 m 16 = n2) → M2 m 10 = wf → M2 m 11 = we' - wf → M2 m 9 = nx → Q 1 M2) → PX7_stops m M6 (fun z_33 M_34 => (z_33 = 0 → Q 0 M_34) ∧ (¬ z_33 = 0 → Q 1 M_34)) := by
    intro M6 F6 k14 n1 n2 wf we' k15 k16 k10 k11 k9 hwe hAe
    refine s7_stops (hT.fr F6) (by omega) ?_
    rw [k9]
    refine hAe.mono (fun f h M7 F7 e7 => ⟨fun _ => h M7 (F6.tr F7) e7, fun z => absurd rfl z⟩) (fun nx h M7 F7 g7 e7 => ⟨fun z => by omega, fun _ => h M7 (F6.tr F7) (by rw [g7 14 (by omega)]; exact k14) (by rw [g7 15 (by omega)]; exact k15) (fun z => by rw [g7 16 (by omega)]; exact k16 z) (by rw [g7 10 (by omega)]; exact k10) (by rw [g7 11 (by omega)]; exact k11) e7⟩)
  refine s7_number (hT.fr F5) (by omega) ?_
  rw [d9]
  refine B3.mono (fun f h M6 F6 e6 => ⟨fun _ => h M6 (F5.tr F6) e6, fun z => absurd rfl z⟩) (fun n1 f2 e2 q1 q2 q3 q4 q5 hh M6 F6 g6 k13 k10 k11 k9 => ⟨fun z => by omega, fun _ => ?_⟩)
  rintro M10 rfl
  have rr := sb_rg (tx := tx) (tn := tn) (a := e) (by omega)
  have rr2 := we_rg (tx := tx) (tn := tn) (a := f2) (by omega)
  have F10 : FrM m M (um M6 m 15 (M6 m 13)) := (F5.tr F6).tr ⟨fun a ha => um_ne _ _ _ ha, fun j hj => um_r _ (by omega)⟩
  have j14 : um M6 m 15 (M6 m 13) m 14 = v := by rw [um_r _ (by omega), g6 14 (by omega)]; exact d14
  have j15 : um M6 m 15 (M6 m 13) m 15 = n1 := by rw [um_w]; exact k13
  have j10 : um M6 m 15 (M6 m 13) m 10 = f2 := by rw [um_r _ (by omega)]; exact k10
  have j11 : um M6 m 15 (M6 m 13) m 11 = e2 - f2 := by rw [um_r _ (by omega)]; exact k11
  have j9 : um M6 m 15 (M6 m 13) m 9 = e2 := by rw [um_r _ (by omega)]; exact k9
  generalize um M6 m 15 (M6 m 13) = M10 at *
  obtain ⟨C0, C25, C4, C6, C1⟩ := hh
  rw [j14]
  -- the second number where there is one
  have sec : ∀ (K : Int → Int → Int → Prop) (R : Mm → Prop), An tn tx e2 (fun f => ∀ M2 : Mm, FrM m M M2 → M2 m 12 = f → Q 0 M2) K → (∀ (M15 : Mm) (n2 f3 e3 : Int), FrM m M M15 → M15 m 14 = v → M15 m 15 = n1 → M15 m 16 = n2 → M15 m 10 = f3 → M15 m 11 = e3 - f3 → M15 m 9 = e3 → (0 ≤ e3 ∧ e3 ≤ tn) → K n2 f3 e3 → R M15) → PX7_number m M10 (fun z_12 M_13 => (z_12 = 0 → Q 0 M_13) ∧ (¬ z_12 = 0 → ∀ M_15 : Mm, M_15 = um M_13 m 16 (M_13 m 13) → R M_15)) := by
    intro K R hAn hR
    refine s7_number (hT.fr F10) (by omega) ?_
    rw [j9]
    refine hAn.mono (fun f h M11 F11 e11 => ⟨fun _ => h M11 (F10.tr F11) e11, fun z => absurd rfl z⟩) (fun n2 f3 e3 p1 p2 p3 p4 p5 hh M11 F11 g11 l13 l10 l11 l9 => ⟨fun z => by omega, fun _ => ?_⟩)
    rintro M15 rfl
    have rr3 := sb_rg (tx := tx) (tn := tn) (a := e2) (by omega)
    have rr4 := we_rg (tx := tx) (tn := tn) (a := f3) (by omega)
    exact hR _ n2 f3 e3 ((F10.tr F11).tr ⟨fun a ha => um_ne _ _ _ ha, fun j hj => um_r _ (by omega)⟩) (by rw [um_r _ (by omega), g11 14 (by omega)]; exact j14) (by rw [um_r _ (by omega), g11 15 (by omega)]; exact j15) (by rw [um_w]; exact l13) (by rw [um_r _ (by omega)]; exact l10) (by rw [um_r _ (by omega)]; exact l11) (by rw [um_r _ (by omega)]; exact l9) (by omega) hh
  refine ⟨fun hv2 => ?_, fun hv2 => ⟨fun hv4 => ?_, fun hv4 => ⟨fun hv5 => ?_, fun hv5 => ⟨fun hv0 => ?_, fun hv0 => ⟨fun z => absurd z hv4, fun _ => ⟨fun hv6 => ?_, fun hv6 => ⟨fun z => by omega, fun _ => ?_⟩⟩⟩⟩⟩⟩⟩
  · refine sec _ _ (C25 (Or.inl hv2)) (fun M15 n2 f3 e3 F15 l14 l15 l16 l10 l11 l9 hre hh => ?_)
    rw [l14]
    refine ⟨fun z => by omega, fun _ => ⟨fun z => by omega, fun _ => ⟨fun z => by omega, fun _ => ⟨fun z => by omega, fun _ => stp M15 F15 l14 n1 n2 f3 e3 l15 (fun _ => l16) l10 l11 l9 hre hh⟩⟩⟩⟩
  · refine sec _ _ (C4 hv4) (fun M15 n2 f3 e3 F15 l14 l15 l16 l10 l11 l9 hre hh => ?_)
    rw [l14]
    refine ⟨fun z => by omega, fun _ => ⟨fun _ => ?_, fun z => absurd hv4 z⟩⟩
    refine s7_signW (hT.fr F15) (by omega) ?_
    rw [l9]
    refine hh.mono (fun f h M16 F16 e16 => ⟨fun _ => h M16 (F15.tr F16) e16, fun z => absurd rfl z⟩) (fun f4 e4 p1 p2 p3 hh => ⟨fun hb M16 F16 e16 => ⟨fun _ => hh.1 hb M16 (F15.tr F16) e16, fun z => absurd rfl z⟩, fun hb M16 F16 g16 o10 o11 o9 => ⟨fun z => by omega, fun _ => ?_⟩⟩)
    have rr3 := sb_rg (tx := tx) (tn := tn) (a := e3) (by omega)
    have rr4 := we_rg (tx := tx) (tn := tn) (a := f4) (by omega)
    exact stp M16 (F15.tr F16) (by rw [g16 14 (by omega)]; exact l14) n1 n2 f4 e4 (by rw [g16 15 (by omega)]; exact l15) (fun _ => by rw [g16 16 (by omega)]; exact l16) o10 o11 o9 (by omega) (hh.2 hb)
  · refine sec _ _ (C25 (Or.inr hv5)) (fun M15 n2 f3 e3 F15 l14 l15 l16 l10 l11 l9 hre hh => ?_)
    rw [l14]
    refine ⟨fun z => by omega, fun _ => ⟨fun z => by omega, fun _ => ⟨fun z => by omega, fun _ => ⟨fun z => by omega, fun _ => stp M15 F15 l14 n1 n2 f3 e3 l15 (fun _ => l16) l10 l11 l9 hre hh⟩⟩⟩⟩
  · refine s7_signsW (hT.fr F10) (by omega) ?_
    rw [j9]
    refine (C0 hv0).mono (fun f h M16 F16 e16 => ⟨fun _ => h M16 (F10.tr F16) e16, fun z => absurd rfl z⟩) (fun f4 e4 p1 p2 p3 hh => ⟨fun hb M16 F16 e16 => ⟨fun _ => hh.1 hb M16 (F10.tr F16) e16, fun z => absurd rfl z⟩, fun hb M16 F16 g16 o10 o11 o9 => ⟨fun z => by omega, fun _ => ?_⟩⟩)
    have rr3 := sb_rg (tx := tx) (tn := tn) (a := e2) (by omega)
    have rr4 := we_rg (tx := tx) (tn := tn) (a := f4) (by omega)
    exact stp M16 (F10.tr F16) (by rw [g16 14 (by omega)]; exact j14) n1 0 f4 e4 (by rw [g16 15 (by omega)]; exact j15) (fun z => by omega) o10 o11 o9 (by omega) (hh.2 hb)
  · refine s7_aligned (hT.fr F10) (by omega) ?_
    rw [j9]
    refine (C6 hv6).mono (fun f h M16 F16 e16 => ⟨fun _ => ⟨fun _ => h M16 (F10.tr F16) e16, fun z => absurd rfl z⟩, fun z => absurd rfl z⟩) (fun f4 e4 p1 p2 p3 hh => ⟨fun hb M16 F16 e16 => ⟨fun _ => ⟨fun _ => hh.1 hb M16 (F10.tr F16) e16, fun z => absurd rfl z⟩, fun z => absurd rfl z⟩, fun hb M16 F16 g16 o10 o11 o9 => ⟨fun z => by omega, fun _ => ⟨fun z => by omega, fun _ => ?_⟩⟩⟩)
    have rr3 := sb_rg (tx := tx) (tn := tn) (a := e2) (by omega)
    have rr4 := we_rg (tx := tx) (tn := tn) (a := f4) (by omega)
    exact stp M16 (F10.tr F16) (by rw [g16 14 (by omega)]; exact j14) n1 (wy tx f4 e4) f4 e4 (by rw [g16 15 (by omega)]; exact j15) (fun z => by omega) o10 o11 o9 (by omega) (hh.2 hb)
  · exact stp M10 F10 j14 n1 0 f2 e2 j15 (fun z => by omega) j10 j11 j9 (by omega) (C1 (by omega))
end R8
