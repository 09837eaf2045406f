/-! ===== one command read: what both sides must find ===== -/
def Aw (tn : Int) (tx : Int → Int) (a : Int) (F : Int → Prop) (K : Int → Int → Prop) : Prop := (¬ sb tn tx a < we tn tx (sb tn tx a) → F (sb tn tx a)) ∧ (sb tn tx a < we tn tx (sb tn tx a) → K (sb tn tx a) (we tn tx (sb tn tx a)))
def An (tn : Int) (tx : Int → Int) (a : Int) (F : Int → Prop) (K : Int → Int → Int → Prop) : Prop := Aw tn tx a F (fun f e => (¬ nOk tx f e → F f) ∧ (nOk tx f e → K (nv tx f e) f e))
def Ae (tn : Int) (tx : Int → Int) (a : Int) (F : Int → Prop) (K : Int → Prop) : Prop := (¬ (sb tn tx a < tn ∧ tx (sb tn tx a) = 59) → F (sb tn tx a)) ∧ ((sb tn tx a < tn ∧ tx (sb tn tx a) = 59) → K (sb tn tx a + 1))
def Ar (tn : Int) (tx : Int → Int) (v n1 f2 e2 : Int) (F : Int → Prop) (K : Int → Int → Int → Int → Int → Int → Prop) : Prop :=
  (v = 0 → Aw tn tx e2 F (fun f3 e3 => (24 < e3 - f3 → F f3) ∧ (¬ 24 < e3 - f3 → Ae tn tx e3 F (fun nx => K v n1 0 f3 e3 nx)))) ∧
  ((v = 2 ∨ v = 5) → An tn tx e2 F (fun n2 f3 e3 => Ae tn tx e3 F (fun nx => K v n1 n2 f3 e3 nx))) ∧
  (v = 4 → An tn tx e2 F (fun n2 f3 e3 => Aw tn tx e3 F (fun f4 e4 => (¬ e4 - f4 = 1 → F f4) ∧ (e4 - f4 = 1 → Ae tn tx e4 F (fun nx => K v n1 n2 f4 e4 nx))))) ∧
  (v = 6 → Aw tn tx e2 F (fun f3 e3 => (wy tx f3 e3 < 0 → F f3) ∧ (0 ≤ wy tx f3 e3 → Ae tn tx e3 F (fun nx => K v n1 (wy tx f3 e3) f3 e3 nx)))) ∧
  ((v = 1 ∨ v = 3 ∨ v = 7 ∨ v = 8) → Ae tn tx e2 F (fun nx => K v n1 0 f2 e2 nx))
def Arc (tn : Int) (tx : Int → Int) (a : Int) (F : Int → Prop) (K : Int → Int → Int → Int → Int → Int → Prop) : Prop :=
  Aw tn tx a F (fun f e => (vb tx f e < 0 → F f) ∧ (0 ≤ vb tx f e → An tn tx e F (fun n1 f2 e2 => Ar tn tx (vb tx f e) n1 f2 e2 F K)))
def Fr (s : Int) (M M2 : Mm) : Prop := (∀ a, a ≠ s → M2 a = M a) ∧ M2 s 1 = M s 1
theorem Fr.tr {s : Int} {M M1 M2 : Mm} (h : Fr s M M1) (g : Fr s M1 M2) : Fr s M M2 := ⟨fun a ha => by rw [g.1 a ha, h.1 a ha], by rw [g.2, h.2]⟩
def TS (s : Int) (M : Mm) (tn : Int) (tx : Int → Int) : Prop := M s 1 = tn ∧ (∀ i, 0 ≤ i → i < tn → M (s + 1) i = tx i) ∧ tn ≤ 150
theorem TS.fr {s tn : Int} {tx : Int → Int} {M M2 : Mm} (h : TS s M tn tx) (hf : Fr s M M2) : TS s M2 tn tx := ⟨by rw [hf.2]; exact h.1, fun i a b => by rw [hf.1 _ (by omega)]; exact h.2.1 i a b, h.2.2⟩
/-- what comes when the shape is not met -/
def ke5 (Q : Int → Mm → Prop) (s : Int) : Mm → Prop := fun M_26 => (PX5_failAt s (M_26 s 5) M_26 (fun z_28 M_29 => ((z_28 = 0 ∨ z_28 = 1) ∧ Q z_28 M_29)))
section RC
variable {M : Mm} {s tn i : Int} {tx : Int → Int} {w : Nat} {rec : Int → Mm → Prop} {Q : Int → Mm → Prop}
theorem ke_q {M1 : Mm} (hf : Fr s M M1) (hq : ∀ M2 : Mm, Fr s M M2 → M2 s 8 = M1 s 5 → Q 0 M2) : ke5 Q s M1 := by
  unfold ke5 PX5_failAt
  rintro M2 rfl
  exact ⟨Or.inl rfl, hq _ ⟨fun a ha => by rw [um_ne _ _ _ ha]; exact hf.1 a ha, by rw [um_r _ (by omega)]; exact hf.2⟩ (um_w _ _ _ _)⟩
theorem rc_num (hi : 0 ≤ i ∧ i < sLen w ∧ i < 9) (hc : sCh w i = 110) (hT : TS s M tn tx) (ha : 0 ≤ M s 7 ∧ M s 7 ≤ tn)
    (hA : An tn tx (M s 7) (fun f => ∀ M2 : Mm, Fr s M M2 → M2 s 8 = f → Q 0 M2) (fun n f e => ∀ M2 : Mm, Fr s M M2 → (∀ j, j ≠ (if i = 0 then 3 else 4) → j ≠ 5 → j ≠ 6 → j ≠ 7 → M2 s j = M s j) → M2 s (if i = 0 then 3 else 4) = n → M2 s 5 = f → M2 s 6 = e → M2 s 7 = e → rec (i + 1) M2)) : BX5_readCommand_58 (ke5 Q s) Q s w rec i M := by
  obtain ⟨t1, t2, t3⟩ := id hT
  obtain ⟨A1, A2⟩ := hA
  have hr := sb_rg (tx := tx) ha.2
  have hr2 := we_rg (tx := tx) hr.2
  unfold BX5_readCommand_58
  refine ⟨fun z => by omega, fun _ => s5_word t1 t2 t3 ha (fun hn M2 f2 g2 e8 => ⟨fun _ => A1 hn M2 ⟨f2, g2 1 (by omega) (by omega) (by omega) (by omega)⟩ e8, fun z => absurd rfl z⟩) (fun hy M2 f2 g2 e5 e6 e7 => ⟨fun z => by omega, fun _ => ⟨by omega, ?_⟩⟩)⟩
  obtain ⟨B1, B2⟩ := A2 hy
  have F2 : Fr s M M2 := ⟨f2, g2 1 (by omega) (by omega) (by omega)⟩
  have hb2 : ∀ i, 0 ≤ i → i < tn → M2 (s + 1) i = tx i := fun i a b => by rw [f2 _ (by omega)]; exact t2 i a b
  have bad : ¬ nOk tx (sb tn tx (M s 7)) (we tn tx (sb tn tx (M s 7))) → ke5 Q s M2 := fun hb => ke_q F2 (fun M3 f3 e3 => B1 hb M3 f3 (by rw [e3, e5]))
  have good : ∀ j, j = (if i = 0 then (3 : Int) else 4) → nOk tx (sb tn tx (M s 7)) (we tn tx (sb tn tx (M s 7))) → rec (i + 1) (um M2 s j (nv tx (sb tn tx (M s 7)) (we tn tx (sb tn tx (M s 7))))) := by
    intro j hj ho
    have h34 : j = 3 ∨ j = 4 := by rw [hj]; split <;> omega
    refine B2 ho _ ⟨fun a ha => by rw [um_ne _ _ _ ha]; exact f2 a ha, by rw [um_r _ (by omega)]; exact F2.2⟩ (fun q b1 b2 b3 b4 => ?_) ?_ ?_ ?_ ?_
    · rw [← hj] at b1
      rw [um_r _ (by omega)]; exact g2 q b2 b3 b4
    · rw [← hj, um_w]
    · rw [um_r _ (by omega)]; exact e5
    · rw [um_r _ (by omega)]; exact e6
    · rw [um_r _ (by omega)]; exact e7
  unfold PX5_takeWord
  rw [hc]
  refine ⟨fun z => by omega, fun _ => ⟨fun h0 => ?_, fun h0 => ?_⟩, fun z => by omega, fun z => by omega, fun z => by omega, fun z => by omega, fun z => by omega, fun z => by omega, fun z => by omega, fun z => by omega, fun z => by omega⟩
  · refine s5_number hb2 t3 e5 e6 (by omega) (fun hb => ⟨Or.inl rfl, fun _ => bad hb, fun z => absurd rfl z⟩) (fun ho => ⟨Or.inr rfl, fun z => by omega, fun _ => ⟨by omega, ?_⟩⟩)
    exact good _ (by rw [if_neg (by omega), if_pos h0]) ho
  · refine s5_number hb2 t3 e5 e6 (by omega) (fun hb => ⟨Or.inl rfl, fun _ => bad hb, fun z => absurd rfl z⟩) (fun ho => ⟨Or.inr rfl, fun z => by omega, fun _ => ⟨by omega, ?_⟩⟩)
    exact good _ (by rw [if_pos rfl, if_neg h0]) ho
theorem rc_signs (hi : 0 ≤ i ∧ i < sLen w ∧ i < 9) (hc : sCh w i = 116) (hT : TS s M tn tx) (ha : 0 ≤ M s 7 ∧ M s 7 ≤ tn)
    (hA : Aw tn tx (M s 7) (fun f => ∀ M2 : Mm, Fr s M M2 → M2 s 8 = f → Q 0 M2) (fun f e => (24 < e - f → ∀ M2 : Mm, Fr s M M2 → M2 s 8 = f → Q 0 M2) ∧ (¬ 24 < e - f → ∀ M2 : Mm, Fr s M M2 → (∀ j, j ≠ 5 → j ≠ 6 → j ≠ 7 → M2 s j = M s j) → M2 s 5 = f → M2 s 6 = e → M2 s 7 = e → rec (i + 1) M2))) : BX5_readCommand_58 (ke5 Q s) Q s w rec i M := by
  obtain ⟨t1, t2, t3⟩ := id hT
  obtain ⟨A1, A2⟩ := hA
  have hr := sb_rg (tx := tx) ha.2
  have hr2 := we_rg (tx := tx) hr.2
  unfold BX5_readCommand_58
  refine ⟨fun z => by omega, fun _ => s5_word t1 t2 t3 ha (fun hn M2 f2 g2 e8 => ⟨fun _ => A1 hn M2 ⟨f2, g2 1 (by omega) (by omega) (by omega) (by omega)⟩ e8, fun z => absurd rfl z⟩) (fun hy M2 f2 g2 e5 e6 e7 => ⟨fun z => by omega, fun _ => ⟨by omega, ?_⟩⟩)⟩
  obtain ⟨B1, B2⟩ := A2 hy
  have F2 : Fr s M M2 := ⟨f2, g2 1 (by omega) (by omega) (by omega)⟩
  unfold PX5_takeWord
  rw [hc, e5, e6]
  exact ⟨fun z => by omega, fun z => by omega, fun z => by omega, fun z => by omega, fun z => by omega, fun z => by omega, fun z => by omega, fun _ => ⟨by omega, fun hb => ⟨fun _ => ke_q F2 (fun M3 f3 e3 => B1 hb M3 f3 (by rw [e3, e5])), fun z => absurd rfl z⟩, fun hb => ⟨fun z => by omega, fun _ => ⟨by omega, B2 hb M2 F2 g2 e5 e6 e7⟩⟩⟩, fun z => by omega, fun z => by omega, fun z => by omega⟩
theorem rc_sign (hi : 0 ≤ i ∧ i < sLen w ∧ i < 9) (hc : sCh w i = 115) (hT : TS s M tn tx) (ha : 0 ≤ M s 7 ∧ M s 7 ≤ tn)
    (hA : Aw tn tx (M s 7) (fun f => ∀ M2 : Mm, Fr s M M2 → M2 s 8 = f → Q 0 M2) (fun f e => (¬ e - f = 1 → ∀ M2 : Mm, Fr s M M2 → M2 s 8 = f → Q 0 M2) ∧ (e - f = 1 → ∀ M2 : Mm, Fr s M M2 → (∀ j, j ≠ 5 → j ≠ 6 → j ≠ 7 → M2 s j = M s j) → M2 s 5 = f → M2 s 6 = e → M2 s 7 = e → rec (i + 1) M2))) : BX5_readCommand_58 (ke5 Q s) Q s w rec i M := by
  obtain ⟨t1, t2, t3⟩ := id hT
  obtain ⟨A1, A2⟩ := hA
  have hr := sb_rg (tx := tx) ha.2
  have hr2 := we_rg (tx := tx) hr.2
  unfold BX5_readCommand_58
  refine ⟨fun z => by omega, fun _ => s5_word t1 t2 t3 ha (fun hn M2 f2 g2 e8 => ⟨fun _ => A1 hn M2 ⟨f2, g2 1 (by omega) (by omega) (by omega) (by omega)⟩ e8, fun z => absurd rfl z⟩) (fun hy M2 f2 g2 e5 e6 e7 => ⟨fun z => by omega, fun _ => ⟨by omega, ?_⟩⟩)⟩
  obtain ⟨B1, B2⟩ := A2 hy
  have F2 : Fr s M M2 := ⟨f2, g2 1 (by omega) (by omega) (by omega)⟩
  unfold PX5_takeWord
  rw [hc, e5, e6]
  exact ⟨fun z => by omega, fun z => by omega, fun z => by omega, fun z => by omega, fun z => by omega, fun z => by omega, fun _ => ⟨by omega, fun hb => ⟨fun z => by omega, fun _ => ⟨by omega, B2 hb M2 F2 g2 e5 e6 e7⟩⟩, fun hb => ⟨fun _ => ke_q F2 (fun M3 f3 e3 => B1 hb M3 f3 (by rw [e3, e5])), fun z => absurd rfl z⟩⟩, fun z => by omega, fun z => by omega, fun z => by omega, fun z => by omega⟩
theorem rc_way (hi : 0 ≤ i ∧ i < sLen w ∧ i < 9) (hc : sCh w i = 119) (hT : TS s M tn tx) (ha : 0 ≤ M s 7 ∧ M s 7 ≤ tn)
    (hA : Aw tn tx (M s 7) (fun f => ∀ M2 : Mm, Fr s M M2 → M2 s 8 = f → Q 0 M2) (fun f e => (wy tx f e < 0 → ∀ M2 : Mm, Fr s M M2 → M2 s 8 = f → Q 0 M2) ∧ (0 ≤ wy tx f e → ∀ M2 : Mm, Fr s M M2 → (∀ j, j ≠ 4 → j ≠ 5 → j ≠ 6 → j ≠ 7 → M2 s j = M s j) → M2 s 4 = wy tx f e → M2 s 5 = f → M2 s 6 = e → M2 s 7 = e → rec (i + 1) M2))) : BX5_readCommand_58 (ke5 Q s) Q s w rec i M := by
  obtain ⟨t1, t2, t3⟩ := id hT
  obtain ⟨A1, A2⟩ := hA
  have hr := sb_rg (tx := tx) ha.2
  have hr2 := we_rg (tx := tx) hr.2
  unfold BX5_readCommand_58
  refine ⟨fun z => by omega, fun _ => s5_word t1 t2 t3 ha (fun hn M2 f2 g2 e8 => ⟨fun _ => A1 hn M2 ⟨f2, g2 1 (by omega) (by omega) (by omega) (by omega)⟩ e8, fun z => absurd rfl z⟩) (fun hy M2 f2 g2 e5 e6 e7 => ⟨fun z => by omega, fun _ => ⟨by omega, ?_⟩⟩)⟩
  obtain ⟨B1, B2⟩ := A2 hy
  have F2 : Fr s M M2 := ⟨f2, g2 1 (by omega) (by omega) (by omega)⟩
  have hb2 : ∀ i, 0 ≤ i → i < tn → M2 (s + 1) i = tx i := fun i a b => by rw [f2 _ (by omega)]; exact t2 i a b
  unfold PX5_takeWord
  rw [hc]
  refine ⟨fun z => by omega, fun z => by omega, fun z => by omega, fun z => by omega, fun z => by omega, fun z => by omega, fun z => by omega, fun z => by omega, fun z => by omega, fun z => by omega, fun _ => ?_⟩
  refine s5_align hb2 t3 e5 e6 (by omega) (fun hb => ⟨Or.inl rfl, fun _ => ke_q F2 (fun M3 f3 e3 => B1 hb M3 f3 (by rw [e3, e5])), fun z => absurd rfl z⟩) (fun hb => ⟨Or.inr rfl, fun z => by omega, fun _ => ⟨by omega, ?_⟩⟩)
  refine B2 hb _ ⟨fun a ha => by rw [um_ne _ _ _ ha]; exact f2 a ha, by rw [um_r _ (by omega)]; exact F2.2⟩ (fun q b1 b2 b3 b4 => by rw [um_r _ (by omega)]; exact g2 q b2 b3 b4) (um_w _ _ _ _) ?_ ?_ ?_
  · rw [um_r _ (by omega)]; exact e5
  · rw [um_r _ (by omega)]; exact e6
  · rw [um_r _ (by omega)]; exact e7
theorem rc_end (hi : sLen w ≤ i) (hT : TS s M tn tx) (ha : 0 ≤ M s 7 ∧ M s 7 ≤ tn)
    (hA : Ae tn tx (M s 7) (fun f => ∀ M2 : Mm, Fr s M M2 → M2 s 8 = f → Q 0 M2) (fun nx => ∀ M2 : Mm, Fr s M M2 → (∀ j, j ≠ 7 → M2 s j = M s j) → M2 s 7 = nx → Q 1 M2)) : BX5_readCommand_58 (ke5 Q s) Q s w rec i M := by
  obtain ⟨t1, t2, t3⟩ := id hT
  obtain ⟨A1, A2⟩ := hA
  unfold BX5_readCommand_58
  refine ⟨fun _ => s5_end t1 t2 t3 ha (fun hn M2 f2 g2 e8 => ⟨Or.inl rfl, A1 hn M2 ⟨f2, g2 1 (by omega) (by omega)⟩ e8⟩) (fun hy M2 f2 g2 e7 => ⟨Or.inr rfl, A2 hy M2 ⟨f2, g2 1 (by omega)⟩ g2 e7⟩), fun z => absurd hi z⟩
end RC
theorem Aw.mono {tn a : Int} {tx : Int → Int} {F F2 : Int → Prop} {K K2 : Int → Int → Prop} (h : Aw tn tx a F K) (hF : ∀ f, F f → F2 f) (hK : ∀ f e, f = sb tn tx a → e = we tn tx f → f < e → K f e → K2 f e) : Aw tn tx a F2 K2 := ⟨fun z => hF _ (h.1 z), fun z => hK _ _ rfl rfl z (h.2 z)⟩
theorem An.mono {tn a : Int} {tx : Int → Int} {F F2 : Int → Prop} {K K2 : Int → Int → Int → Prop} (h : An tn tx a F K) (hF : ∀ f, F f → F2 f) (hK : ∀ n f e, f = sb tn tx a → e = we tn tx f → f < e → nOk tx f e → n = nv tx f e → K n f e → K2 n f e) : An tn tx a F2 K2 := Aw.mono h hF (fun f e h1 h2 h3 hh => ⟨fun z => hF _ (hh.1 z), fun z => hK _ _ _ h1 h2 h3 z rfl (hh.2 z)⟩)
theorem Ae.mono {tn a : Int} {tx : Int → Int} {F F2 : Int → Prop} {K K2 : Int → Prop} (h : Ae tn tx a F K) (hF : ∀ f, F f → F2 f) (hK : ∀ n, K n → K2 n) : Ae tn tx a F2 K2 := ⟨fun z => hF _ (h.1 z), fun z => hK _ (h.2 z)⟩
theorem s5_read {M : Mm} {s tn : Int} {tx : Int → Int} {Q : Int → Mm → Prop} (hT : TS s M tn tx) (ha : 0 ≤ M s 7 ∧ M s 7 ≤ tn)
    (hE : tn ≤ sb tn tx (M s 7) → ∀ M2 : Mm, Fr s M M2 → M2 s 8 = M s 8 → Q 0 M2)
    (hA : sb tn tx (M s 7) < tn → Arc tn tx (M s 7) (fun f => ∀ M2 : Mm, Fr s M M2 → M2 s 8 = f → Q 0 M2) (fun v n1 n2 wf we' nx => ∀ M2 : Mm, Fr s M M2 → M2 s 2 = v → M2 s 3 = n1 → ((v = 2 ∨ v = 4 ∨ v = 5 ∨ v = 6) → M2 s 4 = n2) → M2 s 5 = wf → M2 s 6 = we' → M2 s 7 = nx → M2 s 8 = M s 8 → Q 1 M2)) : PX5_readCommand s M Q := by
  obtain ⟨t1, t2, t3⟩ := id hT
  have hr := sb_rg (tx := tx) ha.2
  unfold PX5_readCommand
  refine s5_skip t1 t2 t3 ha (fun M1 f1 g1 e1 => ?_)
  have F1 : Fr s M M1 := ⟨f1, g1 1 (by omega)⟩
  have T1 := hT.fr F1
  rw [T1.1, e1]
  refine ⟨fun hx => hE hx M1 F1 (g1 8 (by omega)), fun hx => ?_⟩
  obtain ⟨A1, A2⟩ := hA (by omega)
  have ess : sb tn tx (M1 s 7) = sb tn tx (M s 7) := by rw [e1, sb_sb ha.2]
  refine s5_word T1.1 T1.2.1 t3 (by omega) (fun hn M2 f2 g2 e8 => ⟨fun _ => A1 (by rw [← ess]; exact hn) M2 (F1.tr ⟨f2, g2 1 (by omega) (by omega) (by omega) (by omega)⟩) (by rw [e8, ess]), fun z => absurd rfl z⟩) (fun hy M2 f2 g2 e5 e6 e7 => ⟨fun z => by omega, fun _ => ?_⟩)
  rw [ess] at hy e5 e6 e7
  obtain ⟨B1, B2⟩ := A2 hy
  generalize hf : sb tn tx (M s 7) = f at *
  generalize he : we tn tx f = e at *
  have hre : f ≤ e ∧ e ≤ tn := by rw [← he]; exact we_rg hr.2
  have F2 : Fr s M M2 := F1.tr ⟨f2, g2 1 (by omega) (by omega) (by omega)⟩
  have T2 := hT.fr F2
  refine s5_verb T2.2.1 t3 e5 e6 (by omega) ?_
  rintro M9 rfl
  rw [um_w]
  generalize hv : vb tx f e = v at *
  have hvr : v = -9 ∨ (0 ≤ v ∧ v < 9) := by
    rw [← hv]
    rcases wh_rg (tx := tx) (f := f) (e := e) (s := 4) (n := 9) 9 0 (Int.le_refl _) with z | ⟨z1, z2, -⟩
    · exact Or.inl z
    · exact Or.inr ⟨z1, by have : vb tx f e < 0 + ((9 : Nat) : Int) := z2; omega⟩
  have F9 : Fr s M (um M2 s 2 v) := ⟨fun a ha => by rw [um_ne _ _ _ ha]; exact F2.1 a ha, by rw [um_r _ (by omega)]; exact F2.2⟩
  have T9 := hT.fr F9
  have c2 : um M2 s 2 v s 2 = v := um_w _ _ _ _
  have c5 : um M2 s 2 v s 5 = f := by rw [um_r _ (by omega)]; exact e5
  have c7 : um M2 s 2 v s 7 = e := by rw [um_r _ (by omega)]; exact e7
  have c8 : um M2 s 2 v s 8 = M s 8 := by rw [um_r _ (by omega), g2 8 (by omega) (by omega) (by omega), g1 8 (by omega)]
  generalize um M2 s 2 v = M9 at *
  refine ⟨fun h0 => ?_, fun h0 => ?_⟩
  rotate_left
  · unfold PX5_failAt
    rintro M33 rfl
    rw [c5]
    exact ⟨Or.inl rfl, B1 (by omega) _ ⟨fun a ha => by rw [um_ne _ _ _ ha]; exact F9.1 a ha, by rw [um_r _ (by omega)]; exact F9.2⟩ (um_w _ _ _ _)⟩
  have B3 := B2 h0
  -- the first number, for every shape
  have num : ∀ (w : Nat) (rec : Int → Mm → Prop), 0 < sLen w → sCh w 0 = 110 → (∀ (M3 : Mm) (n1 f2 e2 : Int), Fr s M M3 → M3 s 2 = v → M3 s 3 = n1 → M3 s 5 = f2 → M3 s 6 = e2 → M3 s 7 = e2 → M3 s 8 = M s 8 → 0 ≤ e2 → e2 ≤ tn → Ar tn tx v n1 f2 e2 (fun f => ∀ M2 : Mm, Fr s M M2 → M2 s 8 = f → Q 0 M2) (fun v n1 n2 wf we' nx => ∀ M2 : Mm, Fr s M M2 → M2 s 2 = v → M2 s 3 = n1 → ((v = 2 ∨ v = 4 ∨ v = 5 ∨ v = 6) → M2 s 4 = n2) → M2 s 5 = wf → M2 s 6 = we' → M2 s 7 = nx → M2 s 8 = M s 8 → Q 1 M2) → rec (0 + 1) M3) → BX5_readCommand_58 (ke5 Q s) Q s w rec 0 M9 := by
    intro w rec hl hc hrec
    refine rc_num (by omega) hc T9 (by omega) ?_
    rw [c7]
    refine B3.mono (fun f h M3 f3 e3 => h M3 (F9.tr f3) e3) (fun n f2 e2 h1 h2 h3 _ hn hh M3 f3 g3 d3 d5 d6 d7 => hrec M3 n f2 e2 (F9.tr f3) ?_ d3 d5 d6 d7 ?_ ?_ ?_ hh)
    · rw [g3 2 (by rw [if_pos rfl]; omega) (by omega) (by omega) (by omega)]; exact c2
    · rw [g3 8 (by rw [if_pos rfl]; omega) (by omega) (by omega) (by omega)]; exact c8
    · have := sb_rg (tx := tx) (tn := tn) (a := e) (by omega)
      omega
    · have := sb_rg (tx := tx) (tn := tn) (a := e) (by omega)
      have := we_rg (tx := tx) (tn := tn) (a := f2) (by omega)
      omega
  have one : (v = 1 ∨ v = 3 ∨ v = 7 ∨ v = 8) → ∃ t, lp_I (BX5_readCommand_58 (ke5 Q s) Q s 17) t 0 M9 := by
    intro hv1
    refine ⟨2, ?_⟩
    show BX5_readCommand_58 (ke5 Q s) Q s 17 (lp_I (BX5_readCommand_58 (ke5 Q s) Q s 17) 1) 0 M9
    refine num 17 _ (by decide) (by decide) (fun M3 n1 f2 e2 F3 d2 d3 d5 d6 d7 d8 r0 r1 hA => ?_)
    show BX5_readCommand_58 (ke5 Q s) Q s 17 (lp_I (BX5_readCommand_58 (ke5 Q s) Q s 17) 0) (0 + 1) M3
    refine rc_end (by decide) (hT.fr F3) (by omega) (by rw [d7]; exact (hA.2.2.2.2 hv1).mono (fun f h M4 f4 e4 => h M4 (F3.tr f4) e4) (fun nx h M4 f4 g4 e4 => h M4 (F3.tr f4) (by rw [g4 2 (by omega)]; exact d2) (by rw [g4 3 (by omega)]; exact d3) (fun z => by omega) (by rw [g4 5 (by omega)]; exact d5) (by rw [g4 6 (by omega)]; exact d6) e4 (by rw [g4 8 (by omega)]; exact d8)))
  have two : (v = 2 ∨ v = 5) → ∃ t, lp_I (BX5_readCommand_58 (ke5 Q s) Q s 14) t 0 M9 := by
    intro hv1
    refine ⟨3, ?_⟩
    show BX5_readCommand_58 (ke5 Q s) Q s 14 (lp_I (BX5_readCommand_58 (ke5 Q s) Q s 14) 2) 0 M9
    refine num 14 _ (by decide) (by decide) (fun M3 n1 f2 e2 F3 d2 d3 d5 d6 d7 d8 r0 r1 hA => ?_)
    show BX5_readCommand_58 (ke5 Q s) Q s 14 (lp_I (BX5_readCommand_58 (ke5 Q s) Q s 14) 1) (0 + 1) M3
    refine rc_num (by decide) (by decide) (hT.fr F3) (by omega) ?_
    rw [d7]
    refine (hA.2.1 hv1).mono (fun f h M4 f4 e4 => h M4 (F3.tr f4) e4) (fun n2 f3 e3 h1 h2 h3 _ hn hh M4 f4 g4 k4 k5 k6 k7 => ?_)
    rw [if_neg (by omega)] at k4
    have rr := sb_rg (tx := tx) (tn := tn) (a := e2) (by omega)
    have rr2 := we_rg (tx := tx) (tn := tn) (a := f3) (by omega)
    have G4 : ∀ j, j ≠ 4 → j ≠ 5 → j ≠ 6 → j ≠ 7 → M4 s j = M3 s j := fun j a b c d => g4 j (by rw [if_neg (by omega)]; exact a) b c d
    show BX5_readCommand_58 (ke5 Q s) Q s 14 (lp_I (BX5_readCommand_58 (ke5 Q s) Q s 14) 0) (0 + 1 + 1) M4
    refine rc_end (by decide) (hT.fr (F3.tr f4)) (by omega) (by rw [k7]; exact hh.mono (fun f h M5 f5 e5 => h M5 ((F3.tr f4).tr f5) e5) (fun nx h M5 f5 g5 e5 => h M5 ((F3.tr f4).tr f5) (by rw [g5 2 (by omega), G4 2 (by omega) (by omega) (by omega) (by omega)]; exact d2) (by rw [g5 3 (by omega), G4 3 (by omega) (by omega) (by omega) (by omega)]; exact d3) (fun _ => by rw [g5 4 (by omega)]; exact k4) (by rw [g5 5 (by omega)]; exact k5) (by rw [g5 6 (by omega)]; exact k6) e5 (by rw [g5 8 (by omega), G4 8 (by omega) (by omega) (by omega) (by omega)]; exact d8)))
  unfold PX5_shapeOf
  refine ⟨fun z => one (by omega), fun z => ?_, fun z => one (by omega), fun z => two (by omega), fun z => one (by omega), fun z => ?_, fun z => two (by omega), fun z => ?_⟩
  · refine ⟨3, ?_⟩
    show BX5_readCommand_58 (ke5 Q s) Q s 13 (lp_I (BX5_readCommand_58 (ke5 Q s) Q s 13) 2) 0 M9
    refine num 13 _ (by decide) (by decide) (fun M3 n1 f2 e2 F3 d2 d3 d5 d6 d7 d8 r0 r1 hA => ?_)
    show BX5_readCommand_58 (ke5 Q s) Q s 13 (lp_I (BX5_readCommand_58 (ke5 Q s) Q s 13) 1) (0 + 1) M3
    refine rc_signs (by decide) (by decide) (hT.fr F3) (by omega) ?_
    rw [d7]
    refine (hA.1 z).mono (fun f h M4 f4 e4 => h M4 (F3.tr f4) e4) (fun f3 e3 h1 h2 h3 hh => ⟨fun hb M4 f4 e4 => hh.1 hb M4 (F3.tr f4) e4, fun hb M4 f4 g4 k5 k6 k7 => ?_⟩)
    have rr := sb_rg (tx := tx) (tn := tn) (a := e2) (by omega)
    have rr2 := we_rg (tx := tx) (tn := tn) (a := f3) (by omega)
    show BX5_readCommand_58 (ke5 Q s) Q s 13 (lp_I (BX5_readCommand_58 (ke5 Q s) Q s 13) 0) (0 + 1 + 1) M4
    refine rc_end (by decide) (hT.fr (F3.tr f4)) (by omega) (by rw [k7]; exact (hh.2 hb).mono (fun f h M5 f5 e5 => h M5 ((F3.tr f4).tr f5) e5) (fun nx h M5 f5 g5 e5 => h M5 ((F3.tr f4).tr f5) (by rw [g5 2 (by omega), g4 2 (by omega) (by omega) (by omega)]; exact d2) (by rw [g5 3 (by omega), g4 3 (by omega) (by omega) (by omega)]; exact d3) (fun y => by omega) (by rw [g5 5 (by omega)]; exact k5) (by rw [g5 6 (by omega)]; exact k6) e5 (by rw [g5 8 (by omega), g4 8 (by omega) (by omega) (by omega)]; exact d8)))
  · refine ⟨4, ?_⟩
    show BX5_readCommand_58 (ke5 Q s) Q s 15 (lp_I (BX5_readCommand_58 (ke5 Q s) Q s 15) 3) 0 M9
    refine num 15 _ (by decide) (by decide) (fun M3 n1 f2 e2 F3 d2 d3 d5 d6 d7 d8 r0 r1 hA => ?_)
    show BX5_readCommand_58 (ke5 Q s) Q s 15 (lp_I (BX5_readCommand_58 (ke5 Q s) Q s 15) 2) (0 + 1) M3
    refine rc_num (by decide) (by decide) (hT.fr F3) (by omega) ?_
    rw [d7]
    refine (hA.2.2.1 z).mono (fun f h M4 f4 e4 => h M4 (F3.tr f4) e4) (fun n2 f3 e3 h1 h2 h3 _ hn hh M4 f4 g4 k4 k5 k6 k7 => ?_)
    rw [if_neg (by omega)] at k4
    have rr := sb_rg (tx := tx) (tn := tn) (a := e2) (by omega)
    have rr2 := we_rg (tx := tx) (tn := tn) (a := f3) (by omega)
    have G4 : ∀ j, j ≠ 4 → j ≠ 5 → j ≠ 6 → j ≠ 7 → M4 s j = M3 s j := fun j a b c d => g4 j (by rw [if_neg (by omega)]; exact a) b c d
    show BX5_readCommand_58 (ke5 Q s) Q s 15 (lp_I (BX5_readCommand_58 (ke5 Q s) Q s 15) 1) (0 + 1 + 1) M4
    refine rc_sign (by decide) (by decide) (hT.fr (F3.tr f4)) (by omega) ?_
    rw [k7]
    refine hh.mono (fun f h M5 f5 e5 => h M5 ((F3.tr f4).tr f5) e5) (fun f5 e5 h1 h2 h3 hh => ⟨fun hb M5 F5 e8 => hh.1 hb M5 ((F3.tr f4).tr F5) e8, fun hb M5 F5 g5 j5 j6 j7 => ?_⟩)
    have rr3 := sb_rg (tx := tx) (tn := tn) (a := e3) (by omega)
    have rr4 := we_rg (tx := tx) (tn := tn) (a := f5) (by omega)
    show BX5_readCommand_58 (ke5 Q s) Q s 15 (lp_I (BX5_readCommand_58 (ke5 Q s) Q s 15) 0) (0 + 1 + 1 + 1) M5
    refine rc_end (by decide) (hT.fr ((F3.tr f4).tr F5)) (by omega) (by rw [j7]; exact (hh.2 hb).mono (fun f h M6 f6 e6 => h M6 (((F3.tr f4).tr F5).tr f6) e6) (fun nx h M6 f6 g6 e6 => h M6 (((F3.tr f4).tr F5).tr f6) (by rw [g6 2 (by omega), g5 2 (by omega) (by omega) (by omega), G4 2 (by omega) (by omega) (by omega) (by omega)]; exact d2) (by rw [g6 3 (by omega), g5 3 (by omega) (by omega) (by omega), G4 3 (by omega) (by omega) (by omega) (by omega)]; exact d3) (fun _ => by rw [g6 4 (by omega), g5 4 (by omega) (by omega) (by omega)]; exact k4) (by rw [g6 5 (by omega)]; exact j5) (by rw [g6 6 (by omega)]; exact j6) e6 (by rw [g6 8 (by omega), g5 8 (by omega) (by omega) (by omega), G4 8 (by omega) (by omega) (by omega) (by omega)]; exact d8)))
  · refine ⟨3, ?_⟩
    show BX5_readCommand_58 (ke5 Q s) Q s 16 (lp_I (BX5_readCommand_58 (ke5 Q s) Q s 16) 2) 0 M9
    refine num 16 _ (by decide) (by decide) (fun M3 n1 f2 e2 F3 d2 d3 d5 d6 d7 d8 r0 r1 hA => ?_)
    show BX5_readCommand_58 (ke5 Q s) Q s 16 (lp_I (BX5_readCommand_58 (ke5 Q s) Q s 16) 1) (0 + 1) M3
    refine rc_way (by decide) (by decide) (hT.fr F3) (by omega) ?_
    rw [d7]
    refine (hA.2.2.2.1 z).mono (fun f h M4 f4 e4 => h M4 (F3.tr f4) e4) (fun f3 e3 h1 h2 h3 hh => ⟨fun hb M4 f4 e4 => hh.1 hb M4 (F3.tr f4) e4, fun hb M4 f4 g4 k4 k5 k6 k7 => ?_⟩)
    have rr := sb_rg (tx := tx) (tn := tn) (a := e2) (by omega)
    have rr2 := we_rg (tx := tx) (tn := tn) (a := f3) (by omega)
    show BX5_readCommand_58 (ke5 Q s) Q s 16 (lp_I (BX5_readCommand_58 (ke5 Q s) Q s 16) 0) (0 + 1 + 1) M4
    refine rc_end (by decide) (hT.fr (F3.tr f4)) (by omega) (by rw [k7]; exact (hh.2 hb).mono (fun f h M5 f5 e5 => h M5 ((F3.tr f4).tr f5) e5) (fun nx h M5 f5 g5 e5 => h M5 ((F3.tr f4).tr f5) (by rw [g5 2 (by omega), g4 2 (by omega) (by omega) (by omega) (by omega)]; exact d2) (by rw [g5 3 (by omega), g4 3 (by omega) (by omega) (by omega) (by omega)]; exact d3) (fun _ => by rw [g5 4 (by omega)]; exact k4) (by rw [g5 5 (by omega)]; exact k5) (by rw [g5 6 (by omega)]; exact k6) e5 (by rw [g5 8 (by omega), g4 8 (by omega) (by omega) (by omega) (by omega)]; exact d8)))
