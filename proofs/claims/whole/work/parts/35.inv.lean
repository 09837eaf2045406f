/-! ===== the invariant ===== -/
def CT (x : Int) (M : Mm) (tn : Int) (tx : Int → Int) : Prop := M (x + 47) 1 = tn ∧ ∀ i, 0 ≤ i → i < tn → M (x + 47 + 1) i = tx i
def MT (m : Int) (M : Mm) (tn : Int) (tx : Int → Int) : Prop := M m 7 = tn ∧ ∀ i, 0 ≤ i → i < tn → M (m + 5) i = tx i
def Txt (tn : Int) (tx : Int → Int) : Prop := (0 ≤ tn ∧ tn ≤ 150) ∧ ∀ i, 0 ≤ i → i < tn → 0 ≤ tx i ∧ tx i ≤ 255
def CI (x : Int) (M : Mm) (j b : Int) (q : Int → Int) (n : Int) (ps : Int → Int → Int) : Prop := M (x + 49 + 25 + 47 * j) 0 = b ∧ (b ≠ 0 → Eqv (vw M (x + 49 + 25 + 47 * j + 1)) q ∧ WR q ∧ PaC M (x + 49 + 25 + 47 * j + 5) n ps)
def MI (m : Int) (M : Mm) (j b : Int) (q : Int → Int) (n : Int) (ps : Int → Int → Int) : Prop := M (m + 6) j = b ∧ (b ≠ 0 → Eqv (fun i => M (m + 7) ((327 * j) + i)) q ∧ M (m + 9) j = n ∧ (0 ≤ M (m + 10) j ∧ M (m + 10) j < 10) ∧ ∀ i, 0 ≤ i → i < n → Eqv (fun t => M (m + 8) ((3270 * j) + ((327 * ((M (m + 10) j + 9 - i) % 10)) + t))) (ps i))
def Im (x : Int) (M : Mm) (kb : Int → Int) (kq : Int → Int → Int) (kn : Int → Int) (ks : Int → Int → Int → Int) : Prop := ∀ j, 0 ≤ j → j < 2 → CI x M j (kb j) (kq j) (kn j) (ks j) ∧ MI (x + 168) M j (kb j) (kq j) (kn j) (ks j)
def Te (x : Int) (M : Mm) (tn : Int) (tx : Int → Int) : Prop := CT x M tn tx ∧ MT (x + 168) M tn tx ∧ Txt tn tx
def Inv (x : Int) (M : Mm) : Prop := ∃ p n ps c, CP x M p n ps c ∧ MP (x + 168) M p n ps c ∧ (∃ tn tx, Te x M tn tx) ∧ ∃ kb kq kn ks, Im x M kb kq kn ks
section KEEP
variable {M M2 : Mm} {x m n c tn j b : Int} {p q tx : Int → Int} {ps : Int → Int → Int}
theorem CP.keep (h : CP x M p n ps c) (hf : ∀ a, x ≤ a → a ≤ x + 73 → M2 a = M a) : CP x M2 p n ps c := by
  obtain ⟨h45, hw, he, hpa, hc, hL⟩ := h
  have ex := hf x (by omega) (by omega)
  refine ⟨by unfold Two; rw [ex]; exact h45, hw, ?_, hpa.keep (fun a b1 b2 => hf a (by omega) (by omega)), by rw [ex]; exact hc, ?_⟩
  · rw [vw_same (hf _ (by omega) (by omega)) (hf _ (by omega) (by omega)) (hf _ (by omega) (by omega)) (hf _ (by omega) (by omega))]; exact he
  · rw [ex]
    unfold Two at h45
    exact hL.keep (fun a b1 b2 _ => hf a (by omega) (by omega))
theorem MP.keep (h : MP m M p n ps c) (hf : ∀ a, m ≤ a → a ≤ m + 4 → M2 a = M a) : MP m M2 p n ps c := by
  obtain ⟨hw, he, hpa, hc⟩ := h
  have em := hf m (by omega) (by omega)
  exact ⟨hw, by rw [hf _ (by omega) (by omega)]; exact he, hpa.keep (by rw [em]) (by rw [em]) (hf _ (by omega) (by omega)), by rw [em]; exact hc⟩
theorem CI.keep (h : CI x M j b q n ps) (hf : ∀ a, x + 74 + 47 * j ≤ a → a ≤ x + 74 + 47 * j + 46 → M2 a = M a) : CI x M2 j b q n ps := by
  obtain ⟨h1, h2⟩ := h
  refine ⟨by rw [hf _ (by omega) (by omega)]; exact h1, fun hb => ?_⟩
  obtain ⟨g1, g2, g3⟩ := h2 hb
  refine ⟨?_, g2, g3.keep (fun a b1 b2 => hf a (by omega) (by omega))⟩
  rw [vw_same (hf _ (by omega) (by omega)) (hf _ (by omega) (by omega)) (hf _ (by omega) (by omega)) (hf _ (by omega) (by omega))]; exact g1
theorem MI.keep (h : MI m M j b q n ps) (hf : ∀ a, m + 6 ≤ a → a ≤ m + 10 → M2 a = M a) : MI m M2 j b q n ps := by
  unfold MI
  rw [hf (m + 6) (by omega) (by omega), hf (m + 7) (by omega) (by omega), hf (m + 8) (by omega) (by omega), hf (m + 9) (by omega) (by omega), hf (m + 10) (by omega) (by omega)]
  exact h
theorem Im.keep {kb : Int → Int} {kq : Int → Int → Int} {kn : Int → Int} {ks : Int → Int → Int → Int} (h : Im x M kb kq kn ks) (hf : ∀ a, x + 74 ≤ a → a ≤ x + 167 → M2 a = M a) (hg : ∀ a, x + 174 ≤ a → a ≤ x + 178 → M2 a = M a) : Im x M2 kb kq kn ks := fun j j0 j1 => ⟨(h j j0 j1).1.keep (fun a b1 b2 => hf a (by omega) (by omega)), (h j j0 j1).2.keep (fun a b1 b2 => hg a (by omega) (by omega))⟩
theorem Te.keep (h : Te x M tn tx) (h1 : M2 (x + 47) = M (x + 47)) (h2 : M2 (x + 48) = M (x + 48)) (h3 : M2 (x + 168) 7 = M (x + 168) 7) (h4 : M2 (x + 173) = M (x + 173)) : Te x M2 tn tx := by
  rw [show x + 48 = x + 47 + 1 by omega] at h2
  rw [show x + 173 = x + 168 + 5 by omega] at h4
  unfold Te CT MT
  rw [h1, h2, h3, h4]
  exact h
end KEEP
/-- an edit keeps both sides together -/
theorem inv_edit {x : Int} {M : Mm} {PX : (Int → Mm → Prop) → Prop} {PY : Mm → (Int → Mm → Prop) → Prop} (hI : Inv x M) (T : (Int → Int) → Int → (Int → Int → Int) → Int → Kt → Prop)
    (hd : ∀ p n ps c, WR p → ∃ v p' n' ps' c', ∀ K : Kt, K v p' n' ps' c' → T p n ps c K)
    (hc : ∀ p n ps c Q, CP x M p n ps c → T p n ps c (fun v p' n' ps' c' => ∀ M2 : Mm, FC x M M2 → CP x M2 p' n' ps' c' → Q v M2) → PX Q)
    (hm : ∀ M1 p n ps c Q, MP (x + 168) M1 p n ps c → T p n ps c (fun v p' n' ps' c' => ∀ M2 : Mm, FM (x + 168) M1 M2 → MP (x + 168) M2 p' n' ps' c' → Q v M2) → PY M1 Q) : PX (fun r M1 => PY M1 (fun r2 M2 => r = r2 ∧ Inv x M2)) := by
  obtain ⟨p, n, ps, c, h1, h2, ⟨tn, tx, h3⟩, kb, kq, kn, ks, h4⟩ := hI
  obtain ⟨v, p', n', ps', c', hT⟩ := hd p n ps c h1.2.1
  refine hc p n ps c _ h1 (hT _ (fun M1 f1 c1 => hm M1 p n ps c _ (h2.keep (fun a b1 b2 => f1 a (by omega))) (hT _ (fun M2 f2 c2 => ⟨rfl, p', n', ps', c', c1.keep (fun a b1 b2 => f2.1 a (by omega) (by omega)), c2, ⟨tn, tx, ?_⟩, kb, kq, kn, ks, ?_⟩))))
  · refine h3.keep ?_ ?_ ?_ ?_
    · rw [f2.1 _ (by omega) (by omega), f1 _ (by omega)]
    · rw [f2.1 _ (by omega) (by omega), f1 _ (by omega)]
    · rw [f2.2 7 (by omega) (by omega) (by omega), f1 _ (by omega)]
    · rw [f2.1 _ (by omega) (by omega), f1 _ (by omega)]
  · refine h4.keep (fun a b1 b2 => ?_) (fun a b1 b2 => ?_)
    · rw [f2.1 _ (by omega) (by omega), f1 _ (by omega)]
    · rw [f2.1 _ (by omega) (by omega), f1 _ (by omega)]
section DET
variable {l a s : Int} {p : Int → Int} {n : Int} {ps : Int → Int → Int} {c : Int}
theorem d_put (hw : WR p) : ∃ v p' n' ps' c', ∀ K : Kt, K v p' n' ps' c' → Tput p n ps c l a s K := by
  by_cases h : 0 ≤ l ∧ l < p 0 ∧ 0 ≤ a ∧ a ≤ p (3 + l) ∧ isS s
  · have := hw.2.1 l h.1 h.2.1
    rcases ilg (p (3 + l)) 24 with h2 | h2
    · exact ⟨_, _, _, _, _, fun K hK => ⟨fun z => absurd h z, fun _ z => by omega, fun _ _ => hK⟩⟩
    · exact ⟨_, _, _, _, _, fun K hK => ⟨fun z => absurd h z, fun _ _ => hK, fun _ z => by omega⟩⟩
  · exact ⟨_, _, _, _, _, fun K hK => ⟨fun _ => hK, fun z => absurd z h, fun z => absurd z h⟩⟩
theorem d_cut : ∃ v p' n' ps' c', ∀ K : Kt, K v p' n' ps' c' → Tcut p n ps c l a K := by
  by_cases h : 0 ≤ l ∧ l < p 0 ∧ 0 ≤ a ∧ a < p (3 + l)
  · exact ⟨_, _, _, _, _, fun K hK => ⟨fun z => absurd h z, fun _ => hK⟩⟩
  · exact ⟨_, _, _, _, _, fun K hK => ⟨fun _ => hK, fun z => absurd z h⟩⟩
theorem d_split (hw : WR p) : ∃ v p' n' ps' c', ∀ K : Kt, K v p' n' ps' c' → Tspl p n ps c l a K := by
  have := hw.1
  by_cases h : 0 ≤ l ∧ l < p 0 ∧ 0 ≤ a ∧ a ≤ p (3 + l)
  · rcases ilg (p 0) 12 with h2 | h2
    · exact ⟨_, _, _, _, _, fun K hK => ⟨fun z => absurd h z, fun _ z => by omega, fun _ _ => hK⟩⟩
    · exact ⟨_, _, _, _, _, fun K hK => ⟨fun z => absurd h z, fun _ _ => hK, fun _ z => by omega⟩⟩
  · exact ⟨_, _, _, _, _, fun K hK => ⟨fun _ => hK, fun z => absurd z h, fun z => absurd z h⟩⟩
theorem d_join : ∃ v p' n' ps' c', ∀ K : Kt, K v p' n' ps' c' → Tjoi p n ps c l K := by
  by_cases h : 0 ≤ l ∧ l + 1 < p 0
  · rcases ilg 24 (p (3 + l) + p (3 + (l + 1))) with h2 | h2
    · exact ⟨_, _, _, _, _, fun K hK => ⟨fun z => absurd h z, fun _ _ => hK, fun _ z => by omega⟩⟩
    · exact ⟨_, _, _, _, _, fun K hK => ⟨fun z => absurd h z, fun _ z => by omega, fun _ _ => hK⟩⟩
  · exact ⟨_, _, _, _, _, fun K hK => ⟨fun _ => hK, fun z => absurd z h, fun z => absurd z h⟩⟩
def Tund (p : Int → Int) (n : Int) (ps : Int → Int → Int) (c : Int) (K : Kt) : Prop := (n = 0 → K (-2) p n ps c) ∧ (n ≠ 0 → K (n - 1) (ps 0) (n - 1) (fun i => ps (i + 1)) 0)
theorem d_undo : ∃ v p' n' ps' c', ∀ K : Kt, K v p' n' ps' c' → Tund p n ps c K := by
  by_cases h : n = 0
  · exact ⟨_, _, _, _, _, fun K hK => ⟨fun _ => hK, fun z => absurd h z⟩⟩
  · exact ⟨_, _, _, _, _, fun K hK => ⟨fun z => absurd z h, fun _ => hK⟩⟩
end DET
section UNDO
variable {M : Mm} {x m n c : Int} {p : Int → Int} {ps : Int → Int → Int} {Q : Int → Mm → Prop}
theorem c_undo (h : CP x M p n ps c) (hT : Tund p n ps c (fun v p' n' ps' c' => ∀ M2 : Mm, FC x M M2 → CP x M2 p' n' ps' c' → Q v M2)) : PX6_undo x M Q := by
  obtain ⟨h45, hw, he, hpa, hc, hL⟩ := id h
  obtain ⟨T1, T2⟩ := hT
  have hn := hpa.2.1
  unfold PX6_undo
  rw [hpa.1]
  refine ⟨fun h0 => T1 h0 M (FC.rf x M) h, fun h0 => s4_latest hpa (by omega) ?_⟩
  obtain ⟨g1, g2⟩ := hpa.2.2.2 0 (Int.le_refl _) (by omega)
  have hmod : 0 ≤ (M (x + 5) 1 + n - 1 - 0) % 10 ∧ (M (x + 5) 1 + n - 1 - 0) % 10 < 10 := by omega
  refine s3_copy rfl (g1.sy.wr g2) (by omega) (fun M5 f5 e5 => ?_)
  refine s4_forget (hpa.keep (fun a b1 b2 => f5 a (by omega) (by omega) (by omega) (by omega))) (by omega) (fun M7 f7 p7 => ?_)
  have ex : M7 x = M x := by rw [f7 x (by omega), f5 x (by omega) (by omega) (by omega) (by omega)]
  have ev : vw M7 (x + 1) = vw M5 (x + 1) := vw_same (f7 _ (by omega)) (f7 _ (by omega)) (f7 _ (by omega)) (f7 _ (by omega))
  have E5 := e5.tr g1
  unfold Two at h45
  rw [ex]
  refine s2_lay ev (E5.sy.wr g2) (by omega) (fun M10 f10 L10 => ?_)
  rintro M11 rfl
  have p10 : PaC (um M10 x 6 0) (x + 5) (n - 1) (fun i => ps (i + 1)) := p7.keep (fun a b1 b2 => by rw [um_ne _ _ _ (by omega), f10 a (by omega)])
  rw [p10.1]
  refine T2 h0 _ (fun a ha => ?_) ⟨?_, g2, ?_, p10, um_w _ _ _ _, ?_⟩
  · rw [um_ne _ _ _ (by omega), f10 a (by omega), f7 a (by omega), f5 a (by omega) (by omega) (by omega) (by omega)]
  · unfold Two
    rw [um_r _ (by omega), um_r _ (by omega), f10 x (by omega), ex]
    exact h45
  · rw [vw_same (M := M5) (by rw [um_ne _ _ _ (by omega), f10 _ (by omega), f7 _ (by omega)]) (by rw [um_ne _ _ _ (by omega), f10 _ (by omega), f7 _ (by omega)]) (by rw [um_ne _ _ _ (by omega), f10 _ (by omega), f7 _ (by omega)]) (by rw [um_ne _ _ _ (by omega), f10 _ (by omega), f7 _ (by omega)])]
    exact E5
  · rw [um_r _ (by omega), f10 x (by omega), ex]
    exact (L10.cg (E5.sy.wr g2) E5).keep (fun a b1 b2 _ => um_ne _ _ _ (by omega))
theorem m_undo (h : MP m M p n ps c) (hT : Tund p n ps c (fun v p' n' ps' c' => ∀ M2 : Mm, FM m M M2 → MP m M2 p' n' ps' c' → Q v M2)) : PX7_undo m M Q := by
  obtain ⟨hw, he, hpa, hc⟩ := id h
  obtain ⟨T1, T2⟩ := hT
  obtain ⟨p0, p1, p2, p3⟩ := id hpa
  unfold PX7_undo
  rw [p0]
  refine ⟨fun h0 => T1 h0 M (FM.rf m M) h, fun h0 => ⟨by omega, by omega, ?_⟩⟩
  rintro M4 rfl
  rw [show um M m 5 ((M m 5 + 10 - 1) % 10) m 4 = n by rw [um_r _ (by omega)]; exact p0]
  refine ⟨by omega, ?_⟩
  rintro M7 rfl
  obtain ⟨g1, g2⟩ := p3 0 (Int.le_refl _) (by omega)
  refine lr_I (fun v M2 => 0 ≤ v ∧ v ≤ 327 ∧ (∀ q, q ≠ m + 1 → M2 q = um (um M m 5 ((M m 5 + 10 - 1) % 10)) m 4 (n - 1) q) ∧ (∀ j, 0 ≤ j → j < v → M2 (m + 1) j = M (m + 4) ((327 * ((M m 5 + 10 - 1) % 10)) + j))) (fun v _ => (327 - v).toNat) ?_ ⟨by omega, by omega, fun _ _ => rfl, fun j b1 b2 => by omega⟩
  rintro rec v M2 ⟨a0, a1, f2, e2⟩ hrec
  have em5 : M2 m 5 = (M m 5 + 10 - 1) % 10 := by rw [f2 m (by omega), um_r _ (by omega), um_w]
  have em4 : M2 m 4 = n - 1 := by rw [f2 m (by omega), um_w]
  have e4 : M2 (m + 4) = M (m + 4) := by rw [f2 _ (by omega), um_ne _ _ _ (by omega), um_ne _ _ _ (by omega)]
  unfold BX7_undo_38
  rw [em5, e4]
  refine ⟨fun hx => ?_, fun hx => ⟨by omega, by omega, ?_⟩⟩
  · rintro M17 rfl
    rw [show um M2 m 3 0 m 4 = n - 1 by rw [um_r _ (by omega)]; exact em4]
    refine T2 h0 _ ⟨fun a b1 b2 => ?_, fun j b1 b2 b3 => ?_⟩ ⟨g2, ?_, ⟨?_, by omega, ?_, fun i b1 b2 => ?_⟩, um_w _ _ _ _⟩
    · rw [um_ne _ _ _ b1, f2 a (by omega), um_ne _ _ _ b1, um_ne _ _ _ b1]
    · rw [um_r _ (by omega), f2 m (by omega), um_r _ (by omega), um_r _ (by omega)]
    · rw [um_ne _ _ _ (by omega)]
      refine (eqv_cells (g1.sy.wr g2) (fun j j0 j1 => ?_)).tr g1
      rw [e2 j j0 (by omega), show (M m 5 + 10 - 1) % 10 = (M m 5 + 9 - 0) % 10 by omega]
    · rw [um_r _ (by omega)]; exact em4
    · rw [um_r _ (by omega), em5]; omega
    · rw [um_r _ (by omega), em5, um_ne _ _ _ (by omega), e4, show ((M m 5 + 10 - 1) % 10 + 9 - i) % 10 = (M m 5 + 9 - (i + 1)) % 10 by omega]
      exact p3 (i + 1) (by omega) (by omega)
  · rintro M13 rfl
    refine ⟨by omega, hrec _ _ ⟨by omega, by omega, fun q hqb => by rw [um_ne _ _ _ hqb]; exact f2 q hqb, fun j b1 b2 => ?_⟩ (by omega)⟩
    by_cases hj : j = v
    · rw [hj, um_w]
    · rw [um_r _ (by omega)]; exact e2 j b1 (by omega)
end UNDO
section STEPS
variable {x : Int} {M : Mm}
theorem i_put {l a s : Int} (hI : Inv x M) : PX6_put x l a s M (fun r M1 => PX7_put (x + 168) l a s M1 (fun r2 M2 => r = r2 ∧ Inv x M2)) :=
  inv_edit (PX := PX6_put x l a s M) (PY := PX7_put (x + 168) l a s) hI (fun p n ps c => Tput p n ps c l a s) (fun p n ps c hw => d_put hw) (fun p n ps c Q h hT => c_put h hT) (fun M1 p n ps c Q h hT => m_put h hT)
theorem i_cut {l a : Int} (hI : Inv x M) : PX6_cut x l a M (fun r M1 => PX7_cut (x + 168) l a M1 (fun r2 M2 => r = r2 ∧ Inv x M2)) :=
  inv_edit (PX := PX6_cut x l a M) (PY := PX7_cut (x + 168) l a) hI (fun p n ps c => Tcut p n ps c l a) (fun p n ps c hw => d_cut) (fun p n ps c Q h hT => c_cut h hT) (fun M1 p n ps c Q h hT => m_cut h hT)
theorem i_split {l a : Int} (hI : Inv x M) : PX6_split x l a M (fun r M1 => PX7_split (x + 168) l a M1 (fun r2 M2 => r = r2 ∧ Inv x M2)) :=
  inv_edit (PX := PX6_split x l a M) (PY := PX7_split (x + 168) l a) hI (fun p n ps c => Tspl p n ps c l a) (fun p n ps c hw => d_split hw) (fun p n ps c Q h hT => c_split h hT) (fun M1 p n ps c Q h hT => m_split h hT)
theorem i_join {l : Int} (hI : Inv x M) : PX6_join x l M (fun r M1 => PX7_join (x + 168) l M1 (fun r2 M2 => r = r2 ∧ Inv x M2)) := by
  refine inv_edit (PX := PX6_join x l M) (PY := PX7_join (x + 168) l) hI (fun p n ps c => Tjoi p n ps c l) (fun p n ps c hw => d_join) (fun p n ps c Q h hT => c_join h hT) (fun M1 p n ps c Q h hT => ?_)
  rcases ilg l 2147483647 with hl | hl
  · exact m_join hl h hT
  · have hm := h.1.1
    unfold PX7_join
    exact s7_isLine h.1 h.2.1 (fun h0 h1 => by omega) (fun hn => ⟨fun _ => hT.1 (by omega) M1 (FM.rf _ M1) h, fun z => absurd rfl z⟩)
theorem i_undo (hI : Inv x M) : PX6_undo x M (fun r M1 => PX7_undo (x + 168) M1 (fun r2 M2 => r = r2 ∧ Inv x M2)) :=
  inv_edit (PX := PX6_undo x M) (PY := PX7_undo (x + 168)) hI (fun p n ps c => Tund p n ps c) (fun p n ps c hw => d_undo) (fun p n ps c Q h hT => c_undo h hT) (fun M1 p n ps c Q h hT => m_undo h hT)
end STEPS
