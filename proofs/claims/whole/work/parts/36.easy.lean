section EASY
variable {x : Int} {M : Mm}
theorem i_type {b : Int} (hI : Inv x M) : PX6_type x b M (fun r M1 => PX7_type (x + 168) b M1 (fun r2 M2 => r = r2 ∧ Inv x M2)) := by
  obtain ⟨p, n, ps, c, h1, h2, ⟨tn, tx, h3⟩, kb, kq, kn, ks, h4⟩ := id hI
  obtain ⟨⟨t1, t2⟩, ⟨s1, s2⟩, ⟨u1, u2⟩⟩ := h3
  have no : ¬ (0 ≤ b ∧ b ≤ 255) → PX7_type (x + 168) b M (fun r2 M2 => -1 = r2 ∧ Inv x M2) := by
    intro hb
    unfold PX7_type
    exact s7_in (fun a c => by omega) (fun _ => ⟨fun _ => ⟨rfl, hI⟩, fun z => absurd rfl z⟩)
  unfold PX6_type
  rw [t1]
  refine ⟨fun hb => no (by omega), fun hb => ⟨fun hb2 => ⟨fun hn => ⟨by omega, ?_⟩, fun hn => ?_⟩, fun hb2 => no (by omega)⟩⟩
  · rintro M4 rfl
    rw [show um M (x + 47 + 1) tn b (x + 47) 1 = tn by rw [um_r _ (by omega)]; exact t1]
    refine ⟨by omega, ?_⟩
    rintro M6 rfl
    rw [um_w]
    unfold PX7_type
    refine s7_in (fun _ _ => ⟨fun z => by omega, fun _ => ?_⟩) (fun z => by omega)
    rw [show um (um M (x + 47 + 1) tn b) (x + 47) 1 (tn + 1) (x + 168) 7 = tn by rw [um_r _ (by omega), um_r _ (by omega)]; exact s1]
    refine ⟨fun z => by omega, fun _ => ⟨by omega, ?_⟩⟩
    rintro M8 rfl
    rw [show um (um (um M (x + 47 + 1) tn b) (x + 47) 1 (tn + 1)) (x + 168 + 5) tn b (x + 168) 7 = tn by rw [um_r _ (by omega), um_r _ (by omega), um_r _ (by omega)]; exact s1]
    refine ⟨by omega, ?_⟩
    rintro M9 rfl
    rw [um_w]
    have fr : ∀ a, a ≠ x + 48 → a ≠ x + 47 → a ≠ x + 173 → a ≠ x + 168 → um (um (um (um M (x + 47 + 1) tn b) (x + 47) 1 (tn + 1)) (x + 168 + 5) tn b) (x + 168) 7 (tn + 1) a = M a := fun a a1 a2 a3 a4 => by rw [um_ne _ _ _ (by omega), um_ne _ _ _ (by omega), um_ne _ _ _ (by omega), um_ne _ _ _ (by omega)]
    refine ⟨rfl, p, n, ps, c, ?_, ?_, ⟨tn + 1, fun i => if i = tn then b else tx i, ⟨?_, fun i a1 a2 => ?_⟩, ⟨um_w _ _ _ _, fun i a1 a2 => ?_⟩, by omega, fun i a1 a2 => ?_⟩, kb, kq, kn, ks, h4.keep (fun a b1 b2 => fr a (by omega) (by omega) (by omega) (by omega)) (fun a b1 b2 => fr a (by omega) (by omega) (by omega) (by omega))⟩
    · obtain ⟨h45, hw, he, hpa, hc, hL⟩ := id h1
      have h45' := h45
      unfold Two at h45'
      refine ⟨?_, hw, ?_, hpa.keep (fun a b1 b2 => fr a (by omega) (by omega) (by omega) (by omega)), ?_, ?_⟩
      · unfold Two; rw [fr x (by omega) (by omega) (by omega) (by omega)]; exact h45
      · rw [vw_same (fr _ (by omega) (by omega) (by omega) (by omega)) (fr _ (by omega) (by omega) (by omega) (by omega)) (fr _ (by omega) (by omega) (by omega) (by omega)) (fr _ (by omega) (by omega) (by omega) (by omega))]; exact he
      · rw [fr x (by omega) (by omega) (by omega) (by omega)]; exact hc
      · rw [fr x (by omega) (by omega) (by omega) (by omega)]
        exact hL.keep (fun a b1 b2 _ => fr a (by omega) (by omega) (by omega) (by omega))
    · obtain ⟨hw, he, hpa, hc⟩ := id h2
      exact ⟨hw, by rw [fr _ (by omega) (by omega) (by omega) (by omega)]; exact he, hpa.keep (by rw [um_r _ (by omega), um_r _ (by omega), um_r _ (by omega), um_r _ (by omega)]) (by rw [um_r _ (by omega), um_r _ (by omega), um_r _ (by omega), um_r _ (by omega)]) (fr _ (by omega) (by omega) (by omega) (by omega)), by rw [um_r _ (by omega), um_r _ (by omega), um_r _ (by omega), um_r _ (by omega)]; exact hc⟩
    · rw [um_r _ (by omega), um_r _ (by omega), um_w]
    · rw [um_r _ (by omega), um_r _ (by omega), um_r _ (by omega)]
      dsimp only
      by_cases hi : i = tn
      · rw [hi, um_w, if_pos rfl]
      · rw [um_r _ (by omega), if_neg hi]; exact t2 i a1 (by omega)
    · rw [um_r _ (by omega)]
      dsimp only
      by_cases hi : i = tn
      · rw [hi, um_w, if_pos rfl]
      · rw [um_r _ (by omega), um_r _ (by omega), um_r _ (by omega), if_neg hi]; exact s2 i a1 (by omega)
    · dsimp only
      by_cases hi : i = tn
      · rw [if_pos hi]; omega
      · rw [if_neg hi]; exact u2 i a1 (by omega)
  · unfold PX7_type
    refine s7_in (fun _ _ => ⟨fun z => by omega, fun _ => ?_⟩) (fun z => by omega)
    rw [s1]
    exact ⟨fun _ => ⟨rfl, hI⟩, fun z => by omega⟩
theorem i_clear (hI : Inv x M) : PX6_clear x M (fun r M1 => PX7_clear (x + 168) M1 (fun r2 M2 => r = r2 ∧ Inv x M2)) := by
  obtain ⟨p, n, ps, c, h1, h2, ⟨tn, tx, h3⟩, kb, kq, kn, ks, h4⟩ := id hI
  obtain ⟨⟨t1, t2⟩, ⟨s1, s2⟩, ⟨u1, u2⟩⟩ := h3
  unfold PX6_clear
  rintro M2 rfl
  unfold PX7_clear
  rintro M3 rfl
  rw [t1, show um M (x + 47) 1 0 (x + 168) 7 = tn by rw [um_r _ (by omega)]; exact s1]
  have fr : ∀ a, a ≠ x + 47 → a ≠ x + 168 → um (um M (x + 47) 1 0) (x + 168) 7 0 a = M a := fun a a1 a2 => by rw [um_ne _ _ _ (by omega), um_ne _ _ _ (by omega)]
  refine ⟨rfl, p, n, ps, c, ?_, ?_, ⟨0, tx, ⟨by rw [um_r _ (by omega), um_w], fun i a1 a2 => by omega⟩, ⟨um_w _ _ _ _, fun i a1 a2 => by omega⟩, by omega, fun i a1 a2 => by omega⟩, kb, kq, kn, ks, h4.keep (fun a b1 b2 => fr a (by omega) (by omega)) (fun a b1 b2 => fr a (by omega) (by omega))⟩
  · obtain ⟨h45, hw, he, hpa, hc, hL⟩ := id h1
    have h45' := h45
    unfold Two at h45'
    refine ⟨?_, hw, ?_, hpa.keep (fun a b1 b2 => fr a (by omega) (by omega)), ?_, ?_⟩
    · unfold Two; rw [fr x (by omega) (by omega)]; exact h45
    · rw [vw_same (fr _ (by omega) (by omega)) (fr _ (by omega) (by omega)) (fr _ (by omega) (by omega)) (fr _ (by omega) (by omega))]; exact he
    · rw [fr x (by omega) (by omega)]; exact hc
    · rw [fr x (by omega) (by omega)]
      exact hL.keep (fun a b1 b2 _ => fr a (by omega) (by omega))
  · obtain ⟨hw, he, hpa, hc⟩ := id h2
    exact ⟨hw, by rw [fr _ (by omega) (by omega)]; exact he, hpa.keep (by rw [um_r _ (by omega), um_r _ (by omega)]) (by rw [um_r _ (by omega), um_r _ (by omega)]) (fr _ (by omega) (by omega)), by rw [um_r _ (by omega), um_r _ (by omega)]; exact hc⟩
theorem i_sign {l a : Int} (hI : Inv x M) : PX6_sign x l a M (fun r M1 => PX7_sign_ (x + 168) l a M1 (fun r2 M2 => r = r2 ∧ Inv x M2)) := by
  obtain ⟨p, n, ps, c, ⟨h45, hw, he, -⟩, ⟨-, hm, -⟩, -⟩ := id hI
  have hb := hw.1
  unfold PX6_sign
  refine s3_hasSign hw he (fun h0 h1 h2 h3 => ⟨fun z => by omega, fun _ => ?_⟩) (fun hn => ⟨fun _ => ?_, fun z => absurd rfl z⟩)
  · have hs := hw.2.1 l h0 h1
    unfold PX3_signAt
    rw [vc_ln hw he h0 h1 h2 h3]
    refine ⟨by omega, ?_⟩
    unfold PX7_sign_ JX7_sign__33 PX7_signAt
    refine s7_isPlace hw hm (fun _ _ _ _ => ⟨fun z => by omega, fun _ => ⟨by omega, ?_⟩⟩) (fun z => by omega)
    rw [eqv_sz hm h0 h1]
    refine ⟨fun z => by omega, fun _ => ⟨by omega, ?_, hI⟩⟩
    exact (eqv_ln hm h0 h1 h2 h3).symm
  · unfold PX7_sign_ JX7_sign__33
    refine s7_isPlace hw hm (fun h0 h1 h2 h3 => ⟨fun _ => ⟨rfl, hI⟩, fun _ => ⟨by omega, ?_⟩⟩) (fun _ => ⟨fun _ => ⟨rfl, hI⟩, fun z => absurd rfl z⟩)
    rw [eqv_sz hm h0 h1]
    exact ⟨fun _ => ⟨rfl, hI⟩, fun z => by omega⟩
theorem i_align {k : Int} (hI : Inv x M) : PX6_align x k M (fun r M1 => PX7_align (x + 168) k M1 (fun r2 M2 => r = r2 ∧ Inv x M2)) := by
  obtain ⟨p, n, ps, c, ⟨h45, hw, he, -⟩, ⟨-, hm, -⟩, -⟩ := id hI
  have no : ¬ (0 ≤ k ∧ k ≤ 23) → PX7_align (x + 168) k M (fun r2 M2 => -1 = r2 ∧ Inv x M2) := by
    intro hk
    unfold PX7_align
    exact s7_in (fun a c => by omega) (fun _ => ⟨fun _ => ⟨rfl, hI⟩, fun z => absurd rfl z⟩)
  unfold PX6_align JX6_align_22
  refine ⟨fun h => no (by omega), fun h => ⟨fun h2 => no (by omega), fun h2 => ⟨by omega, ?_⟩⟩⟩
  rw [vc_al he (by omega) (by omega)]
  unfold PX7_align
  refine s7_in (fun a c => ⟨fun z => by omega, fun _ => ⟨by omega, ?_, hI⟩⟩) (fun z => by omega)
  exact (hm.2.2.2.1 k (by omega) (by omega)).symm
theorem i_line {l w : Int} (hI : Inv x M) : PX6_line x l w M (fun r M1 => PX7_line (x + 168) l w M1 (fun r2 M2 => r = r2 ∧ Inv x M2)) := by
  obtain ⟨p, n, ps, c, ⟨h45, hw, he, -, -, hL⟩, ⟨-, hm, -⟩, -⟩ := id hI
  have hb := hw.1
  have hwm := hm.sy.wr hw
  have em := hm.1
  unfold PX6_line
  refine s3_hasLine he (fun h0 h1 => ⟨fun z => by omega, fun _ => ?_⟩) (fun hn => ⟨fun _ => ?_, fun z => absurd rfl z⟩)
  · have hs := hw.2.1 l h0 h1
    have hc := cel_rg hw h0 h1
    have h1m : l < M (x + 168 + 1) 0 := by omega
    have ec := cel_cg hwm hm h0 h1m
    have hcm := cel_rg hwm h0 h1m
    obtain ⟨⟨l1, -, -⟩, l2, l3, -⟩ := hL.2.2 l h0 h1
    rw [vc_sz hw he h0 h1, l1, l2, l3]
    refine ⟨fun hv => ?_, fun hv => ⟨by omega, ?_⟩, fun hv => ⟨by omega, ?_⟩, fun hv => ⟨by omega, ?_⟩, fun hv => ⟨by omega, ?_⟩⟩
    · unfold PX7_line
      refine s7_isLine hw hm (fun _ _ => ⟨fun z => by omega, fun _ => ⟨fun _ => ⟨rfl, hI⟩, fun z => by omega, fun z => by omega, fun z => by omega, fun z => by omega⟩⟩) (fun z => by omega)
    · unfold PX7_line
      refine s7_isLine hw hm (fun _ _ => ⟨fun z => by omega, fun _ => ⟨fun z => by omega, fun _ => ⟨by omega, (eqv_sz hm h0 h1).symm, hI⟩, fun z => by omega, fun z => by omega, fun z => by omega⟩⟩) (fun z => by omega)
    · unfold PX7_line
      refine s7_isLine hw hm (fun _ _ => ⟨fun z => by omega, fun _ => ⟨fun z => by omega, fun z => by omega, fun _ => s7_cellsOf hwm h0 h1m ⟨ec.symm, hI⟩, fun z => by omega, fun z => by omega⟩⟩) (fun z => by omega)
    · unfold PX7_line
      refine s7_isLine hw hm (fun _ _ => ⟨fun z => by omega, fun _ => ⟨fun z => by omega, fun z => by omega, fun z => by omega, fun _ => s7_wideOf hwm h0 h1m ⟨(wde_cg hwm hm h0 h1m).symm, hI⟩, fun z => by omega⟩⟩) (fun z => by omega)
    · unfold PX7_line
      refine s7_isLine hw hm (fun _ _ => ⟨fun z => by omega, fun _ => ⟨fun z => by omega, fun z => by omega, fun z => by omega, fun z => by omega, fun _ => s7_cellsOf hwm h0 h1m (s7_beginsOf hwm h0 h1m hcm.1 (Int.le_refl _) ⟨?_, hI⟩)⟩⟩) (fun z => by omega)
      rw [bgn_cg hwm hm h0 h1m (Int.le_refl _), ec]
  · unfold PX7_line
    exact s7_isLine hw hm (fun h0 h1 => absurd ⟨h0, h1⟩ hn) (fun _ => ⟨fun _ => ⟨rfl, hI⟩, fun z => absurd rfl z⟩)
end EASY
