theorem um_r (M : Mm) {a j x b k : Int} (h : b ≠ a ∨ k ≠ j) : um M a j x b k = M b k := by
  unfold um
  by_cases hb : b = a
  · rw [if_pos hb]
    unfold ur
    rw [if_neg (by omega), hb]
  · rw [if_neg hb]
theorem um_w (M : Mm) (a j x : Int) : um M a j x a j = x := by
  rw [um_at]
  unfold ur
  rw [if_pos rfl]
/-- the class's page at pg as such a row -/
def vw (M : Mm) (pg : Int) : Int → Int := fun i => if i < 3 then M pg i else if i < 15 then M (pg + 1) (i - 3) else if i < 303 then M (pg + 2) (i - 15) else M (pg + 3) (i - 303)
theorem vw_0 (M : Mm) (pg : Int) : vw M pg 0 = M pg 0 := rfl
theorem vw_1 (M : Mm) (pg : Int) : vw M pg 1 = M pg 1 := rfl
theorem vw_2 (M : Mm) (pg : Int) : vw M pg 2 = M pg 2 := rfl
theorem vw_sz (M : Mm) (pg : Int) {l : Int} (h0 : 0 ≤ l) (h1 : l < 12) : vw M pg (3 + l) = M (pg + 1) l := by
  unfold vw
  rw [if_neg (by omega), if_pos (by omega), show 3 + l - 3 = l by omega]
theorem vw_ln (M : Mm) (pg : Int) {l i : Int} (h0 : 0 ≤ l) (h1 : l < 12) (h2 : 0 ≤ i) (h3 : i < 24) : ln (vw M pg) l i = M (pg + 2) ((l * 24) + i) := by
  unfold ln vw
  rw [if_neg (by omega), if_neg (by omega), if_pos (by omega), show 15 + 24 * l + i - 15 = l * 24 + i by omega]
theorem vw_al (M : Mm) (pg : Int) {k : Int} (h0 : 0 ≤ k) : vw M pg (303 + k) = M (pg + 3) k := by
  unfold vw
  rw [if_neg (by omega), if_neg (by omega), if_neg (by omega), show 303 + k - 303 = k by omega]
theorem vw_same {M M2 : Mm} {pg : Int} (h0 : M2 pg = M pg) (h1 : M2 (pg + 1) = M (pg + 1)) (h2 : M2 (pg + 2) = M (pg + 2)) (h3 : M2 (pg + 3) = M (pg + 3)) : vw M2 pg = vw M pg := by
  unfold vw
  rw [h0, h1, h2, h3]
/-- what a layout's first pass holds of a line -/
def LC (lb : Int) (r : Int → Int) (M : Mm) (l : Int) : Prop := M (lb + 1) l = cel r l ∧ M (lb + 2) l = beg r l (cel r l) ∧ ∀ k, 0 ≤ k → k < cel r l → M (lb + 9) ((l * 24) + k) = beg r l k ∧ M (lb + 5) ((l * 24) + k) = siz r l k ∧ M (lb + 10) ((l * 24) + k) = ahd r l k
theorem s2_part {M : Mm} {lb pg l : Int} {Q : Mm → Prop} {r : Int → Int} (hr : vw M pg = r) (hw : WR r) (hl : 0 ≤ l) (hl2 : l < r 0) (hd : pg + 3 < lb ∨ lb + 11 < pg)
    (hq : ∀ M2 : Mm, (∀ a, a ≠ lb + 1 → a ≠ lb + 2 → a ≠ lb + 5 → a ≠ lb + 9 → a ≠ lb + 10 → M2 a = M a) → (∀ j, j ≠ l → M2 (lb + 1) j = M (lb + 1) j ∧ M2 (lb + 2) j = M (lb + 2) j) → (∀ j, (j < l * 24 ∨ l * 24 + 24 ≤ j) → M2 (lb + 9) j = M (lb + 9) j ∧ M2 (lb + 5) j = M (lb + 5) j ∧ M2 (lb + 10) j = M (lb + 10) j) → LC lb r M2 l → Q M2) : PX2_partIntoCells lb pg l M Q := by
  have hm := hw.1
  have hs := hw.2.1 l hl hl2
  have hc := cel_rg hw hl hl2
  have es : r (3 + l) = M (pg + 1) l := by rw [← hr]; exact vw_sz M pg hl (by omega)
  have ef : ∀ i, 0 ≤ i → i < r (3 + l) → ln r l i = M (pg + 2) ((l * 24) + i) := fun i h0 h1 => by rw [← hr]; exact vw_ln M pg hl (by omega) h0 (by rw [hr] at *; omega)
  unfold PX2_partIntoCells
  refine lr_IIII (fun v3 v4 v5 v6 M2 => (0 ≤ v6 ∧ v6 ≤ r (3 + l)) ∧ v3 = cT (ln r l) v6 ∧ v4 = beg r l v3 ∧ (∀ i, v4 ≤ i → i < v6 → ln r l i ≠ 124) ∧ v4 ≤ v6 ∧ ((v5 = -9 ∧ ∀ i, v4 ≤ i → i < v6 → ln r l i ≠ 46) ∨ (v4 ≤ v5 ∧ v5 < v6 ∧ ln r l v5 = 46 ∧ ∀ i, v4 ≤ i → i < v5 → ln r l i ≠ 46)) ∧ (∀ a, a ≠ lb + 5 → a ≠ lb + 9 → a ≠ lb + 10 → M2 a = M a) ∧ (∀ j, (j < l * 24 ∨ l * 24 + 24 ≤ j) → M2 (lb + 9) j = M (lb + 9) j ∧ M2 (lb + 5) j = M (lb + 5) j ∧ M2 (lb + 10) j = M (lb + 10) j) ∧ (∀ k, 0 ≤ k → k < v3 → M2 (lb + 9) ((l * 24) + k) = beg r l k ∧ M2 (lb + 5) ((l * 24) + k) = siz r l k ∧ M2 (lb + 10) ((l * 24) + k) = ahd r l k)) (fun _ _ _ v6 _ => (r (3 + l) - v6).toNat) ?_ ?_
  · rintro rec v3 v4 v5 v6 M2 ⟨⟨p0, p1⟩, ek, e4, nt, le, hp, fr, fo, fk⟩ hrec
    have hcr := cT_rg (ln r l) p0
    have hcm := cT_mono (ln r l) p0 p1
    have hcel : cel r l = cT (ln r l) (r (3 + l)) := rfl
    unfold BX2_partIntoCells_12 PX3_signAt
    have g1 : M2 (pg + 1) l = r (3 + l) := by rw [fr (pg + 1) (by omega) (by omega) (by omega)]; exact es.symm
    rw [g1]
    refine ⟨by omega, fun hx => ?_, fun hx => ?_⟩
    · have e6 : v6 = r (3 + l) := by omega
      have e3 : v3 = cel r l := by rw [ek, e6]; rfl
      refine ⟨by omega, ?_⟩
      rintro M3 rfl
      refine ⟨by omega, ?_⟩
      rintro M4 rfl
      refine hq _ (fun a b1 b2 b3 b4 b5 => ?_) (fun j hj => ?_) (fun j hj => ?_) ⟨?_, ?_, fun k k0 k1 => ?_⟩
      · rw [um_ne _ _ _ b2, um_ne _ _ _ b1]
        exact fr a b3 b4 b5
      · rw [um_r _ (by omega), um_r _ (by omega), um_r _ (by omega), um_r _ (by omega), fr (lb + 1) (by omega) (by omega) (by omega), fr (lb + 2) (by omega) (by omega) (by omega)]
        exact ⟨rfl, rfl⟩
      · rw [um_r _ (by omega), um_r _ (by omega), um_r _ (by omega), um_r _ (by omega), um_r _ (by omega), um_r _ (by omega)]
        exact fo j hj
      · rw [um_r _ (by omega), um_w]
        exact e3
      · rw [um_w, e4, e3]
      · rw [um_r _ (by omega), um_r _ (by omega), um_r _ (by omega), um_r _ (by omega), um_r _ (by omega), um_r _ (by omega)]
        exact fk k k0 (by omega)
    · have hlt : v6 < r (3 + l) := by omega
      have g2 : M2 (pg + 2) ((l * 24) + v6) = ln r l v6 := by rw [fr (pg + 2) (by omega) (by omega) (by omega)]; exact (ef v6 p0 hlt).symm
      refine ⟨by omega, ?_⟩
      rw [g2]
      refine ⟨fun ht => ?_, fun ht => ?_⟩
      · have ct := cT_st (ln r l) p0 ht
        have hcm2 := cT_mono (ln r l) (show 0 ≤ v6 + 1 by omega) (show v6 + 1 ≤ r (3 + l) by omega)
        have hkc : v3 < cel r l := by omega
        have een : en r l v3 = v6 := by
          unfold en
          rw [← e4]
          exact fi_uniq le (by omega) nt (fun _ => ht)
        have esz : siz r l v3 = v6 - v4 := by unfold siz; rw [een, ← e4]
        have enx : beg r l (v3 + 1) = v6 + 1 := by rw [(cell_end hw hl hl2 (by omega) hkc).2.2, een]
        have hcell := cell_rg hw hl hl2 (by omega : 0 ≤ v3) (by omega)
        have eah : ahd r l v3 = (if v5 = -9 then v6 - v4 else v5 - v4) := by
          unfold ahd
          rw [een, ← e4]
          rcases hp with ⟨h5, hn⟩ | ⟨h5, h6, h7, hn⟩
          · rw [if_pos h5, fi_uniq le (Int.le_refl _) hn (fun z => by omega)]
          · rw [if_neg (by omega), fi_uniq h5 (by omega) hn (fun _ => h7)]
        refine ⟨by omega, ?_⟩
        rintro M3 rfl
        refine ⟨by omega, by omega, ?_⟩
        rintro M4 rfl
        refine ⟨fun h5 => ⟨by omega, by omega, ?_⟩, fun h5 => ⟨by omega, by omega, ?_⟩⟩
        · rintro M5 rfl
          rw [if_pos h5] at eah
          refine ⟨by omega, by omega, by omega, hrec _ _ _ _ _ ⟨by omega, by omega, enx.symm, fun i a b => by omega, by omega, Or.inl ⟨rfl, fun i a b => by omega⟩, fun a b1 b2 b3 => ?_, fun j hj => ?_, fun k k0 k1 => ?_⟩ (by omega)⟩
          · rw [um_ne _ _ _ b3, um_ne _ _ _ b1, um_ne _ _ _ b2]
            exact fr a b1 b2 b3
          · rw [um_r _ (by omega), um_r _ (by omega), um_r _ (by omega), um_r _ (by omega), um_r _ (by omega), um_r _ (by omega), um_r _ (by omega), um_r _ (by omega), um_r _ (by omega)]
            exact fo j hj
          · by_cases hk : k = v3
            · subst hk
              rw [um_r _ (by omega), um_r _ (by omega), um_w, um_r _ (by omega), um_w, um_w]
              exact ⟨e4, esz.symm, eah.symm⟩
            · rw [um_r _ (by omega), um_r _ (by omega), um_r _ (by omega), um_r _ (by omega), um_r _ (by omega), um_r _ (by omega), um_r _ (by omega), um_r _ (by omega), um_r _ (by omega)]
              exact fk k k0 (by omega)
        · rintro M5 rfl
          rw [if_neg h5] at eah
          refine ⟨by omega, by omega, by omega, hrec _ _ _ _ _ ⟨by omega, by omega, enx.symm, fun i a b => by omega, by omega, Or.inl ⟨rfl, fun i a b => by omega⟩, fun a b1 b2 b3 => ?_, fun j hj => ?_, fun k k0 k1 => ?_⟩ (by omega)⟩
          · rw [um_ne _ _ _ b3, um_ne _ _ _ b1, um_ne _ _ _ b2]
            exact fr a b1 b2 b3
          · rw [um_r _ (by omega), um_r _ (by omega), um_r _ (by omega), um_r _ (by omega), um_r _ (by omega), um_r _ (by omega), um_r _ (by omega), um_r _ (by omega), um_r _ (by omega)]
            exact fo j hj
          · by_cases hk : k = v3
            · subst hk
              rw [um_r _ (by omega), um_r _ (by omega), um_w, um_r _ (by omega), um_w, um_w]
              exact ⟨e4, esz.symm, eah.symm⟩
            · rw [um_r _ (by omega), um_r _ (by omega), um_r _ (by omega), um_r _ (by omega), um_r _ (by omega), um_r _ (by omega), um_r _ (by omega), um_r _ (by omega), um_r _ (by omega)]
              exact fk k k0 (by omega)
      · have ct := cT_sn (ln r l) p0 ht
        have nt2 : ∀ i, v4 ≤ i → i < v6 + 1 → ln r l i ≠ 124 := fun i a b => by
          by_cases hi : i = v6
          · rw [hi]; exact ht
          · exact nt i a (by omega)
        refine ⟨fun h46 => ⟨fun h5 => ⟨by omega, hrec _ _ _ _ _ ⟨by omega, by omega, e4, nt2, by omega, Or.inr ?_, fr, fo, fk⟩ (by omega)⟩, fun h5 => ⟨by omega, hrec _ _ _ _ _ ⟨by omega, by omega, e4, nt2, by omega, Or.inr ?_, fr, fo, fk⟩ (by omega)⟩⟩, fun h46 => ⟨by omega, hrec _ _ _ _ _ ⟨by omega, by omega, e4, nt2, by omega, ?_, fr, fo, fk⟩ (by omega)⟩⟩
        · rcases hp with ⟨-, hn⟩ | ⟨z, -⟩
          · exact ⟨le, by omega, h46, hn⟩
          · have := hcr.1
            have hb := (cell_rg hw hl hl2 (by omega : 0 ≤ v3) (by omega)).1
            omega
        · rcases hp with ⟨z, -⟩ | ⟨z1, z2, z3, z4⟩
          · exact absurd z h5
          · exact ⟨z1, by omega, z3, z4⟩
        · rcases hp with ⟨z, hn⟩ | ⟨z1, z2, z3, z4⟩
          · refine Or.inl ⟨z, fun i a b => ?_⟩
            by_cases hi : i = v6
            · rw [hi]; exact h46
            · exact hn i a (by omega)
          · exact Or.inr ⟨z1, by omega, z3, z4⟩
  · exact ⟨⟨Int.le_refl _, hs.1⟩, rfl, rfl, fun i a b => by omega, Int.le_refl _, Or.inl ⟨rfl, fun i a b => by omega⟩, fun _ _ _ _ => rfl, fun _ _ => ⟨rfl, rfl, rfl⟩, fun k a b => by omega⟩
