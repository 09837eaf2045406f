/-! ===== a word's number says which name it is ===== -/
theorem lt_six {tx : Int → Int} {f e C : Int} (hf : f < e) (hC : C ≠ 0) (h : lt' tx f e = C) : e - f ≤ 6 ∧ (∀ i, f ≤ i → i < e → 97 ≤ tx i ∧ tx i ≤ 122) ∧ lv tx f (e - f).toNat = C := by
  unfold lt' at h
  by_cases hc : e - f ≤ 6 ∧ ∀ i, f ≤ i → i < e → 97 ≤ tx i ∧ tx i ≤ 122
  · rw [if_pos hc] at h
    exact ⟨hc.1, hc.2, h⟩
  · rw [if_neg hc] at h
    exact absurd h.symm hC
theorem lv_1 (tx : Int → Int) (f : Int) : lv tx f 1 = tx (f + 0) - 96 := by
  show 27 * (0 : Int) + tx (f + 0) - 96 = _
  omega
theorem lv_2 (tx : Int → Int) (f : Int) : lv tx f 2 = 27 * (tx (f + 0) - 96) + tx (f + 1) - 96 := by
  show 27 * lv tx f 1 + tx (f + 1) - 96 = _
  rw [lv_1]
theorem lv_3 (tx : Int → Int) (f : Int) : lv tx f 3 = 729 * (tx (f + 0) - 96) + 27 * (tx (f + 1) - 96) + tx (f + 2) - 96 := by
  show 27 * lv tx f 2 + tx (f + 2) - 96 = _
  rw [lv_2]
  omega
theorem lv_4 (tx : Int → Int) (f : Int) : lv tx f 4 = 19683 * (tx (f + 0) - 96) + 729 * (tx (f + 1) - 96) + 27 * (tx (f + 2) - 96) + tx (f + 3) - 96 := by
  show 27 * lv tx f 3 + tx (f + 3) - 96 = _
  rw [lv_3]
  omega
theorem lv_5 (tx : Int → Int) (f : Int) : lv tx f 5 = 531441 * (tx (f + 0) - 96) + 19683 * (tx (f + 1) - 96) + 729 * (tx (f + 2) - 96) + 27 * (tx (f + 3) - 96) + tx (f + 4) - 96 := by
  show 27 * lv tx f 4 + tx (f + 4) - 96 = _
  rw [lv_4]
  omega
theorem lv_6 (tx : Int → Int) (f : Int) : lv tx f 6 = 14348907 * (tx (f + 0) - 96) + 531441 * (tx (f + 1) - 96) + 19683 * (tx (f + 2) - 96) + 729 * (tx (f + 3) - 96) + 27 * (tx (f + 4) - 96) + tx (f + 5) - 96 := by
  show 27 * lv tx f 5 + tx (f + 5) - 96 = _
  rw [lv_5]
  omega
theorem iw_0 {tx : Int → Int} {f e : Int} : isW tx f e 0 ↔ e - f = 4 ∧ tx (f + 0) = 108 ∧ tx (f + 1) = 101 ∧ tx (f + 2) = 102 ∧ tx (f + 3) = 116 := by
  constructor
  · rintro ⟨h1, h2⟩
    exact ⟨h1, (h2 0 (by decide) (by decide)).symm, (h2 1 (by decide) (by decide)).symm, (h2 2 (by decide) (by decide)).symm, (h2 3 (by decide) (by decide)).symm⟩
  · rintro ⟨h, h0, h1, h2, h3⟩
    refine ⟨h, fun i i0 i1 => ?_⟩
    have i2 : i < 4 := i1
    have hi : i = 0 ∨ i = 1 ∨ i = 2 ∨ i = 3 := by omega
    rcases hi with rfl | rfl | rfl | rfl
    · rw [h0]; decide
    · rw [h1]; decide
    · rw [h2]; decide
    · rw [h3]; decide
theorem cod_0 {tx : Int → Int} {f e : Int} (hf : f < e) : lt' tx f e = 240023 ↔ isW tx f e 0 := by
  rw [iw_0]
  constructor
  · intro h
    obtain ⟨h6, hl, hv⟩ := lt_six hf (by decide) h
    have b0 := hl (f + 0) (by omega)
    have b1 := hl (f + 1) (by omega)
    have b2 := hl (f + 2) (by omega)
    have b3 := hl (f + 3) (by omega)
    have b4 := hl (f + 4) (by omega)
    have b5 := hl (f + 5) (by omega)
    have hn : e - f = 1 ∨ e - f = 2 ∨ e - f = 3 ∨ e - f = 4 ∨ e - f = 5 ∨ e - f = 6 := by omega
    rcases hn with hn | hn | hn | hn | hn | hn
    · rw [show (e - f).toNat = 1 by omega, lv_1] at hv
      have := b0 (by omega)
      omega
    · rw [show (e - f).toNat = 2 by omega, lv_2] at hv
      have := b0 (by omega)
      have := b1 (by omega)
      omega
    · rw [show (e - f).toNat = 3 by omega, lv_3] at hv
      have := b0 (by omega)
      have := b1 (by omega)
      have := b2 (by omega)
      omega
    · rw [show (e - f).toNat = 4 by omega, lv_4] at hv
      have := b0 (by omega)
      have := b1 (by omega)
      have := b2 (by omega)
      have := b3 (by omega)
      refine ⟨hn, ?_, ?_, ?_, ?_⟩ <;> omega
    · rw [show (e - f).toNat = 5 by omega, lv_5] at hv
      have := b0 (by omega)
      have := b1 (by omega)
      have := b2 (by omega)
      have := b3 (by omega)
      have := b4 (by omega)
      omega
    · rw [show (e - f).toNat = 6 by omega, lv_6] at hv
      have := b0 (by omega)
      have := b1 (by omega)
      have := b2 (by omega)
      have := b3 (by omega)
      have := b4 (by omega)
      have := b5 (by omega)
      omega
  · rintro ⟨h, h0, h1, h2, h3⟩
    have hl : ∀ i, f ≤ i → i < e → 97 ≤ tx i ∧ tx i ≤ 122 := by
      intro i i0 i1
      have hi : i = f + 0 ∨ i = f + 1 ∨ i = f + 2 ∨ i = f + 3 := by omega
      rcases hi with rfl | rfl | rfl | rfl
      · omega
      · omega
      · omega
      · omega
    have e1 := lv_4 tx f
    rw [h0, h1, h2, h3] at e1
    unfold lt'
    rw [if_pos ⟨by omega, hl⟩, show (e - f).toNat = 4 by omega, e1]
    omega
theorem iw_1 {tx : Int → Int} {f e : Int} : isW tx f e 1 ↔ e - f = 5 ∧ tx (f + 0) = 114 ∧ tx (f + 1) = 105 ∧ tx (f + 2) = 103 ∧ tx (f + 3) = 104 ∧ tx (f + 4) = 116 := by
  constructor
  · rintro ⟨h1, h2⟩
    exact ⟨h1, (h2 0 (by decide) (by decide)).symm, (h2 1 (by decide) (by decide)).symm, (h2 2 (by decide) (by decide)).symm, (h2 3 (by decide) (by decide)).symm, (h2 4 (by decide) (by decide)).symm⟩
  · rintro ⟨h, h0, h1, h2, h3, h4⟩
    refine ⟨h, fun i i0 i1 => ?_⟩
    have i2 : i < 5 := i1
    have hi : i = 0 ∨ i = 1 ∨ i = 2 ∨ i = 3 ∨ i = 4 := by omega
    rcases hi with rfl | rfl | rfl | rfl | rfl
    · rw [h0]; decide
    · rw [h1]; decide
    · rw [h2]; decide
    · rw [h3]; decide
    · rw [h4]; decide
theorem cod_1 {tx : Int → Int} {f e : Int} (hf : f < e) : lt' tx f e = 9748424 ↔ isW tx f e 1 := by
  rw [iw_1]
  constructor
  · intro h
    obtain ⟨h6, hl, hv⟩ := lt_six hf (by decide) h
    have b0 := hl (f + 0) (by omega)
    have b1 := hl (f + 1) (by omega)
    have b2 := hl (f + 2) (by omega)
    have b3 := hl (f + 3) (by omega)
    have b4 := hl (f + 4) (by omega)
    have b5 := hl (f + 5) (by omega)
    have hn : e - f = 1 ∨ e - f = 2 ∨ e - f = 3 ∨ e - f = 4 ∨ e - f = 5 ∨ e - f = 6 := by omega
    rcases hn with hn | hn | hn | hn | hn | hn
    · rw [show (e - f).toNat = 1 by omega, lv_1] at hv
      have := b0 (by omega)
      omega
    · rw [show (e - f).toNat = 2 by omega, lv_2] at hv
      have := b0 (by omega)
      have := b1 (by omega)
      omega
    · rw [show (e - f).toNat = 3 by omega, lv_3] at hv
      have := b0 (by omega)
      have := b1 (by omega)
      have := b2 (by omega)
      omega
    · rw [show (e - f).toNat = 4 by omega, lv_4] at hv
      have := b0 (by omega)
      have := b1 (by omega)
      have := b2 (by omega)
      have := b3 (by omega)
      omega
    · rw [show (e - f).toNat = 5 by omega, lv_5] at hv
      have := b0 (by omega)
      have := b1 (by omega)
      have := b2 (by omega)
      have := b3 (by omega)
      have := b4 (by omega)
      refine ⟨hn, ?_, ?_, ?_, ?_, ?_⟩ <;> omega
    · rw [show (e - f).toNat = 6 by omega, lv_6] at hv
      have := b0 (by omega)
      have := b1 (by omega)
      have := b2 (by omega)
      have := b3 (by omega)
      have := b4 (by omega)
      have := b5 (by omega)
      omega
  · rintro ⟨h, h0, h1, h2, h3, h4⟩
    have hl : ∀ i, f ≤ i → i < e → 97 ≤ tx i ∧ tx i ≤ 122 := by
      intro i i0 i1
      have hi : i = f + 0 ∨ i = f + 1 ∨ i = f + 2 ∨ i = f + 3 ∨ i = f + 4 := by omega
      rcases hi with rfl | rfl | rfl | rfl | rfl
      · omega
      · omega
      · omega
      · omega
      · omega
    have e1 := lv_5 tx f
    rw [h0, h1, h2, h3, h4] at e1
    unfold lt'
    rw [if_pos ⟨by omega, hl⟩, show (e - f).toNat = 5 by omega, e1]
    omega
theorem iw_2 {tx : Int → Int} {f e : Int} : isW tx f e 2 ↔ e - f = 6 ∧ tx (f + 0) = 109 ∧ tx (f + 1) = 105 ∧ tx (f + 2) = 100 ∧ tx (f + 3) = 100 ∧ tx (f + 4) = 108 ∧ tx (f + 5) = 101 := by
  constructor
  · rintro ⟨h1, h2⟩
    exact ⟨h1, (h2 0 (by decide) (by decide)).symm, (h2 1 (by decide) (by decide)).symm, (h2 2 (by decide) (by decide)).symm, (h2 3 (by decide) (by decide)).symm, (h2 4 (by decide) (by decide)).symm, (h2 5 (by decide) (by decide)).symm⟩
  · rintro ⟨h, h0, h1, h2, h3, h4, h5⟩
    refine ⟨h, fun i i0 i1 => ?_⟩
    have i2 : i < 6 := i1
    have hi : i = 0 ∨ i = 1 ∨ i = 2 ∨ i = 3 ∨ i = 4 ∨ i = 5 := by omega
    rcases hi with rfl | rfl | rfl | rfl | rfl | rfl
    · rw [h0]; decide
    · rw [h1]; decide
    · rw [h2]; decide
    · rw [h3]; decide
    · rw [h4]; decide
    · rw [h5]; decide
theorem cod_2 {tx : Int → Int} {f e : Int} (hf : f < e) : lt' tx f e = 191400737 ↔ isW tx f e 2 := by
  rw [iw_2]
  constructor
  · intro h
    obtain ⟨h6, hl, hv⟩ := lt_six hf (by decide) h
    have b0 := hl (f + 0) (by omega)
    have b1 := hl (f + 1) (by omega)
    have b2 := hl (f + 2) (by omega)
    have b3 := hl (f + 3) (by omega)
    have b4 := hl (f + 4) (by omega)
    have b5 := hl (f + 5) (by omega)
    have hn : e - f = 1 ∨ e - f = 2 ∨ e - f = 3 ∨ e - f = 4 ∨ e - f = 5 ∨ e - f = 6 := by omega
    rcases hn with hn | hn | hn | hn | hn | hn
    · rw [show (e - f).toNat = 1 by omega, lv_1] at hv
      have := b0 (by omega)
      omega
    · rw [show (e - f).toNat = 2 by omega, lv_2] at hv
      have := b0 (by omega)
      have := b1 (by omega)
      omega
    · rw [show (e - f).toNat = 3 by omega, lv_3] at hv
      have := b0 (by omega)
      have := b1 (by omega)
      have := b2 (by omega)
      omega
    · rw [show (e - f).toNat = 4 by omega, lv_4] at hv
      have := b0 (by omega)
      have := b1 (by omega)
      have := b2 (by omega)
      have := b3 (by omega)
      omega
    · rw [show (e - f).toNat = 5 by omega, lv_5] at hv
      have := b0 (by omega)
      have := b1 (by omega)
      have := b2 (by omega)
      have := b3 (by omega)
      have := b4 (by omega)
      omega
    · rw [show (e - f).toNat = 6 by omega, lv_6] at hv
      have := b0 (by omega)
      have := b1 (by omega)
      have := b2 (by omega)
      have := b3 (by omega)
      have := b4 (by omega)
      have := b5 (by omega)
      refine ⟨hn, ?_, ?_, ?_, ?_, ?_, ?_⟩ <;> omega
  · rintro ⟨h, h0, h1, h2, h3, h4, h5⟩
    have hl : ∀ i, f ≤ i → i < e → 97 ≤ tx i ∧ tx i ≤ 122 := by
      intro i i0 i1
      have hi : i = f + 0 ∨ i = f + 1 ∨ i = f + 2 ∨ i = f + 3 ∨ i = f + 4 ∨ i = f + 5 := by omega
      rcases hi with rfl | rfl | rfl | rfl | rfl | rfl
      · omega
      · omega
      · omega
      · omega
      · omega
      · omega
    have e1 := lv_6 tx f
    rw [h0, h1, h2, h3, h4, h5] at e1
    unfold lt'
    rw [if_pos ⟨by omega, hl⟩, show (e - f).toNat = 6 by omega, e1]
    omega
theorem iw_3 {tx : Int → Int} {f e : Int} : isW tx f e 3 ↔ e - f = 5 ∧ tx (f + 0) = 112 ∧ tx (f + 1) = 111 ∧ tx (f + 2) = 105 ∧ tx (f + 3) = 110 ∧ tx (f + 4) = 116 := by
  constructor
  · rintro ⟨h1, h2⟩
    exact ⟨h1, (h2 0 (by decide) (by decide)).symm, (h2 1 (by decide) (by decide)).symm, (h2 2 (by decide) (by decide)).symm, (h2 3 (by decide) (by decide)).symm, (h2 4 (by decide) (by decide)).symm⟩
  · rintro ⟨h, h0, h1, h2, h3, h4⟩
    refine ⟨h, fun i i0 i1 => ?_⟩
    have i2 : i < 5 := i1
    have hi : i = 0 ∨ i = 1 ∨ i = 2 ∨ i = 3 ∨ i = 4 := by omega
    rcases hi with rfl | rfl | rfl | rfl | rfl
    · rw [h0]; decide
    · rw [h1]; decide
    · rw [h2]; decide
    · rw [h3]; decide
    · rw [h4]; decide
theorem cod_3 {tx : Int → Int} {f e : Int} (hf : f < e) : lt' tx f e = 8805260 ↔ isW tx f e 3 := by
  rw [iw_3]
  constructor
  · intro h
    obtain ⟨h6, hl, hv⟩ := lt_six hf (by decide) h
    have b0 := hl (f + 0) (by omega)
    have b1 := hl (f + 1) (by omega)
    have b2 := hl (f + 2) (by omega)
    have b3 := hl (f + 3) (by omega)
    have b4 := hl (f + 4) (by omega)
    have b5 := hl (f + 5) (by omega)
    have hn : e - f = 1 ∨ e - f = 2 ∨ e - f = 3 ∨ e - f = 4 ∨ e - f = 5 ∨ e - f = 6 := by omega
    rcases hn with hn | hn | hn | hn | hn | hn
    · rw [show (e - f).toNat = 1 by omega, lv_1] at hv
      have := b0 (by omega)
      omega
    · rw [show (e - f).toNat = 2 by omega, lv_2] at hv
      have := b0 (by omega)
      have := b1 (by omega)
      omega
    · rw [show (e - f).toNat = 3 by omega, lv_3] at hv
      have := b0 (by omega)
      have := b1 (by omega)
      have := b2 (by omega)
      omega
    · rw [show (e - f).toNat = 4 by omega, lv_4] at hv
      have := b0 (by omega)
      have := b1 (by omega)
      have := b2 (by omega)
      have := b3 (by omega)
      omega
    · rw [show (e - f).toNat = 5 by omega, lv_5] at hv
      have := b0 (by omega)
      have := b1 (by omega)
      have := b2 (by omega)
      have := b3 (by omega)
      have := b4 (by omega)
      refine ⟨hn, ?_, ?_, ?_, ?_, ?_⟩ <;> omega
    · rw [show (e - f).toNat = 6 by omega, lv_6] at hv
      have := b0 (by omega)
      have := b1 (by omega)
      have := b2 (by omega)
      have := b3 (by omega)
      have := b4 (by omega)
      have := b5 (by omega)
      omega
  · rintro ⟨h, h0, h1, h2, h3, h4⟩
    have hl : ∀ i, f ≤ i → i < e → 97 ≤ tx i ∧ tx i ≤ 122 := by
      intro i i0 i1
      have hi : i = f + 0 ∨ i = f + 1 ∨ i = f + 2 ∨ i = f + 3 ∨ i = f + 4 := by omega
      rcases hi with rfl | rfl | rfl | rfl | rfl
      · omega
      · omega
      · omega
      · omega
      · omega
    have e1 := lv_5 tx f
    rw [h0, h1, h2, h3, h4] at e1
    unfold lt'
    rw [if_pos ⟨by omega, hl⟩, show (e - f).toNat = 5 by omega, e1]
    omega
theorem iw_4 {tx : Int → Int} {f e : Int} : isW tx f e 4 ↔ e - f = 3 ∧ tx (f + 0) = 97 ∧ tx (f + 1) = 100 ∧ tx (f + 2) = 100 := by
  constructor
  · rintro ⟨h1, h2⟩
    exact ⟨h1, (h2 0 (by decide) (by decide)).symm, (h2 1 (by decide) (by decide)).symm, (h2 2 (by decide) (by decide)).symm⟩
  · rintro ⟨h, h0, h1, h2⟩
    refine ⟨h, fun i i0 i1 => ?_⟩
    have i2 : i < 3 := i1
    have hi : i = 0 ∨ i = 1 ∨ i = 2 := by omega
    rcases hi with rfl | rfl | rfl
    · rw [h0]; decide
    · rw [h1]; decide
    · rw [h2]; decide
theorem cod_4 {tx : Int → Int} {f e : Int} (hf : f < e) : lt' tx f e = 841 ↔ isW tx f e 4 := by
  rw [iw_4]
  constructor
  · intro h
    obtain ⟨h6, hl, hv⟩ := lt_six hf (by decide) h
    have b0 := hl (f + 0) (by omega)
    have b1 := hl (f + 1) (by omega)
    have b2 := hl (f + 2) (by omega)
    have b3 := hl (f + 3) (by omega)
    have b4 := hl (f + 4) (by omega)
    have b5 := hl (f + 5) (by omega)
    have hn : e - f = 1 ∨ e - f = 2 ∨ e - f = 3 ∨ e - f = 4 ∨ e - f = 5 ∨ e - f = 6 := by omega
    rcases hn with hn | hn | hn | hn | hn | hn
    · rw [show (e - f).toNat = 1 by omega, lv_1] at hv
      have := b0 (by omega)
      omega
    · rw [show (e - f).toNat = 2 by omega, lv_2] at hv
      have := b0 (by omega)
      have := b1 (by omega)
      omega
    · rw [show (e - f).toNat = 3 by omega, lv_3] at hv
      have := b0 (by omega)
      have := b1 (by omega)
      have := b2 (by omega)
      refine ⟨hn, ?_, ?_, ?_⟩ <;> omega
    · rw [show (e - f).toNat = 4 by omega, lv_4] at hv
      have := b0 (by omega)
      have := b1 (by omega)
      have := b2 (by omega)
      have := b3 (by omega)
      omega
    · rw [show (e - f).toNat = 5 by omega, lv_5] at hv
      have := b0 (by omega)
      have := b1 (by omega)
      have := b2 (by omega)
      have := b3 (by omega)
      have := b4 (by omega)
      omega
    · rw [show (e - f).toNat = 6 by omega, lv_6] at hv
      have := b0 (by omega)
      have := b1 (by omega)
      have := b2 (by omega)
      have := b3 (by omega)
      have := b4 (by omega)
      have := b5 (by omega)
      omega
  · rintro ⟨h, h0, h1, h2⟩
    have hl : ∀ i, f ≤ i → i < e → 97 ≤ tx i ∧ tx i ≤ 122 := by
      intro i i0 i1
      have hi : i = f + 0 ∨ i = f + 1 ∨ i = f + 2 := by omega
      rcases hi with rfl | rfl | rfl
      · omega
      · omega
      · omega
    have e1 := lv_3 tx f
    rw [h0, h1, h2] at e1
    unfold lt'
    rw [if_pos ⟨by omega, hl⟩, show (e - f).toNat = 3 by omega, e1]
    omega
theorem iw_5 {tx : Int → Int} {f e : Int} : isW tx f e 5 ↔ e - f = 4 ∧ tx (f + 0) = 100 ∧ tx (f + 1) = 114 ∧ tx (f + 2) = 111 ∧ tx (f + 3) = 112 := by
  constructor
  · rintro ⟨h1, h2⟩
    exact ⟨h1, (h2 0 (by decide) (by decide)).symm, (h2 1 (by decide) (by decide)).symm, (h2 2 (by decide) (by decide)).symm, (h2 3 (by decide) (by decide)).symm⟩
  · rintro ⟨h, h0, h1, h2, h3⟩
    refine ⟨h, fun i i0 i1 => ?_⟩
    have i2 : i < 4 := i1
    have hi : i = 0 ∨ i = 1 ∨ i = 2 ∨ i = 3 := by omega
    rcases hi with rfl | rfl | rfl | rfl
    · rw [h0]; decide
    · rw [h1]; decide
    · rw [h2]; decide
    · rw [h3]; decide
theorem cod_5 {tx : Int → Int} {f e : Int} (hf : f < e) : lt' tx f e = 92275 ↔ isW tx f e 5 := by
  rw [iw_5]
  constructor
  · intro h
    obtain ⟨h6, hl, hv⟩ := lt_six hf (by decide) h
    have b0 := hl (f + 0) (by omega)
    have b1 := hl (f + 1) (by omega)
    have b2 := hl (f + 2) (by omega)
    have b3 := hl (f + 3) (by omega)
    have b4 := hl (f + 4) (by omega)
    have b5 := hl (f + 5) (by omega)
    have hn : e - f = 1 ∨ e - f = 2 ∨ e - f = 3 ∨ e - f = 4 ∨ e - f = 5 ∨ e - f = 6 := by omega
    rcases hn with hn | hn | hn | hn | hn | hn
    · rw [show (e - f).toNat = 1 by omega, lv_1] at hv
      have := b0 (by omega)
      omega
    · rw [show (e - f).toNat = 2 by omega, lv_2] at hv
      have := b0 (by omega)
      have := b1 (by omega)
      omega
    · rw [show (e - f).toNat = 3 by omega, lv_3] at hv
      have := b0 (by omega)
      have := b1 (by omega)
      have := b2 (by omega)
      omega
    · rw [show (e - f).toNat = 4 by omega, lv_4] at hv
      have := b0 (by omega)
      have := b1 (by omega)
      have := b2 (by omega)
      have := b3 (by omega)
      refine ⟨hn, ?_, ?_, ?_, ?_⟩ <;> omega
    · rw [show (e - f).toNat = 5 by omega, lv_5] at hv
      have := b0 (by omega)
      have := b1 (by omega)
      have := b2 (by omega)
      have := b3 (by omega)
      have := b4 (by omega)
      omega
    · rw [show (e - f).toNat = 6 by omega, lv_6] at hv
      have := b0 (by omega)
      have := b1 (by omega)
      have := b2 (by omega)
      have := b3 (by omega)
      have := b4 (by omega)
      have := b5 (by omega)
      omega
  · rintro ⟨h, h0, h1, h2, h3⟩
    have hl : ∀ i, f ≤ i → i < e → 97 ≤ tx i ∧ tx i ≤ 122 := by
      intro i i0 i1
      have hi : i = f + 0 ∨ i = f + 1 ∨ i = f + 2 ∨ i = f + 3 := by omega
      rcases hi with rfl | rfl | rfl | rfl
      · omega
      · omega
      · omega
      · omega
    have e1 := lv_4 tx f
    rw [h0, h1, h2, h3] at e1
    unfold lt'
    rw [if_pos ⟨by omega, hl⟩, show (e - f).toNat = 4 by omega, e1]
    omega
theorem iw_6 {tx : Int → Int} {f e : Int} : isW tx f e 6 ↔ e - f = 5 ∧ tx (f + 0) = 115 ∧ tx (f + 1) = 112 ∧ tx (f + 2) = 108 ∧ tx (f + 3) = 105 ∧ tx (f + 4) = 116 := by
  constructor
  · rintro ⟨h1, h2⟩
    exact ⟨h1, (h2 0 (by decide) (by decide)).symm, (h2 1 (by decide) (by decide)).symm, (h2 2 (by decide) (by decide)).symm, (h2 3 (by decide) (by decide)).symm, (h2 4 (by decide) (by decide)).symm⟩
  · rintro ⟨h, h0, h1, h2, h3, h4⟩
    refine ⟨h, fun i i0 i1 => ?_⟩
    have i2 : i < 5 := i1
    have hi : i = 0 ∨ i = 1 ∨ i = 2 ∨ i = 3 ∨ i = 4 := by omega
    rcases hi with rfl | rfl | rfl | rfl | rfl
    · rw [h0]; decide
    · rw [h1]; decide
    · rw [h2]; decide
    · rw [h3]; decide
    · rw [h4]; decide
theorem cod_6 {tx : Int → Int} {f e : Int} (hf : f < e) : lt' tx f e = 10421318 ↔ isW tx f e 6 := by
  rw [iw_6]
  constructor
  · intro h
    obtain ⟨h6, hl, hv⟩ := lt_six hf (by decide) h
    have b0 := hl (f + 0) (by omega)
    have b1 := hl (f + 1) (by omega)
    have b2 := hl (f + 2) (by omega)
    have b3 := hl (f + 3) (by omega)
    have b4 := hl (f + 4) (by omega)
    have b5 := hl (f + 5) (by omega)
    have hn : e - f = 1 ∨ e - f = 2 ∨ e - f = 3 ∨ e - f = 4 ∨ e - f = 5 ∨ e - f = 6 := by omega
    rcases hn with hn | hn | hn | hn | hn | hn
    · rw [show (e - f).toNat = 1 by omega, lv_1] at hv
      have := b0 (by omega)
      omega
    · rw [show (e - f).toNat = 2 by omega, lv_2] at hv
      have := b0 (by omega)
      have := b1 (by omega)
      omega
    · rw [show (e - f).toNat = 3 by omega, lv_3] at hv
      have := b0 (by omega)
      have := b1 (by omega)
      have := b2 (by omega)
      omega
    · rw [show (e - f).toNat = 4 by omega, lv_4] at hv
      have := b0 (by omega)
      have := b1 (by omega)
      have := b2 (by omega)
      have := b3 (by omega)
      omega
    · rw [show (e - f).toNat = 5 by omega, lv_5] at hv
      have := b0 (by omega)
      have := b1 (by omega)
      have := b2 (by omega)
      have := b3 (by omega)
      have := b4 (by omega)
      refine ⟨hn, ?_, ?_, ?_, ?_, ?_⟩ <;> omega
    · rw [show (e - f).toNat = 6 by omega, lv_6] at hv
      have := b0 (by omega)
      have := b1 (by omega)
      have := b2 (by omega)
      have := b3 (by omega)
      have := b4 (by omega)
      have := b5 (by omega)
      omega
  · rintro ⟨h, h0, h1, h2, h3, h4⟩
    have hl : ∀ i, f ≤ i → i < e → 97 ≤ tx i ∧ tx i ≤ 122 := by
      intro i i0 i1
      have hi : i = f + 0 ∨ i = f + 1 ∨ i = f + 2 ∨ i = f + 3 ∨ i = f + 4 := by omega
      rcases hi with rfl | rfl | rfl | rfl | rfl
      · omega
      · omega
      · omega
      · omega
      · omega
    have e1 := lv_5 tx f
    rw [h0, h1, h2, h3, h4] at e1
    unfold lt'
    rw [if_pos ⟨by omega, hl⟩, show (e - f).toNat = 5 by omega, e1]
    omega
theorem iw_7 {tx : Int → Int} {f e : Int} : isW tx f e 7 ↔ e - f = 4 ∧ tx (f + 0) = 106 ∧ tx (f + 1) = 111 ∧ tx (f + 2) = 105 ∧ tx (f + 3) = 110 := by
  constructor
  · rintro ⟨h1, h2⟩
    exact ⟨h1, (h2 0 (by decide) (by decide)).symm, (h2 1 (by decide) (by decide)).symm, (h2 2 (by decide) (by decide)).symm, (h2 3 (by decide) (by decide)).symm⟩
  · rintro ⟨h, h0, h1, h2, h3⟩
    refine ⟨h, fun i i0 i1 => ?_⟩
    have i2 : i < 4 := i1
    have hi : i = 0 ∨ i = 1 ∨ i = 2 ∨ i = 3 := by omega
    rcases hi with rfl | rfl | rfl | rfl
    · rw [h0]; decide
    · rw [h1]; decide
    · rw [h2]; decide
    · rw [h3]; decide
theorem cod_7 {tx : Int → Int} {f e : Int} (hf : f < e) : lt' tx f e = 208022 ↔ isW tx f e 7 := by
  rw [iw_7]
  constructor
  · intro h
    obtain ⟨h6, hl, hv⟩ := lt_six hf (by decide) h
    have b0 := hl (f + 0) (by omega)
    have b1 := hl (f + 1) (by omega)
    have b2 := hl (f + 2) (by omega)
    have b3 := hl (f + 3) (by omega)
    have b4 := hl (f + 4) (by omega)
    have b5 := hl (f + 5) (by omega)
    have hn : e - f = 1 ∨ e - f = 2 ∨ e - f = 3 ∨ e - f = 4 ∨ e - f = 5 ∨ e - f = 6 := by omega
    rcases hn with hn | hn | hn | hn | hn | hn
    · rw [show (e - f).toNat = 1 by omega, lv_1] at hv
      have := b0 (by omega)
      omega
    · rw [show (e - f).toNat = 2 by omega, lv_2] at hv
      have := b0 (by omega)
      have := b1 (by omega)
      omega
    · rw [show (e - f).toNat = 3 by omega, lv_3] at hv
      have := b0 (by omega)
      have := b1 (by omega)
      have := b2 (by omega)
      omega
    · rw [show (e - f).toNat = 4 by omega, lv_4] at hv
      have := b0 (by omega)
      have := b1 (by omega)
      have := b2 (by omega)
      have := b3 (by omega)
      refine ⟨hn, ?_, ?_, ?_, ?_⟩ <;> omega
    · rw [show (e - f).toNat = 5 by omega, lv_5] at hv
      have := b0 (by omega)
      have := b1 (by omega)
      have := b2 (by omega)
      have := b3 (by omega)
      have := b4 (by omega)
      omega
    · rw [show (e - f).toNat = 6 by omega, lv_6] at hv
      have := b0 (by omega)
      have := b1 (by omega)
      have := b2 (by omega)
      have := b3 (by omega)
      have := b4 (by omega)
      have := b5 (by omega)
      omega
  · rintro ⟨h, h0, h1, h2, h3⟩
    have hl : ∀ i, f ≤ i → i < e → 97 ≤ tx i ∧ tx i ≤ 122 := by
      intro i i0 i1
      have hi : i = f + 0 ∨ i = f + 1 ∨ i = f + 2 ∨ i = f + 3 := by omega
      rcases hi with rfl | rfl | rfl | rfl
      · omega
      · omega
      · omega
      · omega
    have e1 := lv_4 tx f
    rw [h0, h1, h2, h3] at e1
    unfold lt'
    rw [if_pos ⟨by omega, hl⟩, show (e - f).toNat = 4 by omega, e1]
    omega
theorem iw_8 {tx : Int → Int} {f e : Int} : isW tx f e 8 ↔ e - f = 3 ∧ tx (f + 0) = 112 ∧ tx (f + 1) = 117 ∧ tx (f + 2) = 116 := by
  constructor
  · rintro ⟨h1, h2⟩
    exact ⟨h1, (h2 0 (by decide) (by decide)).symm, (h2 1 (by decide) (by decide)).symm, (h2 2 (by decide) (by decide)).symm⟩
  · rintro ⟨h, h0, h1, h2⟩
    refine ⟨h, fun i i0 i1 => ?_⟩
    have i2 : i < 3 := i1
    have hi : i = 0 ∨ i = 1 ∨ i = 2 := by omega
    rcases hi with rfl | rfl | rfl
    · rw [h0]; decide
    · rw [h1]; decide
    · rw [h2]; decide
theorem cod_8 {tx : Int → Int} {f e : Int} (hf : f < e) : lt' tx f e = 12251 ↔ isW tx f e 8 := by
  rw [iw_8]
  constructor
  · intro h
    obtain ⟨h6, hl, hv⟩ := lt_six hf (by decide) h
    have b0 := hl (f + 0) (by omega)
    have b1 := hl (f + 1) (by omega)
    have b2 := hl (f + 2) (by omega)
    have b3 := hl (f + 3) (by omega)
    have b4 := hl (f + 4) (by omega)
    have b5 := hl (f + 5) (by omega)
    have hn : e - f = 1 ∨ e - f = 2 ∨ e - f = 3 ∨ e - f = 4 ∨ e - f = 5 ∨ e - f = 6 := by omega
    rcases hn with hn | hn | hn | hn | hn | hn
    · rw [show (e - f).toNat = 1 by omega, lv_1] at hv
      have := b0 (by omega)
      omega
    · rw [show (e - f).toNat = 2 by omega, lv_2] at hv
      have := b0 (by omega)
      have := b1 (by omega)
      omega
    · rw [show (e - f).toNat = 3 by omega, lv_3] at hv
      have := b0 (by omega)
      have := b1 (by omega)
      have := b2 (by omega)
      refine ⟨hn, ?_, ?_, ?_⟩ <;> omega
    · rw [show (e - f).toNat = 4 by omega, lv_4] at hv
      have := b0 (by omega)
      have := b1 (by omega)
      have := b2 (by omega)
      have := b3 (by omega)
      omega
    · rw [show (e - f).toNat = 5 by omega, lv_5] at hv
      have := b0 (by omega)
      have := b1 (by omega)
      have := b2 (by omega)
      have := b3 (by omega)
      have := b4 (by omega)
      omega
    · rw [show (e - f).toNat = 6 by omega, lv_6] at hv
      have := b0 (by omega)
      have := b1 (by omega)
      have := b2 (by omega)
      have := b3 (by omega)
      have := b4 (by omega)
      have := b5 (by omega)
      omega
  · rintro ⟨h, h0, h1, h2⟩
    have hl : ∀ i, f ≤ i → i < e → 97 ≤ tx i ∧ tx i ≤ 122 := by
      intro i i0 i1
      have hi : i = f + 0 ∨ i = f + 1 ∨ i = f + 2 := by omega
      rcases hi with rfl | rfl | rfl
      · omega
      · omega
      · omega
    have e1 := lv_3 tx f
    rw [h0, h1, h2] at e1
    unfold lt'
    rw [if_pos ⟨by omega, hl⟩, show (e - f).toNat = 3 by omega, e1]
    omega
theorem iw_9 {tx : Int → Int} {f e : Int} : isW tx f e 9 ↔ e - f = 3 ∧ tx (f + 0) = 99 ∧ tx (f + 1) = 117 ∧ tx (f + 2) = 116 := by
  constructor
  · rintro ⟨h1, h2⟩
    exact ⟨h1, (h2 0 (by decide) (by decide)).symm, (h2 1 (by decide) (by decide)).symm, (h2 2 (by decide) (by decide)).symm⟩
  · rintro ⟨h, h0, h1, h2⟩
    refine ⟨h, fun i i0 i1 => ?_⟩
    have i2 : i < 3 := i1
    have hi : i = 0 ∨ i = 1 ∨ i = 2 := by omega
    rcases hi with rfl | rfl | rfl
    · rw [h0]; decide
    · rw [h1]; decide
    · rw [h2]; decide
theorem cod_9 {tx : Int → Int} {f e : Int} (hf : f < e) : lt' tx f e = 2774 ↔ isW tx f e 9 := by
  rw [iw_9]
  constructor
  · intro h
    obtain ⟨h6, hl, hv⟩ := lt_six hf (by decide) h
    have b0 := hl (f + 0) (by omega)
    have b1 := hl (f + 1) (by omega)
    have b2 := hl (f + 2) (by omega)
    have b3 := hl (f + 3) (by omega)
    have b4 := hl (f + 4) (by omega)
    have b5 := hl (f + 5) (by omega)
    have hn : e - f = 1 ∨ e - f = 2 ∨ e - f = 3 ∨ e - f = 4 ∨ e - f = 5 ∨ e - f = 6 := by omega
    rcases hn with hn | hn | hn | hn | hn | hn
    · rw [show (e - f).toNat = 1 by omega, lv_1] at hv
      have := b0 (by omega)
      omega
    · rw [show (e - f).toNat = 2 by omega, lv_2] at hv
      have := b0 (by omega)
      have := b1 (by omega)
      omega
    · rw [show (e - f).toNat = 3 by omega, lv_3] at hv
      have := b0 (by omega)
      have := b1 (by omega)
      have := b2 (by omega)
      refine ⟨hn, ?_, ?_, ?_⟩ <;> omega
    · rw [show (e - f).toNat = 4 by omega, lv_4] at hv
      have := b0 (by omega)
      have := b1 (by omega)
      have := b2 (by omega)
      have := b3 (by omega)
      omega
    · rw [show (e - f).toNat = 5 by omega, lv_5] at hv
      have := b0 (by omega)
      have := b1 (by omega)
      have := b2 (by omega)
      have := b3 (by omega)
      have := b4 (by omega)
      omega
    · rw [show (e - f).toNat = 6 by omega, lv_6] at hv
      have := b0 (by omega)
      have := b1 (by omega)
      have := b2 (by omega)
      have := b3 (by omega)
      have := b4 (by omega)
      have := b5 (by omega)
      omega
  · rintro ⟨h, h0, h1, h2⟩
    have hl : ∀ i, f ≤ i → i < e → 97 ≤ tx i ∧ tx i ≤ 122 := by
      intro i i0 i1
      have hi : i = f + 0 ∨ i = f + 1 ∨ i = f + 2 := by omega
      rcases hi with rfl | rfl | rfl
      · omega
      · omega
      · omega
    have e1 := lv_3 tx f
    rw [h0, h1, h2] at e1
    unfold lt'
    rw [if_pos ⟨by omega, hl⟩, show (e - f).toNat = 3 by omega, e1]
    omega
theorem iw_10 {tx : Int → Int} {f e : Int} : isW tx f e 10 ↔ e - f = 5 ∧ tx (f + 0) = 97 ∧ tx (f + 1) = 108 ∧ tx (f + 2) = 105 ∧ tx (f + 3) = 103 ∧ tx (f + 4) = 110 := by
  constructor
  · rintro ⟨h1, h2⟩
    exact ⟨h1, (h2 0 (by decide) (by decide)).symm, (h2 1 (by decide) (by decide)).symm, (h2 2 (by decide) (by decide)).symm, (h2 3 (by decide) (by decide)).symm, (h2 4 (by decide) (by decide)).symm⟩
  · rintro ⟨h, h0, h1, h2, h3, h4⟩
    refine ⟨h, fun i i0 i1 => ?_⟩
    have i2 : i < 5 := i1
    have hi : i = 0 ∨ i = 1 ∨ i = 2 ∨ i = 3 ∨ i = 4 := by omega
    rcases hi with rfl | rfl | rfl | rfl | rfl
    · rw [h0]; decide
    · rw [h1]; decide
    · rw [h2]; decide
    · rw [h3]; decide
    · rw [h4]; decide
theorem cod_10 {tx : Int → Int} {f e : Int} (hf : f < e) : lt' tx f e = 774401 ↔ isW tx f e 10 := by
  rw [iw_10]
  constructor
  · intro h
    obtain ⟨h6, hl, hv⟩ := lt_six hf (by decide) h
    have b0 := hl (f + 0) (by omega)
    have b1 := hl (f + 1) (by omega)
    have b2 := hl (f + 2) (by omega)
    have b3 := hl (f + 3) (by omega)
    have b4 := hl (f + 4) (by omega)
    have b5 := hl (f + 5) (by omega)
    have hn : e - f = 1 ∨ e - f = 2 ∨ e - f = 3 ∨ e - f = 4 ∨ e - f = 5 ∨ e - f = 6 := by omega
    rcases hn with hn | hn | hn | hn | hn | hn
    · rw [show (e - f).toNat = 1 by omega, lv_1] at hv
      have := b0 (by omega)
      omega
    · rw [show (e - f).toNat = 2 by omega, lv_2] at hv
      have := b0 (by omega)
      have := b1 (by omega)
      omega
    · rw [show (e - f).toNat = 3 by omega, lv_3] at hv
      have := b0 (by omega)
      have := b1 (by omega)
      have := b2 (by omega)
      omega
    · rw [show (e - f).toNat = 4 by omega, lv_4] at hv
      have := b0 (by omega)
      have := b1 (by omega)
      have := b2 (by omega)
      have := b3 (by omega)
      omega
    · rw [show (e - f).toNat = 5 by omega, lv_5] at hv
      have := b0 (by omega)
      have := b1 (by omega)
      have := b2 (by omega)
      have := b3 (by omega)
      have := b4 (by omega)
      refine ⟨hn, ?_, ?_, ?_, ?_, ?_⟩ <;> omega
    · rw [show (e - f).toNat = 6 by omega, lv_6] at hv
      have := b0 (by omega)
      have := b1 (by omega)
      have := b2 (by omega)
      have := b3 (by omega)
      have := b4 (by omega)
      have := b5 (by omega)
      omega
  · rintro ⟨h, h0, h1, h2, h3, h4⟩
    have hl : ∀ i, f ≤ i → i < e → 97 ≤ tx i ∧ tx i ≤ 122 := by
      intro i i0 i1
      have hi : i = f + 0 ∨ i = f + 1 ∨ i = f + 2 ∨ i = f + 3 ∨ i = f + 4 := by omega
      rcases hi with rfl | rfl | rfl | rfl | rfl
      · omega
      · omega
      · omega
      · omega
      · omega
    have e1 := lv_5 tx f
    rw [h0, h1, h2, h3, h4] at e1
    unfold lt'
    rw [if_pos ⟨by omega, hl⟩, show (e - f).toNat = 5 by omega, e1]
    omega
theorem iw_11 {tx : Int → Int} {f e : Int} : isW tx f e 11 ↔ e - f = 3 ∧ tx (f + 0) = 112 ∧ tx (f + 1) = 97 ∧ tx (f + 2) = 100 := by
  constructor
  · rintro ⟨h1, h2⟩
    exact ⟨h1, (h2 0 (by decide) (by decide)).symm, (h2 1 (by decide) (by decide)).symm, (h2 2 (by decide) (by decide)).symm⟩
  · rintro ⟨h, h0, h1, h2⟩
    refine ⟨h, fun i i0 i1 => ?_⟩
    have i2 : i < 3 := i1
    have hi : i = 0 ∨ i = 1 ∨ i = 2 := by omega
    rcases hi with rfl | rfl | rfl
    · rw [h0]; decide
    · rw [h1]; decide
    · rw [h2]; decide
theorem cod_11 {tx : Int → Int} {f e : Int} (hf : f < e) : lt' tx f e = 11695 ↔ isW tx f e 11 := by
  rw [iw_11]
  constructor
  · intro h
    obtain ⟨h6, hl, hv⟩ := lt_six hf (by decide) h
    have b0 := hl (f + 0) (by omega)
    have b1 := hl (f + 1) (by omega)
    have b2 := hl (f + 2) (by omega)
    have b3 := hl (f + 3) (by omega)
    have b4 := hl (f + 4) (by omega)
    have b5 := hl (f + 5) (by omega)
    have hn : e - f = 1 ∨ e - f = 2 ∨ e - f = 3 ∨ e - f = 4 ∨ e - f = 5 ∨ e - f = 6 := by omega
    rcases hn with hn | hn | hn | hn | hn | hn
    · rw [show (e - f).toNat = 1 by omega, lv_1] at hv
      have := b0 (by omega)
      omega
    · rw [show (e - f).toNat = 2 by omega, lv_2] at hv
      have := b0 (by omega)
      have := b1 (by omega)
      omega
    · rw [show (e - f).toNat = 3 by omega, lv_3] at hv
      have := b0 (by omega)
      have := b1 (by omega)
      have := b2 (by omega)
      refine ⟨hn, ?_, ?_, ?_⟩ <;> omega
    · rw [show (e - f).toNat = 4 by omega, lv_4] at hv
      have := b0 (by omega)
      have := b1 (by omega)
      have := b2 (by omega)
      have := b3 (by omega)
      omega
    · rw [show (e - f).toNat = 5 by omega, lv_5] at hv
      have := b0 (by omega)
      have := b1 (by omega)
      have := b2 (by omega)
      have := b3 (by omega)
      have := b4 (by omega)
      omega
    · rw [show (e - f).toNat = 6 by omega, lv_6] at hv
      have := b0 (by omega)
      have := b1 (by omega)
      have := b2 (by omega)
      have := b3 (by omega)
      have := b4 (by omega)
      have := b5 (by omega)
      omega
  · rintro ⟨h, h0, h1, h2⟩
    have hl : ∀ i, f ≤ i → i < e → 97 ≤ tx i ∧ tx i ≤ 122 := by
      intro i i0 i1
      have hi : i = f + 0 ∨ i = f + 1 ∨ i = f + 2 := by omega
      rcases hi with rfl | rfl | rfl
      · omega
      · omega
      · omega
    have e1 := lv_3 tx f
    rw [h0, h1, h2] at e1
    unfold lt'
    rw [if_pos ⟨by omega, hl⟩, show (e - f).toNat = 3 by omega, e1]
    omega
theorem iw_12 {tx : Int → Int} {f e : Int} : isW tx f e 12 ↔ e - f = 5 ∧ tx (f + 0) = 108 ∧ tx (f + 1) = 101 ∧ tx (f + 2) = 97 ∧ tx (f + 3) = 115 ∧ tx (f + 4) = 116 := by
  constructor
  · rintro ⟨h1, h2⟩
    exact ⟨h1, (h2 0 (by decide) (by decide)).symm, (h2 1 (by decide) (by decide)).symm, (h2 2 (by decide) (by decide)).symm, (h2 3 (by decide) (by decide)).symm, (h2 4 (by decide) (by decide)).symm⟩
  · rintro ⟨h, h0, h1, h2, h3, h4⟩
    refine ⟨h, fun i i0 i1 => ?_⟩
    have i2 : i < 5 := i1
    have hi : i = 0 ∨ i = 1 ∨ i = 2 ∨ i = 3 ∨ i = 4 := by omega
    rcases hi with rfl | rfl | rfl | rfl | rfl
    · rw [h0]; decide
    · rw [h1]; decide
    · rw [h2]; decide
    · rw [h3]; decide
    · rw [h4]; decide
theorem cod_12 {tx : Int → Int} {f e : Int} (hf : f < e) : lt' tx f e = 6476969 ↔ isW tx f e 12 := by
  rw [iw_12]
  constructor
  · intro h
    obtain ⟨h6, hl, hv⟩ := lt_six hf (by decide) h
    have b0 := hl (f + 0) (by omega)
    have b1 := hl (f + 1) (by omega)
    have b2 := hl (f + 2) (by omega)
    have b3 := hl (f + 3) (by omega)
    have b4 := hl (f + 4) (by omega)
    have b5 := hl (f + 5) (by omega)
    have hn : e - f = 1 ∨ e - f = 2 ∨ e - f = 3 ∨ e - f = 4 ∨ e - f = 5 ∨ e - f = 6 := by omega
    rcases hn with hn | hn | hn | hn | hn | hn
    · rw [show (e - f).toNat = 1 by omega, lv_1] at hv
      have := b0 (by omega)
      omega
    · rw [show (e - f).toNat = 2 by omega, lv_2] at hv
      have := b0 (by omega)
      have := b1 (by omega)
      omega
    · rw [show (e - f).toNat = 3 by omega, lv_3] at hv
      have := b0 (by omega)
      have := b1 (by omega)
      have := b2 (by omega)
      omega
    · rw [show (e - f).toNat = 4 by omega, lv_4] at hv
      have := b0 (by omega)
      have := b1 (by omega)
      have := b2 (by omega)
      have := b3 (by omega)
      omega
    · rw [show (e - f).toNat = 5 by omega, lv_5] at hv
      have := b0 (by omega)
      have := b1 (by omega)
      have := b2 (by omega)
      have := b3 (by omega)
      have := b4 (by omega)
      refine ⟨hn, ?_, ?_, ?_, ?_, ?_⟩ <;> omega
    · rw [show (e - f).toNat = 6 by omega, lv_6] at hv
      have := b0 (by omega)
      have := b1 (by omega)
      have := b2 (by omega)
      have := b3 (by omega)
      have := b4 (by omega)
      have := b5 (by omega)
      omega
  · rintro ⟨h, h0, h1, h2, h3, h4⟩
    have hl : ∀ i, f ≤ i → i < e → 97 ≤ tx i ∧ tx i ≤ 122 := by
      intro i i0 i1
      have hi : i = f + 0 ∨ i = f + 1 ∨ i = f + 2 ∨ i = f + 3 ∨ i = f + 4 := by omega
      rcases hi with rfl | rfl | rfl | rfl | rfl
      · omega
      · omega
      · omega
      · omega
      · omega
    have e1 := lv_5 tx f
    rw [h0, h1, h2, h3, h4] at e1
    unfold lt'
    rw [if_pos ⟨by omega, hl⟩, show (e - f).toNat = 5 by omega, e1]
    omega
theorem vb_0 {tx : Int → Int} {f e : Int} (h : isW tx f e 4) : vb tx f e = 0 := by
  unfold vb
  rw [wh_y h]
theorem vb_1 {tx : Int → Int} {f e : Int} (h0 : ¬ isW tx f e 4) (h : isW tx f e 5) : vb tx f e = 1 := by
  unfold vb
  rw [wh_n h0, wh_y h]
  rfl
theorem vb_2 {tx : Int → Int} {f e : Int} (h0 : ¬ isW tx f e 4) (h1 : ¬ isW tx f e 5) (h : isW tx f e 6) : vb tx f e = 2 := by
  unfold vb
  rw [wh_n h0, wh_n h1, wh_y h]
  rfl
theorem vb_3 {tx : Int → Int} {f e : Int} (h0 : ¬ isW tx f e 4) (h1 : ¬ isW tx f e 5) (h2 : ¬ isW tx f e 6) (h : isW tx f e 7) : vb tx f e = 3 := by
  unfold vb
  rw [wh_n h0, wh_n h1, wh_n h2, wh_y h]
  rfl
theorem vb_4 {tx : Int → Int} {f e : Int} (h0 : ¬ isW tx f e 4) (h1 : ¬ isW tx f e 5) (h2 : ¬ isW tx f e 6) (h3 : ¬ isW tx f e 7) (h : isW tx f e 8) : vb tx f e = 4 := by
  unfold vb
  rw [wh_n h0, wh_n h1, wh_n h2, wh_n h3, wh_y h]
  rfl
theorem vb_5 {tx : Int → Int} {f e : Int} (h0 : ¬ isW tx f e 4) (h1 : ¬ isW tx f e 5) (h2 : ¬ isW tx f e 6) (h3 : ¬ isW tx f e 7) (h4 : ¬ isW tx f e 8) (h : isW tx f e 9) : vb tx f e = 5 := by
  unfold vb
  rw [wh_n h0, wh_n h1, wh_n h2, wh_n h3, wh_n h4, wh_y h]
  rfl
theorem vb_6 {tx : Int → Int} {f e : Int} (h0 : ¬ isW tx f e 4) (h1 : ¬ isW tx f e 5) (h2 : ¬ isW tx f e 6) (h3 : ¬ isW tx f e 7) (h4 : ¬ isW tx f e 8) (h5 : ¬ isW tx f e 9) (h : isW tx f e 10) : vb tx f e = 6 := by
  unfold vb
  rw [wh_n h0, wh_n h1, wh_n h2, wh_n h3, wh_n h4, wh_n h5, wh_y h]
  rfl
theorem vb_7 {tx : Int → Int} {f e : Int} (h0 : ¬ isW tx f e 4) (h1 : ¬ isW tx f e 5) (h2 : ¬ isW tx f e 6) (h3 : ¬ isW tx f e 7) (h4 : ¬ isW tx f e 8) (h5 : ¬ isW tx f e 9) (h6 : ¬ isW tx f e 10) (h : isW tx f e 11) : vb tx f e = 7 := by
  unfold vb
  rw [wh_n h0, wh_n h1, wh_n h2, wh_n h3, wh_n h4, wh_n h5, wh_n h6, wh_y h]
  rfl
theorem vb_8 {tx : Int → Int} {f e : Int} (h0 : ¬ isW tx f e 4) (h1 : ¬ isW tx f e 5) (h2 : ¬ isW tx f e 6) (h3 : ¬ isW tx f e 7) (h4 : ¬ isW tx f e 8) (h5 : ¬ isW tx f e 9) (h6 : ¬ isW tx f e 10) (h7 : ¬ isW tx f e 11) (h : isW tx f e 12) : vb tx f e = 8 := by
  unfold vb
  rw [wh_n h0, wh_n h1, wh_n h2, wh_n h3, wh_n h4, wh_n h5, wh_n h6, wh_n h7, wh_y h]
  rfl
theorem vb_no {tx : Int → Int} {f e : Int} (h0 : ¬ isW tx f e 4) (h1 : ¬ isW tx f e 5) (h2 : ¬ isW tx f e 6) (h3 : ¬ isW tx f e 7) (h4 : ¬ isW tx f e 8) (h5 : ¬ isW tx f e 9) (h6 : ¬ isW tx f e 10) (h7 : ¬ isW tx f e 11) (h8 : ¬ isW tx f e 12) : vb tx f e = -9 := by
  unfold vb
  rw [wh_n h0, wh_n h1, wh_n h2, wh_n h3, wh_n h4, wh_n h5, wh_n h6, wh_n h7, wh_n h8]
  rfl
theorem wy_0 {tx : Int → Int} {f e : Int} (h : isW tx f e 0) : wy tx f e = 0 := by
  unfold wy
  rw [wh_y h]
theorem wy_1 {tx : Int → Int} {f e : Int} (h0 : ¬ isW tx f e 0) (h : isW tx f e 1) : wy tx f e = 1 := by
  unfold wy
  rw [wh_n h0, wh_y h]
  rfl
theorem wy_2 {tx : Int → Int} {f e : Int} (h0 : ¬ isW tx f e 0) (h1 : ¬ isW tx f e 1) (h : isW tx f e 2) : wy tx f e = 2 := by
  unfold wy
  rw [wh_n h0, wh_n h1, wh_y h]
  rfl
theorem wy_3 {tx : Int → Int} {f e : Int} (h0 : ¬ isW tx f e 0) (h1 : ¬ isW tx f e 1) (h2 : ¬ isW tx f e 2) (h : isW tx f e 3) : wy tx f e = 3 := by
  unfold wy
  rw [wh_n h0, wh_n h1, wh_n h2, wh_y h]
  rfl
theorem wy_no {tx : Int → Int} {f e : Int} (h0 : ¬ isW tx f e 0) (h1 : ¬ isW tx f e 1) (h2 : ¬ isW tx f e 2) (h3 : ¬ isW tx f e 3) : wy tx f e = -9 := by
  unfold wy
  rw [wh_n h0, wh_n h1, wh_n h2, wh_n h3]
  rfl
section CMD
variable {M : Mm} {m tn : Int} {tx : Int → Int}
theorem s7_command {Q : Int → Mm → Prop} {f e : Int} (hT : TM m M tn tx) (h10 : M m 10 = f) (h11 : M m 11 = e - f) (hf : 0 ≤ f ∧ f < e ∧ e ≤ tn) (hq : Q (vb tx f e) M) : PX7_command m M Q := by
  unfold PX7_command
  refine s7_letters hT h10 h11 hf ?_
  have hfe := hf.2.1
  refine ⟨fun z => ?_, fun z => ?_, fun z => ?_, fun z => ?_, fun z => ?_, fun z => ?_, fun z => ?_, fun z => ?_, fun z => ?_, fun z => ?_⟩
  · rw [vb_no (fun y => by have := (cod_4 hfe).2 y; omega) (fun y => by have := (cod_5 hfe).2 y; omega) (fun y => by have := (cod_6 hfe).2 y; omega) (fun y => by have := (cod_7 hfe).2 y; omega) (fun y => by have := (cod_8 hfe).2 y; omega) (fun y => by have := (cod_9 hfe).2 y; omega) (fun y => by have := (cod_10 hfe).2 y; omega) (fun y => by have := (cod_11 hfe).2 y; omega) (fun y => by have := (cod_12 hfe).2 y; omega)] at hq; exact hq
  · rw [vb_0  ((cod_4 hfe).1 z)] at hq; exact hq
  · rw [vb_5 (fun y => by have := (cod_4 hfe).2 y; omega) (fun y => by have := (cod_5 hfe).2 y; omega) (fun y => by have := (cod_6 hfe).2 y; omega) (fun y => by have := (cod_7 hfe).2 y; omega) (fun y => by have := (cod_8 hfe).2 y; omega) ((cod_9 hfe).1 z)] at hq; exact hq
  · rw [vb_7 (fun y => by have := (cod_4 hfe).2 y; omega) (fun y => by have := (cod_5 hfe).2 y; omega) (fun y => by have := (cod_6 hfe).2 y; omega) (fun y => by have := (cod_7 hfe).2 y; omega) (fun y => by have := (cod_8 hfe).2 y; omega) (fun y => by have := (cod_9 hfe).2 y; omega) (fun y => by have := (cod_10 hfe).2 y; omega) ((cod_11 hfe).1 z)] at hq; exact hq
  · rw [vb_4 (fun y => by have := (cod_4 hfe).2 y; omega) (fun y => by have := (cod_5 hfe).2 y; omega) (fun y => by have := (cod_6 hfe).2 y; omega) (fun y => by have := (cod_7 hfe).2 y; omega) ((cod_8 hfe).1 z)] at hq; exact hq
  · rw [vb_1 (fun y => by have := (cod_4 hfe).2 y; omega) ((cod_5 hfe).1 z)] at hq; exact hq
  · rw [vb_3 (fun y => by have := (cod_4 hfe).2 y; omega) (fun y => by have := (cod_5 hfe).2 y; omega) (fun y => by have := (cod_6 hfe).2 y; omega) ((cod_7 hfe).1 z)] at hq; exact hq
  · rw [vb_6 (fun y => by have := (cod_4 hfe).2 y; omega) (fun y => by have := (cod_5 hfe).2 y; omega) (fun y => by have := (cod_6 hfe).2 y; omega) (fun y => by have := (cod_7 hfe).2 y; omega) (fun y => by have := (cod_8 hfe).2 y; omega) (fun y => by have := (cod_9 hfe).2 y; omega) ((cod_10 hfe).1 z)] at hq; exact hq
  · rw [vb_8 (fun y => by have := (cod_4 hfe).2 y; omega) (fun y => by have := (cod_5 hfe).2 y; omega) (fun y => by have := (cod_6 hfe).2 y; omega) (fun y => by have := (cod_7 hfe).2 y; omega) (fun y => by have := (cod_8 hfe).2 y; omega) (fun y => by have := (cod_9 hfe).2 y; omega) (fun y => by have := (cod_10 hfe).2 y; omega) (fun y => by have := (cod_11 hfe).2 y; omega) ((cod_12 hfe).1 z)] at hq; exact hq
  · rw [vb_2 (fun y => by have := (cod_4 hfe).2 y; omega) (fun y => by have := (cod_5 hfe).2 y; omega) ((cod_6 hfe).1 z)] at hq; exact hq
theorem s7_way {Q : Int → Mm → Prop} {f e : Int} (hT : TM m M tn tx) (h10 : M m 10 = f) (h11 : M m 11 = e - f) (hf : 0 ≤ f ∧ f < e ∧ e ≤ tn) (hq : Q (wy tx f e) M) : PX7_way m M Q := by
  unfold PX7_way
  refine s7_letters hT h10 h11 hf ?_
  have hfe := hf.2.1
  refine ⟨fun z => ?_, fun z => ?_, fun z => ?_, fun z => ?_, fun z => ?_⟩
  · rw [wy_no (fun y => by have := (cod_0 hfe).2 y; omega) (fun y => by have := (cod_1 hfe).2 y; omega) (fun y => by have := (cod_2 hfe).2 y; omega) (fun y => by have := (cod_3 hfe).2 y; omega)] at hq; exact hq
  · rw [wy_0  ((cod_0 hfe).1 z)] at hq; exact hq
  · rw [wy_3 (fun y => by have := (cod_0 hfe).2 y; omega) (fun y => by have := (cod_1 hfe).2 y; omega) (fun y => by have := (cod_2 hfe).2 y; omega) ((cod_3 hfe).1 z)] at hq; exact hq
  · rw [wy_1 (fun y => by have := (cod_0 hfe).2 y; omega) ((cod_1 hfe).1 z)] at hq; exact hq
  · rw [wy_2 (fun y => by have := (cod_0 hfe).2 y; omega) (fun y => by have := (cod_1 hfe).2 y; omega) ((cod_2 hfe).1 z)] at hq; exact hq
end CMD
