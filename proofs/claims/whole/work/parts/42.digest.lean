def hf (v : Int → Int) : Nat → Int64 → Int64
  | 0, h => h
  | n + 1, h => 31 * hf v n h + (Int32.ofInt (v (n : Int))).toInt64
def hh (v : Int → Int) (n : Int) (h : Int64) : Int64 := hf v n.toNat h
theorem hh_0 (v : Int → Int) (h : Int64) : hh v 0 h = h := rfl
theorem hh_s (v : Int → Int) {n : Int} (hn : 0 ≤ n) (h : Int64) : hh v (n + 1) h = 31 * hh v n h + (Int32.ofInt (v n)).toInt64 := by
  obtain ⟨t, rfl⟩ := Int.eq_ofNat_of_zero_le hn
  rfl
theorem hh_cong {v w : Int → Int} {n : Int} (hn : 0 ≤ n) (he : ∀ i, 0 ≤ i → i < n → v i = w i) (h : Int64) : hh v n h = hh w n h := by
  obtain ⟨t, rfl⟩ := Int.eq_ofNat_of_zero_le hn
  induction t with
  | zero => rfl
  | succ t ih =>
    rw [show ((t + 1 : Nat) : Int) = (t : Int) + 1 by omega, hh_s v (by omega), hh_s w (by omega), ih (by omega) (fun i a b => he i a (by omega)), he t (by omega) (by omega)]
def hl (p : Int → Int) (l : Int) (h : Int64) : Int64 := hh (shv p l) (wde p l) (31 * h + (Int32.ofInt (wde p l)).toInt64)
def dgN (p : Int → Int) : Nat → Int64
  | 0 => 17
  | n + 1 => hl p (n : Int) (dgN p n)
def dg (p : Int → Int) (n : Int) : Int64 := dgN p n.toNat
theorem dg_s (p : Int → Int) {n : Int} (hn : 0 ≤ n) : dg p (n + 1) = hl p n (dg p n) := by
  obtain ⟨t, rfl⟩ := Int.eq_ofNat_of_zero_le hn
  rfl
theorem dg_cg {r q : Int → Int} (hw : WR r) (he : Eqv r q) {n : Int} (h0 : 0 ≤ n) (hn : n ≤ r 0) : dg r n = dg q n := by
  obtain ⟨t, rfl⟩ := Int.eq_ofNat_of_zero_le h0
  induction t with
  | zero => rfl
  | succ t ih =>
    rw [show ((t + 1 : Nat) : Int) = (t : Int) + 1 by omega, dg_s r (by omega), dg_s q (by omega), ih (by omega) (by omega)]
    have hwd := wde_rg hw (by omega : 0 ≤ (t : Int)) (by omega)
    unfold hl
    rw [← wde_cg hw he (by omega) (by omega)]
    exact hh_cong hwd.1 (fun i a b => shv_cg hw he (by omega) (by omega)) _
section DIG
variable {M : Mm} {m x : Int} {p : Int → Int} {Q : Int64 → Mm → Prop}
theorem s7_digest (hw : WR (M (m + 1))) (hq : Q (dg (M (m + 1)) (M (m + 1) 0)) M) : PX7_digest m M Q := by
  have hm := hw.1
  unfold PX7_digest
  refine lk_LI (fun u v => u = dg (M (m + 1)) v ∧ 0 ≤ v ∧ v ≤ M (m + 1) 0) (fun _ v => (M (m + 1) 0 - v).toNat) ?_ ⟨rfl, Int.le_refl _, hm.1⟩
  rintro rec u v ⟨rfl, a0, a1⟩ hrec
  unfold BX7_digest_6
  refine ⟨fun hx => by rw [show v = M (m + 1) 0 by omega]; exact hq, fun hx => ?_⟩
  have hv : v < M (m + 1) 0 := by omega
  have hwd := wde_rg hw a0 hv
  refine s7_wideOf hw a0 hv ?_
  refine lk_LI (fun u y => u = hh (shv (M (m + 1)) v) y (31 * dg (M (m + 1)) v + (Int32.ofInt (wde (M (m + 1)) v)).toInt64) ∧ 0 ≤ y ∧ y ≤ wde (M (m + 1)) v) (fun _ y => (wde (M (m + 1)) v - y).toNat) ?_ ⟨rfl, Int.le_refl _, hwd.1⟩
  rintro rec2 u y ⟨rfl, b0, b1⟩ hrec2
  unfold BX7_digest_39
  refine ⟨fun hy => ⟨by omega, hrec _ _ ⟨?_, by omega, by omega⟩ (by omega)⟩, fun hy => s7_shownAt hw a0 hv b0 (by omega) ⟨by omega, ?_⟩⟩
  · rw [dg_s _ a0, show y = wde (M (m + 1)) v by omega]; rfl
  · rw [← hh_s _ b0]
    exact hrec2 _ _ ⟨rfl, by omega, by omega⟩ (by omega)
theorem c_digest (h45 : Two M x) (hw : WR p) (he : Eqv (vw M (x + 1)) p) (hL : Laid (x + M x 4) p M) (hq : Q (dg p (p 0)) M) : PX6_digest x M Q := by
  have hm := hw.1
  unfold PX6_digest
  refine lk_LI (fun u v => u = dg p v ∧ 0 ≤ v ∧ v ≤ p 0) (fun _ v => (p 0 - v).toNat) ?_ ⟨rfl, Int.le_refl _, hm.1⟩
  rintro rec u v ⟨rfl, a0, a1⟩ hrec
  unfold BX6_digest_6
  rw [show M (x + 1) 0 = p 0 from he.1]
  refine ⟨fun hx => by rw [show v = p 0 by omega]; exact hq, fun hx => ⟨by omega, ?_⟩⟩
  have hv : v < p 0 := by omega
  have hwd := wde_rg hw a0 hv
  have hc := cel_rg hw a0 hv
  have hs := hw.2.1 v a0 hv
  have hg0 := bgn_rg hw a0 hv hc.1 (Int.le_refl _)
  have ht := cell_rg hw a0 hv hc.1 (Int.le_refl _)
  have et : en p v (cel p v) = p (3 + v) := frm_tail (ln p v) hs.1
  have ez : siz p v (cel p v) = en p v (cel p v) - beg p v (cel p v) := rfl
  have ew : wde p v = bgn p v (cel p v) + siz p v (cel p v) := rfl
  obtain ⟨⟨l1, l2, -⟩, l3, l4, l6⟩ := hL.2.2 v a0 hv
  rw [l4]
  generalize h0e : 31 * dg p v + (Int32.ofInt (wde p v)).toInt64 = H
  refine lk_LI (fun u k => u = hh (shv p v) (bgn p v k) H ∧ 0 ≤ k ∧ k ≤ cel p v) (fun _ k => (cel p v - k).toNat) ?_ ⟨rfl, Int.le_refl _, hc.1⟩
  rintro rec2 u k ⟨rfl, b0, b1⟩ hrec2
  unfold BX6_digest_37
  rw [l1]
  refine ⟨by omega, fun hk => ⟨by omega, ?_⟩, fun hk => ⟨by omega, ?_⟩⟩
  · rw [l2, show k = cel p v by omega]
    refine lk_LI (fun u t => u = hh (shv p v) (bgn p v (cel p v) + (t - beg p v (cel p v))) H ∧ beg p v (cel p v) ≤ t ∧ t ≤ p (3 + v)) (fun _ t => (p (3 + v) - t).toNat) ?_ ⟨by rw [show bgn p v (cel p v) + (beg p v (cel p v) - beg p v (cel p v)) = bgn p v (cel p v) by omega], Int.le_refl _, by omega⟩
    rintro rec3 u t ⟨rfl, c0, c1⟩ hrec3
    unfold BX6_digest_125 PX3_signAt
    rw [vc_sz hw he a0 hv]
    refine ⟨by omega, fun hy => ⟨by omega, hrec _ _ ⟨?_, by omega, by omega⟩ (by omega)⟩, fun hy => ⟨by omega, by omega, ?_⟩⟩
    · rw [dg_s _ a0]
      unfold hl
      rw [h0e, show t = p (3 + v) by omega, show bgn p v (cel p v) + (p (3 + v) - beg p v (cel p v)) = wde p v by omega]
    · have e := shv_tail (X := bgn p v (cel p v) + (t - beg p v (cel p v))) hw a0 hv (by omega) (by omega)
      rw [show beg p v (cel p v) + (bgn p v (cel p v) + (t - beg p v (cel p v)) - bgn p v (cel p v)) = t by omega] at e
      rw [vc_ln hw he a0 hv (by omega) (by omega), ← e, ← hh_s _ (by omega), show bgn p v (cel p v) + (t - beg p v (cel p v)) + 1 = bgn p v (cel p v) + (t + 1 - beg p v (cel p v)) by omega]
      exact hrec3 _ _ ⟨rfl, by omega, by omega⟩ (by omega)
  · have hk2 : k < cel p v := by omega
    have hg := bgn_rg hw a0 hv b0 b1
    have hwi := wid_rg hw a0 hv b0 hk2
    have hbs := bgn_s (r := p) (l := v) b0
    rw [(l6 k b0 hk2).1]
    refine lk_LI (fun u y => u = hh (shv p v) (bgn p v k + y) H ∧ 0 ≤ y ∧ y ≤ wid p v k) (fun _ y => (wid p v k - y).toNat) ?_ ⟨by rw [show bgn p v k + 0 = bgn p v k by omega], Int.le_refl _, hwi.1⟩
    rintro rec3 u y ⟨rfl, c0, c1⟩ hrec3
    unfold BX6_digest_71
    refine ⟨fun hy => ⟨by omega, hrec2 _ _ ⟨?_, by omega, by omega⟩ (by omega)⟩, fun hy => s2_shownIn he hw hL a0 hv b0 hk2 (by omega) ⟨by omega, ?_⟩⟩
    · rw [hbs, show y = wid p v k by omega]
    · have e := shv_cell (X := bgn p v k + y) hw a0 hv b0 hk2 (by omega) (by omega)
      rw [show bgn p v k + y - bgn p v k = y by omega] at e
      rw [← e, ← hh_s _ (by omega), show bgn p v k + y + 1 = bgn p v k + (y + 1) by omega]
      exact hrec3 _ _ ⟨rfl, by omega, by omega⟩ (by omega)
theorem i_digest (hI : Inv x M) : PX6_digest x M (fun r M1 => PX7_digest (x + 168) M1 (fun r2 M2 => r = r2 ∧ Inv x M2)) := by
  obtain ⟨p, n, ps, c, ⟨h45, hw, he, -, -, hL⟩, ⟨-, hm, -⟩, -⟩ := id hI
  have hb := hw.1
  have hwm := hm.sy.wr hw
  have em := hm.1
  refine c_digest h45 hw he hL (s7_digest hwm ⟨?_, hI⟩)
  rw [em]
  exact (dg_cg hwm hm hb.1 (by omega)).symm
end DIG
