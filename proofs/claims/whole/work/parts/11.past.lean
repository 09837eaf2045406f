abbrev rmX4_slot : Room := { frames := 0, cells := 0, slots := 0, locals := 0 }
def PX4_slot (v0 : Int) (v1 : Int) (M : Mm) (Q : Int → Mm → Prop) : Prop :=
  ((0 ≤ ((M v0 1) + v1) ∧ ((M v0 1) + v1) < 2147483648) ∧
  (inR (((M v0 1) + v1) % 10) ∧
  Q (((M v0 1) + v1) % 10) M))
set_option maxHeartbeats 4000000 in
set_option maxRecDepth 100000 in
theorem ctX4_slot {l : Launch} {G : GG} (hG : Gd G) {v0 : Int} {v1 : Int} {M : Mm} {Q : Int → Mm → Prop} (k0 : gK G v0 = (4, 0)) (r1 : inR v1) (h : PX4_slot v0 v1 M Q) : Met l yX4_slot (Cond.code yX4_slot cX4_slot 2 ((some FieldType.int)) :: tw) rmX4_slot (Pre G M [rV (v0), iV (v1)]) (PostI G Q) 0 0 (gA G) := by
  refine met_of (own := RX4) (by decide) rfl hG (Nat.le_of_ble_eq_true rfl) (fun p e s m below meth c X => ?_)
  generalize hargs : ([rV (v0), iV (v1)] : List Value).toArray = args at X ⊢
  show Wt p l e rmX4_slot s m args below meth c G (MQ below (PostI G Q) args s 0 0 (gA G)) 2 M [(0, rV (v0)), (1, iV (v1))] 0 []
  unfold PX4_slot at h
  refine xt_al X dX4_slot_0 rfl 0 rfl ?_
  refine gfX4_18 X k0 dX4_slot_1 (fun r_1 => ?_)
  refine xt_il X dX4_slot_4 rfl 1 rfl ?_
  refine xt_add X dX4_slot_5 ?_
  refine xt_bi X dX4_slot_6 (by decide) ?_
  obtain ⟨g_2, h⟩ := h
  refine xt_rem X g_2 (by decide) dX4_slot_8 ?_
  obtain ⟨g_3, h⟩ := h
  exact xt_iret X g_3 h dX4_slot_9
abbrev rmX4_remember : Room := { frames := 2, cells := 0, slots := 0, locals := 61 }
def JX4_remember_28  (Q : Mm → Prop) (v0 : Int) (v1 : Int) (M : Mm) : Prop :=
  (PX4_slot v0 (M v0 0) M (fun z_3 M_4 =>
  ((0 ≤ z_3 ∧ z_3 < 10) ∧
  (PX3_copyFrom ((v0 + 1) + 1 + 4 * z_3) v1 M_4 (fun M_7 =>
  (inR ((M_7 v0 0) + 1) ∧
  (∀ M_9 : Mm, M_9 = um M_7 v0 0 ((M_7 v0 0) + 1) →
  Q M_9)))))))
def PX4_remember (v0 : Int) (v1 : Int) (M : Mm) (Q : Mm → Prop) : Prop :=
  (((M v0 0) = 10 → (PX4_slot v0 1 M (fun z_11 M_12 =>
  (∀ M_13 : Mm, M_13 = um M_12 v0 1 z_11 →
  (inR ((M_13 v0 0) - 1) ∧
  (∀ M_15 : Mm, M_15 = um M_13 v0 0 ((M_13 v0 0) - 1) →
  JX4_remember_28  Q v0 v1 M_15)))))) ∧
  (¬ (M v0 0) = 10 → JX4_remember_28  Q v0 v1 M))
set_option maxHeartbeats 4000000 in
set_option maxRecDepth 100000 in
theorem jX4_remember_28 {p : Program} {l : Launch} {e : Env} {s : State} {m : MethodId} {args : Array Value} {below : List Frame} {meth : Method} {c : Code} {G : GG} (X : Cx p s m args meth c cX4_remember 2 (none) RX4 G) {Q : Mm → Prop}  {v0 : Int} {v1 : Int}  (k0 : gK G v0 = (4, 0)) (k1 : gK G v1 = (3, 0)) {M : Mm} (h : JX4_remember_28  Q v0 v1 M) : Wt p l e rmX4_remember s m args below meth c G (MQ below (PostV G Q) args s 0 0 (gA G)) 2 M [(0, rV (v0)), (1, rV (v1))] 28 [] := by
  have hG := X.2.2.2.2.2.2.2.2
  unfold JX4_remember_28 at h
  refine xt_al X dX4_remember_28 rfl 0 rfl ?_
  refine gfX4_11 X k0 dX4_remember_29 ?_
  refine xt_al X dX4_remember_32 rfl 0 rfl ?_
  refine xt_al X dX4_remember_33 rfl 0 rfl ?_
  refine gfX4_22 X k0 dX4_remember_34 (fun r_2 => ?_)
  refine xt_cVI X [iV (M v0 0)] [rV (v0 + 1)] (ctX4_slot hG k0 r_2 h) gdX4_25 pdX4_slot ⟨rfl, rfl⟩ ⟨Nat.le_of_ble_eq_true rfl, Nat.le_of_ble_eq_true rfl⟩ rfl (k_lt k0 (by decide)) (by rw [k0]; rfl) rfl (Nat.le_of_ble_eq_true rfl) dX4_remember_37 (fun z_3 M_4 z_3r h => ?_)
  obtain ⟨g_5, h⟩ := h
  refine xt_ald11 X (kd_X4_2 hG k0) g_5 dX4_remember_40 ?_
  refine xt_al X dX4_remember_41 rfl 1 rfl ?_
  refine xt_cVV X [rV (v1)] [] (ctX3_copyFrom hG (kd_a11 hG (kd_X4_2 hG k0) g_5) k1 h) gdX4_29 pdX3_copyFrom ⟨rfl, rfl⟩ ⟨Nat.le_of_ble_eq_true rfl, Nat.le_of_ble_eq_true rfl⟩ rfl (k_lt (kd_a11 hG (kd_X4_2 hG k0) g_5) (by decide)) (by rw [(kd_a11 hG (kd_X4_2 hG k0) g_5)]; rfl) rfl (Nat.le_of_ble_eq_true rfl) dX4_remember_42 (fun M_7 h => ?_)
  refine xt_al X dX4_remember_45 rfl 0 rfl ?_
  refine xt_dup X rfl dX4_remember_46 ?_
  refine gfX4_22 X k0 dX4_remember_47 (fun r_8 => ?_)
  refine xt_ic X dX4_remember_50 ?_
  refine xt_add X dX4_remember_51 ?_
  obtain ⟨g_10, h⟩ := h
  refine pfX4_22 X k0 g_10 dX4_remember_52 (fun M_9 hm => ?_)
  have h := h M_9 hm
  exact xt_vret X h dX4_remember_55
set_option maxHeartbeats 4000000 in
set_option maxRecDepth 100000 in
theorem ctX4_remember {l : Launch} {G : GG} (hG : Gd G) {v0 : Int} {v1 : Int} {M : Mm} {Q : Mm → Prop} (k0 : gK G v0 = (4, 0)) (k1 : gK G v1 = (3, 0)) (h : PX4_remember v0 v1 M Q) : Met l yX4_remember (Cond.code yX4_remember cX4_remember 2 (none) :: tw) rmX4_remember (Pre G M [rV (v0), rV (v1)]) (PostV G Q) 0 0 (gA G) := by
  refine met_of (own := RX4) (by decide) rfl hG (Nat.le_of_ble_eq_true rfl) (fun p e s m below meth c X => ?_)
  generalize hargs : ([rV (v0), rV (v1)] : List Value).toArray = args at X ⊢
  show Wt p l e rmX4_remember s m args below meth c G (MQ below (PostV G Q) args s 0 0 (gA G)) 2 M [(0, rV (v0)), (1, rV (v1))] 0 []
  unfold PX4_remember at h
  refine xt_al X dX4_remember_0 rfl 0 rfl ?_
  refine gfX4_22 X k0 dX4_remember_1 (fun r_1 => ?_)
  refine xt_bi X dX4_remember_4 (by decide) ?_
  refine xt_cne (tgt := 28) X r_1 (i_rc 10 rfl) dX4_remember_6 (by decide) (fun hc => ?_) (fun hc => ?_)
  · have h := h.2 hc
    exact jX4_remember_28 X  k0 k1 h
  · have h := h.1 hc
    refine xt_al X dX4_remember_9 rfl 0 rfl ?_
    refine xt_al X dX4_remember_10 rfl 0 rfl ?_
    refine xt_ic X dX4_remember_11 ?_
    refine xt_cVI X [iV (1)] [rV (v0)] (ctX4_slot hG k0 (i_rc 1 rfl) h) gdX4_25 pdX4_slot ⟨rfl, rfl⟩ ⟨Nat.le_of_ble_eq_true rfl, Nat.le_of_ble_eq_true rfl⟩ rfl (k_lt k0 (by decide)) (by rw [k0]; rfl) rfl (Nat.le_of_ble_eq_true rfl) dX4_remember_12 (fun z_11 M_12 z_11r h => ?_)
    refine pfX4_18 X k0 z_11r dX4_remember_15 (fun M_13 hm => ?_)
    have h := h M_13 hm
    refine xt_al X dX4_remember_18 rfl 0 rfl ?_
    refine xt_dup X rfl dX4_remember_19 ?_
    refine gfX4_22 X k0 dX4_remember_20 (fun r_14 => ?_)
    refine xt_ic X dX4_remember_23 ?_
    refine xt_sub X dX4_remember_24 ?_
    obtain ⟨g_16, h⟩ := h
    refine pfX4_22 X k0 g_16 dX4_remember_25 (fun M_15 hm => ?_)
    have h := h M_15 hm
    exact jX4_remember_28 X  k0 k1 h
abbrev rmX4_latest : Room := { frames := 1, cells := 0, slots := 0, locals := 21 }
def PX4_latest (v0 : Int) (M : Mm) (Q : Int → Mm → Prop) : Prop :=
  (((M v0 0) = 0 → (PX4_slot v0 0 M (fun z_7 M_8 =>
  ((0 ≤ z_7 ∧ z_7 < 10) ∧
  Q ((v0 + 1) + 1 + 4 * z_7) M_8)))) ∧
  (¬ (M v0 0) = 0 → (inR ((M v0 0) - 1) ∧
  (PX4_slot v0 ((M v0 0) - 1) M (fun z_4 M_5 =>
  ((0 ≤ z_4 ∧ z_4 < 10) ∧
  Q ((v0 + 1) + 1 + 4 * z_4) M_5))))))
set_option maxHeartbeats 4000000 in
set_option maxRecDepth 100000 in
theorem ctX4_latest {l : Launch} {G : GG} (hG : Gd G) {v0 : Int} {M : Mm} {Q : Int → Mm → Prop} (k0 : gK G v0 = (4, 0)) (h : PX4_latest v0 M Q) : Met l yX4_latest (Cond.code yX4_latest cX4_latest 1 ((some (FieldType.object "ElasticTabs$Page"))) :: tw) rmX4_latest (Pre G M [rV (v0)]) (PostR G (3, 0) Q) 0 0 (gA G) := by
  refine met_of (own := RX4) (by decide) rfl hG (Nat.le_of_ble_eq_true rfl) (fun p e s m below meth c X => ?_)
  generalize hargs : ([rV (v0)] : List Value).toArray = args at X ⊢
  show Wt p l e rmX4_latest s m args below meth c G (MQ below (PostR G (3, 0) Q) args s 0 0 (gA G)) 1 M [(0, rV (v0))] 0 []
  unfold PX4_latest at h
  refine xt_al X dX4_latest_0 rfl 0 rfl ?_
  refine gfX4_11 X k0 dX4_latest_1 ?_
  refine xt_al X dX4_latest_4 rfl 0 rfl ?_
  refine xt_al X dX4_latest_5 rfl 0 rfl ?_
  refine gfX4_22 X k0 dX4_latest_6 (fun r_1 => ?_)
  refine xt_zne (tgt := 16) X r_1 dX4_latest_9 (by decide) (fun hc => ?_) (fun hc => ?_)
  · have h := h.2 hc
    refine xt_al X dX4_latest_16 rfl 0 rfl ?_
    refine gfX4_22 X k0 dX4_latest_17 (fun r_2 => ?_)
    refine xt_ic X dX4_latest_20 ?_
    refine xt_sub X dX4_latest_21 ?_
    obtain ⟨g_3, h⟩ := h
    refine xt_cVI X [iV ((M v0 0) - 1)] [rV (v0 + 1)] (ctX4_slot hG k0 g_3 h) gdX4_25 pdX4_slot ⟨rfl, rfl⟩ ⟨Nat.le_of_ble_eq_true rfl, Nat.le_of_ble_eq_true rfl⟩ rfl (k_lt k0 (by decide)) (by rw [k0]; rfl) rfl (Nat.le_of_ble_eq_true rfl) dX4_latest_22 (fun z_4 M_5 z_4r h => ?_)
    obtain ⟨g_6, h⟩ := h
    refine xt_ald11 X (kd_X4_2 hG k0) g_6 dX4_latest_25 ?_
    exact xt_aret X (kd_a11 hG (kd_X4_2 hG k0) g_6) h dX4_latest_26
  · have h := h.1 hc
    refine xt_ic X dX4_latest_12 ?_
    refine xt_goto (tgt := 22) X dX4_latest_13 (by decide) ?_
    refine xt_cVI X [iV (0)] [rV (v0 + 1)] (ctX4_slot hG k0 (i_rc 0 rfl) h) gdX4_25 pdX4_slot ⟨rfl, rfl⟩ ⟨Nat.le_of_ble_eq_true rfl, Nat.le_of_ble_eq_true rfl⟩ rfl (k_lt k0 (by decide)) (by rw [k0]; rfl) rfl (Nat.le_of_ble_eq_true rfl) dX4_latest_22 (fun z_7 M_8 z_7r h => ?_)
    obtain ⟨g_9, h⟩ := h
    refine xt_ald11 X (kd_X4_2 hG k0) g_9 dX4_latest_25 ?_
    exact xt_aret X (kd_a11 hG (kd_X4_2 hG k0) g_9) h dX4_latest_26
abbrev rmX4_forgetLatest : Room := { frames := 0, cells := 0, slots := 0, locals := 0 }
def PX4_forgetLatest (v0 : Int) (M : Mm) (Q : Mm → Prop) : Prop :=
  (((M v0 0) ≤ 0 → Q M) ∧
  (¬ (M v0 0) ≤ 0 → (inR ((M v0 0) - 1) ∧
  (∀ M_3 : Mm, M_3 = um M v0 0 ((M v0 0) - 1) →
  Q M_3))))
set_option maxHeartbeats 4000000 in
set_option maxRecDepth 100000 in
theorem ctX4_forgetLatest {l : Launch} {G : GG} (hG : Gd G) {v0 : Int} {M : Mm} {Q : Mm → Prop} (k0 : gK G v0 = (4, 0)) (h : PX4_forgetLatest v0 M Q) : Met l yX4_forgetLatest (Cond.code yX4_forgetLatest cX4_forgetLatest 1 (none) :: tw) rmX4_forgetLatest (Pre G M [rV (v0)]) (PostV G Q) 0 0 (gA G) := by
  refine met_of (own := RX4) (by decide) rfl hG (Nat.le_of_ble_eq_true rfl) (fun p e s m below meth c X => ?_)
  generalize hargs : ([rV (v0)] : List Value).toArray = args at X ⊢
  show Wt p l e rmX4_forgetLatest s m args below meth c G (MQ below (PostV G Q) args s 0 0 (gA G)) 1 M [(0, rV (v0))] 0 []
  unfold PX4_forgetLatest at h
  refine xt_al X dX4_forgetLatest_0 rfl 0 rfl ?_
  refine gfX4_22 X k0 dX4_forgetLatest_1 (fun r_1 => ?_)
  refine xt_zle (tgt := 17) X r_1 dX4_forgetLatest_4 (by decide) (fun hc => ?_) (fun hc => ?_)
  · have h := h.1 hc
    exact xt_vret X h dX4_forgetLatest_17
  · have h := h.2 hc
    refine xt_al X dX4_forgetLatest_7 rfl 0 rfl ?_
    refine xt_dup X rfl dX4_forgetLatest_8 ?_
    refine gfX4_22 X k0 dX4_forgetLatest_9 (fun r_2 => ?_)
    refine xt_ic X dX4_forgetLatest_12 ?_
    refine xt_sub X dX4_forgetLatest_13 ?_
    obtain ⟨g_4, h⟩ := h
    refine pfX4_22 X k0 g_4 dX4_forgetLatest_14 (fun M_3 hm => ?_)
    have h := h M_3 hm
    exact xt_vret X h dX4_forgetLatest_17
abbrev rmX4_copyFrom : Room := { frames := 2, cells := 0, slots := 0, locals := 61 }
def BX4_copyFrom_18  (Q : Mm → Prop) (v0 : Int) (v1 : Int) (rec : Int → Mm → Prop) (v2 : Int) (M : Mm) : Prop :=
  (((M v0 0) ≤ v2 → Q M) ∧
  (¬ (M v0 0) ≤ v2 → (PX4_slot v0 v2 M (fun z_6 M_7 =>
  ((0 ≤ z_6 ∧ z_6 < 10) ∧
  (PX4_slot v0 v2 M_7 (fun z_9 M_10 =>
  ((0 ≤ z_9 ∧ z_9 < 10) ∧
  (PX3_copyFrom ((v0 + 1) + 1 + 4 * z_6) ((v1 + 1) + 1 + 4 * z_9) M_10 (fun M_13 =>
  (inR (v2 + 1) ∧
  rec (v2 + 1) M_13)))))))))))
def PX4_copyFrom (v0 : Int) (v1 : Int) (M : Mm) (Q : Mm → Prop) : Prop :=
  (∀ M_2 : Mm, M_2 = um M v0 0 (M v1 0) →
  (∀ M_4 : Mm, M_4 = um M_2 v0 1 (M_2 v1 1) →
  ∃ n_15 : Nat, lp_I (BX4_copyFrom_18  Q v0 v1) n_15 0 M_4))
set_option maxHeartbeats 4000000 in
set_option maxRecDepth 100000 in
theorem wX4_copyFrom_18 {p : Program} {l : Launch} {e : Env} {s : State} {m : MethodId} {args : Array Value} {below : List Frame} {meth : Method} {c : Code} {G : GG} (X : Cx p s m args meth c cX4_copyFrom 3 (none) RX4 G) {Q : Mm → Prop}  {v0 : Int} {v1 : Int} (k0 : gK G v0 = (4, 0)) (k1 : gK G v1 = (4, 0))  : ∀ (n : Nat) (v2 : Int) (M : Mm), inR v2 → lp_I (BX4_copyFrom_18  Q v0 v1) n v2 M → Wt p l e rmX4_copyFrom s m args below meth c G (MQ below (PostV G Q) args s 0 0 (gA G)) 3 M [(0, rV (v0)), (1, rV (v1)), (2, iV (v2))] 18 [] := by
  have hG := X.2.2.2.2.2.2.2.2
  intro n
  induction n with
  | zero => intro v2 M r2 h; exact h.elim
  | succ n ih =>
    intro v2 M r2 h
    have h : BX4_copyFrom_18  Q v0 v1 (lp_I (BX4_copyFrom_18  Q v0 v1) n) v2 M := h
    unfold BX4_copyFrom_18 at h
    refine xt_il X dX4_copyFrom_18 rfl 2 rfl ?_
    refine xt_al X dX4_copyFrom_19 rfl 0 rfl ?_
    refine gfX4_22 X k0 dX4_copyFrom_20 (fun r_5 => ?_)
    refine xt_cge (tgt := 55) X r2 r_5 dX4_copyFrom_23 (by decide) (fun hc => ?_) (fun hc => ?_)
    · have h := h.1 hc
      exact xt_vret X h dX4_copyFrom_55
    · have h := h.2 hc
      refine xt_al X dX4_copyFrom_26 rfl 0 rfl ?_
      refine gfX4_11 X k0 dX4_copyFrom_27 ?_
      refine xt_al X dX4_copyFrom_30 rfl 0 rfl ?_
      refine xt_il X dX4_copyFrom_31 rfl 2 rfl ?_
      refine xt_cVI X [iV (v2)] [rV (v0 + 1)] (ctX4_slot hG k0 r2 h) gdX4_25 pdX4_slot ⟨rfl, rfl⟩ ⟨Nat.le_of_ble_eq_true rfl, Nat.le_of_ble_eq_true rfl⟩ rfl (k_lt k0 (by decide)) (by rw [k0]; rfl) rfl (Nat.le_of_ble_eq_true rfl) dX4_copyFrom_32 (fun z_6 M_7 z_6r h => ?_)
      obtain ⟨g_8, h⟩ := h
      refine xt_ald11 X (kd_X4_2 hG k0) g_8 dX4_copyFrom_35 ?_
      refine xt_al X dX4_copyFrom_36 rfl 1 rfl ?_
      refine gfX4_11 X k1 dX4_copyFrom_37 ?_
      refine xt_al X dX4_copyFrom_40 rfl 0 rfl ?_
      refine xt_il X dX4_copyFrom_41 rfl 2 rfl ?_
      refine xt_cVI X [iV (v2)] [rV (v1 + 1), rV ((v0 + 1) + 1 + 4 * z_6)] (ctX4_slot hG k0 r2 h) gdX4_25 pdX4_slot ⟨rfl, rfl⟩ ⟨Nat.le_of_ble_eq_true rfl, Nat.le_of_ble_eq_true rfl⟩ rfl (k_lt k0 (by decide)) (by rw [k0]; rfl) rfl (Nat.le_of_ble_eq_true rfl) dX4_copyFrom_42 (fun z_9 M_10 z_9r h => ?_)
      obtain ⟨g_11, h⟩ := h
      refine xt_ald11 X (kd_X4_2 hG k1) g_11 dX4_copyFrom_45 ?_
      refine xt_cVV X [rV ((v1 + 1) + 1 + 4 * z_9)] [] (ctX3_copyFrom hG (kd_a11 hG (kd_X4_2 hG k0) g_8) (kd_a11 hG (kd_X4_2 hG k1) g_11) h) gdX4_29 pdX3_copyFrom ⟨rfl, rfl⟩ ⟨Nat.le_of_ble_eq_true rfl, Nat.le_of_ble_eq_true rfl⟩ rfl (k_lt (kd_a11 hG (kd_X4_2 hG k0) g_8) (by decide)) (by rw [(kd_a11 hG (kd_X4_2 hG k0) g_8)]; rfl) rfl (Nat.le_of_ble_eq_true rfl) dX4_copyFrom_46 (fun M_13 h => ?_)
      refine xt_inc (lv2 := [(2, iV (v2 + 1)), (0, rV (v0)), (1, rV (v1))]) X dX4_copyFrom_49 2 rfl (by decide) rfl ?_
      refine xt_goto (tgt := 18) X dX4_copyFrom_52 (by decide) ?_
      obtain ⟨g_14, h⟩ := h
      refine xt_perm (lv2 := [(0, rV (v0)), (1, rV (v1)), (2, iV (v2 + 1))]) [1, 2, 0] rfl ?_
      exact ih (v2 + 1) M_13 g_14 h
set_option maxHeartbeats 4000000 in
set_option maxRecDepth 100000 in
theorem ctX4_copyFrom {l : Launch} {G : GG} (hG : Gd G) {v0 : Int} {v1 : Int} {M : Mm} {Q : Mm → Prop} (k0 : gK G v0 = (4, 0)) (k1 : gK G v1 = (4, 0)) (h : PX4_copyFrom v0 v1 M Q) : Met l yX4_copyFrom (Cond.code yX4_copyFrom cX4_copyFrom 3 (none) :: tw) rmX4_copyFrom (Pre G M [rV (v0), rV (v1)]) (PostV G Q) 0 0 (gA G) := by
  refine met_of (own := RX4) (by decide) rfl hG (Nat.le_of_ble_eq_true rfl) (fun p e s m below meth c X => ?_)
  generalize hargs : ([rV (v0), rV (v1)] : List Value).toArray = args at X ⊢
  show Wt p l e rmX4_copyFrom s m args below meth c G (MQ below (PostV G Q) args s 0 0 (gA G)) 3 M [(0, rV (v0)), (1, rV (v1))] 0 []
  unfold PX4_copyFrom at h
  refine xt_al X dX4_copyFrom_0 rfl 0 rfl ?_
  refine xt_al X dX4_copyFrom_1 rfl 1 rfl ?_
  refine gfX4_22 X k1 dX4_copyFrom_2 (fun r_1 => ?_)
  refine pfX4_22 X k0 r_1 dX4_copyFrom_5 (fun M_2 hm => ?_)
  have h := h M_2 hm
  refine xt_al X dX4_copyFrom_8 rfl 0 rfl ?_
  refine xt_al X dX4_copyFrom_9 rfl 1 rfl ?_
  refine gfX4_18 X k1 dX4_copyFrom_10 (fun r_3 => ?_)
  refine pfX4_18 X k0 r_3 dX4_copyFrom_13 (fun M_4 hm => ?_)
  have h := h M_4 hm
  refine xt_ic X dX4_copyFrom_16 ?_
  refine xt_is (lv2 := [(2, iV (0)), (0, rV (v0)), (1, rV (v1))]) X dX4_copyFrom_17 rfl (by decide) rfl ?_
  obtain ⟨n_15, h⟩ := h
  refine xt_perm (lv2 := [(0, rV (v0)), (1, rV (v1)), (2, iV (0))]) [1, 2, 0] rfl ?_
  refine wX4_copyFrom_18 X k0 k1  n_15 0 M_4 (i_rc 0 rfl) h
