abbrev rmX3_signAt : Room := { frames := 0, cells := 0, slots := 0, locals := 0 }
def PX3_signAt (v0 : Int) (v1 : Int) (v2 : Int) (M : Mm) (Q : Int → Mm → Prop) : Prop :=
  ((0 ≤ ((v1 * 24) + v2) ∧ ((v1 * 24) + v2) < 288) ∧
  Q (M (v0 + 2) ((v1 * 24) + v2)) M)
set_option maxHeartbeats 4000000 in
set_option maxRecDepth 100000 in
theorem ctX3_signAt {l : Launch} {G : GG} (hG : Gd G) {v0 : Int} {v1 : Int} {v2 : Int} {M : Mm} {Q : Int → Mm → Prop} (k0 : gK G v0 = (3, 0)) (r1 : inR v1) (r2 : inR v2) (h : PX3_signAt v0 v1 v2 M Q) : Met l yX3_signAt (Cond.code yX3_signAt cX3_signAt 3 ((some FieldType.int)) :: tw) rmX3_signAt (Pre G M [rV (v0), iV (v1), iV (v2)]) (PostI G Q) 0 0 (gA G) := by
  refine met_of (own := RX3) (by decide) rfl hG (Nat.le_of_ble_eq_true rfl) (fun p e s m below meth c X => ?_)
  generalize hargs : ([rV (v0), iV (v1), iV (v2)] : List Value).toArray = args at X ⊢
  show Wt p l e rmX3_signAt s m args below meth c G (MQ below (PostI G Q) args s 0 0 (gA G)) 3 M [(0, rV (v0)), (1, iV (v1)), (2, iV (v2))] 0 []
  unfold PX3_signAt at h
  refine xt_al X dX3_signAt_0 rfl 0 rfl ?_
  refine gfX3_19 X k0 dX3_signAt_1 ?_
  refine xt_il X dX3_signAt_4 rfl 1 rfl ?_
  refine xt_bi X dX3_signAt_5 (by decide) ?_
  refine xt_mul X dX3_signAt_7 ?_
  refine xt_il X dX3_signAt_8 rfl 2 rfl ?_
  refine xt_add X dX3_signAt_9 ?_
  obtain ⟨g_1, h⟩ := h
  refine xt_iald X (kd_X3_4 hG k0) g_1 (by decide) dX3_signAt_10 (fun r_2 => ?_)
  exact xt_iret X r_2 h dX3_signAt_11
abbrev rmX3_copyFrom : Room := { frames := 1, cells := 0, slots := 0, locals := 40 }
def PX3_copyFrom (v0 : Int) (v1 : Int) (M : Mm) (Q : Mm → Prop) : Prop :=
  (∀ M_2 : Mm, M_2 = um M v0 0 (M v1 0) →
  (∀ M_4 : Mm, M_4 = um M_2 v0 1 (M_2 v1 1) →
  (∀ M_6 : Mm, M_6 = um M_4 v0 2 (M_4 v1 2) →
  ((0 ≤ (0 : Int) ∧ 0 ≤ (0 : Int) ∧ 0 ≤ (M_6 v0 0) ∧ (0 : Int) + (M_6 v0 0) ≤ 12 ∧ (0 : Int) + (M_6 v0 0) ≤ 12) ∧
  (∀ M_9 : Mm, M_9 = cp M_6 (v1 + 1) 0 (v0 + 1) 0 (M_6 v0 0) →
  ((0 ≤ (0 : Int) ∧ 0 ≤ (0 : Int) ∧ 0 ≤ ((M_9 v0 0) * 24) ∧ (0 : Int) + ((M_9 v0 0) * 24) ≤ 288 ∧ (0 : Int) + ((M_9 v0 0) * 24) ≤ 288) ∧
  (∀ M_12 : Mm, M_12 = cp M_9 (v1 + 2) 0 (v0 + 2) 0 ((M_9 v0 0) * 24) →
  ((0 ≤ (0 : Int) ∧ 0 ≤ (0 : Int) ∧ 0 ≤ (24 : Int) ∧ (0 : Int) + (24 : Int) ≤ 24 ∧ (0 : Int) + (24 : Int) ≤ 24) ∧
  (∀ M_14 : Mm, M_14 = cp M_12 (v1 + 3) 0 (v0 + 3) 0 24 →
  Q M_14)))))))))
set_option maxHeartbeats 4000000 in
set_option maxRecDepth 100000 in
theorem ctX3_copyFrom {l : Launch} {G : GG} (hG : Gd G) {v0 : Int} {v1 : Int} {M : Mm} {Q : Mm → Prop} (k0 : gK G v0 = (3, 0)) (k1 : gK G v1 = (3, 0)) (h : PX3_copyFrom v0 v1 M Q) : Met l yX3_copyFrom (Cond.code yX3_copyFrom cX3_copyFrom 2 (none) :: tw) rmX3_copyFrom (Pre G M [rV (v0), rV (v1)]) (PostV G Q) 0 0 (gA G) := by
  refine met_of (own := RX3) (by decide) rfl hG (Nat.le_of_ble_eq_true rfl) (fun p e s m below meth c X => ?_)
  generalize hargs : ([rV (v0), rV (v1)] : List Value).toArray = args at X ⊢
  show Wt p l e rmX3_copyFrom s m args below meth c G (MQ below (PostV G Q) args s 0 0 (gA G)) 2 M [(0, rV (v0)), (1, rV (v1))] 0 []
  unfold PX3_copyFrom at h
  refine xt_al X dX3_copyFrom_0 rfl 0 rfl ?_
  refine xt_al X dX3_copyFrom_1 rfl 1 rfl ?_
  refine gfX3_25 X k1 dX3_copyFrom_2 (fun r_1 => ?_)
  refine pfX3_25 X k0 r_1 dX3_copyFrom_5 (fun M_2 hm => ?_)
  have h := h M_2 hm
  refine xt_al X dX3_copyFrom_8 rfl 0 rfl ?_
  refine xt_al X dX3_copyFrom_9 rfl 1 rfl ?_
  refine gfX3_9 X k1 dX3_copyFrom_10 (fun r_3 => ?_)
  refine pfX3_9 X k0 r_3 dX3_copyFrom_13 (fun M_4 hm => ?_)
  have h := h M_4 hm
  refine xt_al X dX3_copyFrom_16 rfl 0 rfl ?_
  refine xt_al X dX3_copyFrom_17 rfl 1 rfl ?_
  refine gfX3_28 X k1 dX3_copyFrom_18 (fun r_5 => ?_)
  refine pfX3_28 X k0 r_5 dX3_copyFrom_21 (fun M_6 hm => ?_)
  have h := h M_6 hm
  refine xt_al X dX3_copyFrom_24 rfl 1 rfl ?_
  refine gfX3_15 X k1 dX3_copyFrom_25 ?_
  refine xt_ic X dX3_copyFrom_28 ?_
  refine xt_al X dX3_copyFrom_29 rfl 0 rfl ?_
  refine gfX3_15 X k0 dX3_copyFrom_30 ?_
  refine xt_ic X dX3_copyFrom_33 ?_
  refine xt_al X dX3_copyFrom_34 rfl 0 rfl ?_
  refine gfX3_25 X k0 dX3_copyFrom_35 (fun r_7 => ?_)
  obtain ⟨g_8, h⟩ := h
  refine xt_acp X (kd_X3_3 hG k1) (kd_X3_3 hG k0) g_8.1 g_8.2.1 g_8.2.2.1 g_8.2.2.2.1 g_8.2.2.2.2 (by decide) (by decide) mlX3_31 (by decide) (Nat.le_of_ble_eq_true rfl) dX3_copyFrom_38 (fun M_9 hm => ?_)
  have h := h M_9 hm
  refine xt_al X dX3_copyFrom_41 rfl 1 rfl ?_
  refine gfX3_19 X k1 dX3_copyFrom_42 ?_
  refine xt_ic X dX3_copyFrom_45 ?_
  refine xt_al X dX3_copyFrom_46 rfl 0 rfl ?_
  refine gfX3_19 X k0 dX3_copyFrom_47 ?_
  refine xt_ic X dX3_copyFrom_50 ?_
  refine xt_al X dX3_copyFrom_51 rfl 0 rfl ?_
  refine gfX3_25 X k0 dX3_copyFrom_52 (fun r_10 => ?_)
  refine xt_bi X dX3_copyFrom_55 (by decide) ?_
  refine xt_mul X dX3_copyFrom_57 ?_
  obtain ⟨g_11, h⟩ := h
  refine xt_acp X (kd_X3_4 hG k1) (kd_X3_4 hG k0) g_11.1 g_11.2.1 g_11.2.2.1 g_11.2.2.2.1 g_11.2.2.2.2 (by decide) (by decide) mlX3_31 (by decide) (Nat.le_of_ble_eq_true rfl) dX3_copyFrom_58 (fun M_12 hm => ?_)
  have h := h M_12 hm
  refine xt_al X dX3_copyFrom_61 rfl 1 rfl ?_
  refine gfX3_22 X k1 dX3_copyFrom_62 ?_
  refine xt_ic X dX3_copyFrom_65 ?_
  refine xt_al X dX3_copyFrom_66 rfl 0 rfl ?_
  refine gfX3_22 X k0 dX3_copyFrom_67 ?_
  refine xt_ic X dX3_copyFrom_70 ?_
  refine xt_bi X dX3_copyFrom_71 (by decide) ?_
  obtain ⟨g_13, h⟩ := h
  refine xt_acp X (kd_X3_5 hG k1) (kd_X3_5 hG k0) g_13.1 g_13.2.1 g_13.2.2.1 g_13.2.2.2.1 g_13.2.2.2.2 (by decide) (by decide) mlX3_31 (by decide) (Nat.le_of_ble_eq_true rfl) dX3_copyFrom_73 (fun M_14 hm => ?_)
  have h := h M_14 hm
  exact xt_vret X h dX3_copyFrom_76
abbrev rmX3_hasLine : Room := { frames := 0, cells := 0, slots := 0, locals := 0 }
def JX3_hasLine_16  (Q : Int → Mm → Prop)  (M : Mm) : Prop :=
  Q 0 M
def PX3_hasLine (v0 : Int) (v1 : Int) (M : Mm) (Q : Int → Mm → Prop) : Prop :=
  ((v1 < 0 → JX3_hasLine_16  Q M) ∧
  (¬ v1 < 0 → (((M v0 0) ≤ v1 → JX3_hasLine_16  Q M) ∧
  (¬ (M v0 0) ≤ v1 → Q 1 M))))
set_option maxHeartbeats 4000000 in
set_option maxRecDepth 100000 in
theorem jX3_hasLine_16 {p : Program} {l : Launch} {e : Env} {s : State} {m : MethodId} {args : Array Value} {below : List Frame} {meth : Method} {c : Code} {G : GG} (X : Cx p s m args meth c cX3_hasLine 2 ((some FieldType.boolean)) RX3 G) {Q : Int → Mm → Prop}     {M : Mm} (h : JX3_hasLine_16  Q  M) : Wt p l e rmX3_hasLine s m args below meth c G (MQ below (PostI G Q) args s 0 0 (gA G)) 2 M [] 16 [] := by
  have hG := X.2.2.2.2.2.2.2.2
  unfold JX3_hasLine_16 at h
  refine xt_ic X dX3_hasLine_16 ?_
  exact xt_zret X (Or.inl rfl) h dX3_hasLine_17
set_option maxHeartbeats 4000000 in
set_option maxRecDepth 100000 in
theorem ctX3_hasLine {l : Launch} {G : GG} (hG : Gd G) {v0 : Int} {v1 : Int} {M : Mm} {Q : Int → Mm → Prop} (k0 : gK G v0 = (3, 0)) (r1 : inR v1) (h : PX3_hasLine v0 v1 M Q) : Met l yX3_hasLine (Cond.code yX3_hasLine cX3_hasLine 2 ((some FieldType.boolean)) :: tw) rmX3_hasLine (Pre G M [rV (v0), iV (v1)]) (PostI G Q) 0 0 (gA G) := by
  refine met_of (own := RX3) (by decide) rfl hG (Nat.le_of_ble_eq_true rfl) (fun p e s m below meth c X => ?_)
  generalize hargs : ([rV (v0), iV (v1)] : List Value).toArray = args at X ⊢
  show Wt p l e rmX3_hasLine s m args below meth c G (MQ below (PostI G Q) args s 0 0 (gA G)) 2 M [(0, rV (v0)), (1, iV (v1))] 0 []
  unfold PX3_hasLine at h
  refine xt_il X dX3_hasLine_0 rfl 1 rfl ?_
  refine xt_zlt (tgt := 16) X r1 dX3_hasLine_1 (by decide) (fun hc => ?_) (fun hc => ?_)
  · have h := h.1 hc
    refine xt_perm (lv2 := []) [] rfl ?_
    exact jX3_hasLine_16 X   h
  · have h := h.2 hc
    refine xt_il X dX3_hasLine_4 rfl 1 rfl ?_
    refine xt_al X dX3_hasLine_5 rfl 0 rfl ?_
    refine gfX3_25 X k0 dX3_hasLine_6 (fun r_1 => ?_)
    refine xt_cge (tgt := 16) X r1 r_1 dX3_hasLine_9 (by decide) (fun hc => ?_) (fun hc => ?_)
    · have h := h.1 hc
      refine xt_perm (lv2 := []) [] rfl ?_
      exact jX3_hasLine_16 X   h
    · have h := h.2 hc
      refine xt_ic X dX3_hasLine_12 ?_
      refine xt_goto (tgt := 17) X dX3_hasLine_13 (by decide) ?_
      exact xt_zret X (Or.inr rfl) h dX3_hasLine_17
abbrev rmX3_hasSign : Room := { frames := 1, cells := 0, slots := 0, locals := 21 }
def JX3_hasSign_26  (Q : Int → Mm → Prop)  (M : Mm) : Prop :=
  Q 0 M
def PX3_hasSign (v0 : Int) (v1 : Int) (v2 : Int) (M : Mm) (Q : Int → Mm → Prop) : Prop :=
  (PX3_hasLine v0 v1 M (fun z_1 M_2 =>
  ((z_1 = 0 → JX3_hasSign_26  Q M_2) ∧
  (¬ z_1 = 0 → ((v2 < 0 → JX3_hasSign_26  Q M_2) ∧
  (¬ v2 < 0 → ((0 ≤ v1 ∧ v1 < 12) ∧
  (((M_2 (v0 + 1) v1) ≤ v2 → JX3_hasSign_26  Q M_2) ∧
  (¬ (M_2 (v0 + 1) v1) ≤ v2 → Q 1 M_2)))))))))
set_option maxHeartbeats 4000000 in
set_option maxRecDepth 100000 in
theorem jX3_hasSign_26 {p : Program} {l : Launch} {e : Env} {s : State} {m : MethodId} {args : Array Value} {below : List Frame} {meth : Method} {c : Code} {G : GG} (X : Cx p s m args meth c cX3_hasSign 3 ((some FieldType.boolean)) RX3 G) {Q : Int → Mm → Prop}     {M : Mm} (h : JX3_hasSign_26  Q  M) : Wt p l e rmX3_hasSign s m args below meth c G (MQ below (PostI G Q) args s 0 0 (gA G)) 3 M [] 26 [] := by
  have hG := X.2.2.2.2.2.2.2.2
  unfold JX3_hasSign_26 at h
  refine xt_ic X dX3_hasSign_26 ?_
  exact xt_zret X (Or.inl rfl) h dX3_hasSign_27
set_option maxHeartbeats 4000000 in
set_option maxRecDepth 100000 in
theorem ctX3_hasSign {l : Launch} {G : GG} (hG : Gd G) {v0 : Int} {v1 : Int} {v2 : Int} {M : Mm} {Q : Int → Mm → Prop} (k0 : gK G v0 = (3, 0)) (r1 : inR v1) (r2 : inR v2) (h : PX3_hasSign v0 v1 v2 M Q) : Met l yX3_hasSign (Cond.code yX3_hasSign cX3_hasSign 3 ((some FieldType.boolean)) :: tw) rmX3_hasSign (Pre G M [rV (v0), iV (v1), iV (v2)]) (PostI G Q) 0 0 (gA G) := by
  refine met_of (own := RX3) (by decide) rfl hG (Nat.le_of_ble_eq_true rfl) (fun p e s m below meth c X => ?_)
  generalize hargs : ([rV (v0), iV (v1), iV (v2)] : List Value).toArray = args at X ⊢
  show Wt p l e rmX3_hasSign s m args below meth c G (MQ below (PostI G Q) args s 0 0 (gA G)) 3 M [(0, rV (v0)), (1, iV (v1)), (2, iV (v2))] 0 []
  unfold PX3_hasSign at h
  refine xt_al X dX3_hasSign_0 rfl 0 rfl ?_
  refine xt_il X dX3_hasSign_1 rfl 1 rfl ?_
  refine xt_cVI X [iV (v1)] [] (ctX3_hasLine hG k0 r1 h) gdX3_37 pdX3_hasLine ⟨rfl, rfl⟩ ⟨Nat.le_of_ble_eq_true rfl, Nat.le_of_ble_eq_true rfl⟩ rfl (k_lt k0 (by decide)) (by rw [k0]; rfl) rfl (Nat.le_of_ble_eq_true rfl) dX3_hasSign_2 (fun z_1 M_2 z_1r h => ?_)
  refine xt_zeq (tgt := 26) X z_1r dX3_hasSign_5 (by decide) (fun hc => ?_) (fun hc => ?_)
  · have h := h.1 hc
    refine xt_perm (lv2 := []) [] rfl ?_
    exact jX3_hasSign_26 X   h
  · have h := h.2 hc
    refine xt_il X dX3_hasSign_8 rfl 2 rfl ?_
    refine xt_zlt (tgt := 26) X r2 dX3_hasSign_9 (by decide) (fun hc => ?_) (fun hc => ?_)
    · have h := h.1 hc
      refine xt_perm (lv2 := []) [] rfl ?_
      exact jX3_hasSign_26 X   h
    · have h := h.2 hc
      refine xt_il X dX3_hasSign_12 rfl 2 rfl ?_
      refine xt_al X dX3_hasSign_13 rfl 0 rfl ?_
      refine gfX3_15 X k0 dX3_hasSign_14 ?_
      refine xt_il X dX3_hasSign_17 rfl 1 rfl ?_
      obtain ⟨g_3, h⟩ := h
      refine xt_iald X (kd_X3_3 hG k0) g_3 (by decide) dX3_hasSign_18 (fun r_4 => ?_)
      refine xt_cge (tgt := 26) X r2 r_4 dX3_hasSign_19 (by decide) (fun hc => ?_) (fun hc => ?_)
      · have h := h.1 hc
        refine xt_perm (lv2 := []) [] rfl ?_
        exact jX3_hasSign_26 X   h
      · have h := h.2 hc
        refine xt_ic X dX3_hasSign_22 ?_
        refine xt_goto (tgt := 27) X dX3_hasSign_23 (by decide) ?_
        exact xt_zret X (Or.inr rfl) h dX3_hasSign_27
abbrev rmX3_hasSameSigns : Room := { frames := 1, cells := 0, slots := 0, locals := 22 }
def BX3_hasSameSigns_20  (Q : Int → Mm → Prop) (v0 : Int) (v1 : Int) (v2 : Int) (v3 : Int) (rec : Int → Mm → Prop) (v4 : Int) (M : Mm) : Prop :=
  ((0 ≤ v1 ∧ v1 < 12) ∧
  (((M (v0 + 1) v1) ≤ v4 → Q 1 M) ∧
  (¬ (M (v0 + 1) v1) ≤ v4 → (PX3_signAt v0 v1 v4 M (fun z_7 M_8 =>
  (PX3_signAt v2 v3 v4 M_8 (fun z_9 M_10 =>
  ((z_7 = z_9 → (inR (v4 + 1) ∧
  rec (v4 + 1) M_10)) ∧
  (¬ z_7 = z_9 → Q 0 M_10)))))))))
def PX3_hasSameSigns (v0 : Int) (v1 : Int) (v2 : Int) (v3 : Int) (M : Mm) (Q : Int → Mm → Prop) : Prop :=
  ((0 ≤ v1 ∧ v1 < 12) ∧
  ((0 ≤ v3 ∧ v3 < 12) ∧
  (((M (v0 + 1) v1) = (M (v2 + 1) v3) → ∃ n_12 : Nat, lp_I (BX3_hasSameSigns_20  Q v0 v1 v2 v3) n_12 0 M) ∧
  (¬ (M (v0 + 1) v1) = (M (v2 + 1) v3) → Q 0 M))))
set_option maxHeartbeats 4000000 in
set_option maxRecDepth 100000 in
theorem wX3_hasSameSigns_20 {p : Program} {l : Launch} {e : Env} {s : State} {m : MethodId} {args : Array Value} {below : List Frame} {meth : Method} {c : Code} {G : GG} (X : Cx p s m args meth c cX3_hasSameSigns 5 ((some FieldType.boolean)) RX3 G) {Q : Int → Mm → Prop}  {v0 : Int} {v1 : Int} {v2 : Int} {v3 : Int} (k0 : gK G v0 = (3, 0)) (r1 : inR v1) (k2 : gK G v2 = (3, 0)) (r3 : inR v3)  : ∀ (n : Nat) (v4 : Int) (M : Mm), inR v4 → lp_I (BX3_hasSameSigns_20  Q v0 v1 v2 v3) n v4 M → Wt p l e rmX3_hasSameSigns s m args below meth c G (MQ below (PostI G Q) args s 0 0 (gA G)) 5 M [(0, rV (v0)), (1, iV (v1)), (2, rV (v2)), (3, iV (v3)), (4, iV (v4))] 20 [] := by
  have hG := X.2.2.2.2.2.2.2.2
  intro n
  induction n with
  | zero => intro v4 M r4 h; exact h.elim
  | succ n ih =>
    intro v4 M r4 h
    have h : BX3_hasSameSigns_20  Q v0 v1 v2 v3 (lp_I (BX3_hasSameSigns_20  Q v0 v1 v2 v3) n) v4 M := h
    unfold BX3_hasSameSigns_20 at h
    refine xt_ilw X dX3_hasSameSigns_20 4 rfl ?_
    refine xt_al X dX3_hasSameSigns_22 rfl 0 rfl ?_
    refine gfX3_15 X k0 dX3_hasSameSigns_23 ?_
    refine xt_il X dX3_hasSameSigns_26 rfl 1 rfl ?_
    obtain ⟨g_5, h⟩ := h
    refine xt_iald X (kd_X3_3 hG k0) g_5 (by decide) dX3_hasSameSigns_27 (fun r_6 => ?_)
    refine xt_cge (tgt := 56) X r4 r_6 dX3_hasSameSigns_28 (by decide) (fun hc => ?_) (fun hc => ?_)
    · have h := h.1 hc
      refine xt_ic X dX3_hasSameSigns_56 ?_
      exact xt_zret X (Or.inr rfl) h dX3_hasSameSigns_57
    · have h := h.2 hc
      refine xt_al X dX3_hasSameSigns_31 rfl 0 rfl ?_
      refine xt_il X dX3_hasSameSigns_32 rfl 1 rfl ?_
      refine xt_ilw X dX3_hasSameSigns_33 4 rfl ?_
      refine xt_cVI X [iV (v1), iV (v4)] [] (ctX3_signAt hG k0 r1 r4 h) gdX3_41 pdX3_signAt ⟨rfl, rfl⟩ ⟨Nat.le_of_ble_eq_true rfl, Nat.le_of_ble_eq_true rfl⟩ rfl (k_lt k0 (by decide)) (by rw [k0]; rfl) rfl (Nat.le_of_ble_eq_true rfl) dX3_hasSameSigns_35 (fun z_7 M_8 z_7r h => ?_)
      refine xt_al X dX3_hasSameSigns_38 rfl 2 rfl ?_
      refine xt_il X dX3_hasSameSigns_39 rfl 3 rfl ?_
      refine xt_ilw X dX3_hasSameSigns_40 4 rfl ?_
      refine xt_cVI X [iV (v3), iV (v4)] [iV (z_7)] (ctX3_signAt hG k2 r3 r4 h) gdX3_41 pdX3_signAt ⟨rfl, rfl⟩ ⟨Nat.le_of_ble_eq_true rfl, Nat.le_of_ble_eq_true rfl⟩ rfl (k_lt k2 (by decide)) (by rw [k2]; rfl) rfl (Nat.le_of_ble_eq_true rfl) dX3_hasSameSigns_42 (fun z_9 M_10 z_9r h => ?_)
      refine xt_ceq (tgt := 50) X z_7r z_9r dX3_hasSameSigns_45 (by decide) (fun hc => ?_) (fun hc => ?_)
      · have h := h.1 hc
        refine xt_inc (lv2 := [(4, iV (v4 + 1)), (0, rV (v0)), (1, iV (v1)), (2, rV (v2)), (3, iV (v3))]) X dX3_hasSameSigns_50 4 rfl (by decide) rfl ?_
        refine xt_goto (tgt := 20) X dX3_hasSameSigns_53 (by decide) ?_
        obtain ⟨g_11, h⟩ := h
        refine xt_perm (lv2 := [(0, rV (v0)), (1, iV (v1)), (2, rV (v2)), (3, iV (v3)), (4, iV (v4 + 1))]) [1, 2, 3, 4, 0] rfl ?_
        exact ih (v4 + 1) M_10 g_11 h
      · have h := h.2 hc
        refine xt_ic X dX3_hasSameSigns_48 ?_
        exact xt_zret X (Or.inl rfl) h dX3_hasSameSigns_49
set_option maxHeartbeats 4000000 in
set_option maxRecDepth 100000 in
theorem ctX3_hasSameSigns {l : Launch} {G : GG} (hG : Gd G) {v0 : Int} {v1 : Int} {v2 : Int} {v3 : Int} {M : Mm} {Q : Int → Mm → Prop} (k0 : gK G v0 = (3, 0)) (r1 : inR v1) (k2 : gK G v2 = (3, 0)) (r3 : inR v3) (h : PX3_hasSameSigns v0 v1 v2 v3 M Q) : Met l yX3_hasSameSigns (Cond.code yX3_hasSameSigns cX3_hasSameSigns 5 ((some FieldType.boolean)) :: tw) rmX3_hasSameSigns (Pre G M [rV (v0), iV (v1), rV (v2), iV (v3)]) (PostI G Q) 0 0 (gA G) := by
  refine met_of (own := RX3) (by decide) rfl hG (Nat.le_of_ble_eq_true rfl) (fun p e s m below meth c X => ?_)
  generalize hargs : ([rV (v0), iV (v1), rV (v2), iV (v3)] : List Value).toArray = args at X ⊢
  show Wt p l e rmX3_hasSameSigns s m args below meth c G (MQ below (PostI G Q) args s 0 0 (gA G)) 5 M [(0, rV (v0)), (1, iV (v1)), (2, rV (v2)), (3, iV (v3))] 0 []
  unfold PX3_hasSameSigns at h
  refine xt_al X dX3_hasSameSigns_0 rfl 0 rfl ?_
  refine gfX3_15 X k0 dX3_hasSameSigns_1 ?_
  refine xt_il X dX3_hasSameSigns_4 rfl 1 rfl ?_
  obtain ⟨g_1, h⟩ := h
  refine xt_iald X (kd_X3_3 hG k0) g_1 (by decide) dX3_hasSameSigns_5 (fun r_2 => ?_)
  refine xt_al X dX3_hasSameSigns_6 rfl 2 rfl ?_
  refine gfX3_15 X k2 dX3_hasSameSigns_7 ?_
  refine xt_il X dX3_hasSameSigns_10 rfl 3 rfl ?_
  obtain ⟨g_3, h⟩ := h
  refine xt_iald X (kd_X3_3 hG k2) g_3 (by decide) dX3_hasSameSigns_11 (fun r_4 => ?_)
  refine xt_ceq (tgt := 17) X r_2 r_4 dX3_hasSameSigns_12 (by decide) (fun hc => ?_) (fun hc => ?_)
  · have h := h.1 hc
    refine xt_ic X dX3_hasSameSigns_17 ?_
    refine xt_isw (lv2 := [(4, iV (0)), (0, rV (v0)), (1, iV (v1)), (2, rV (v2)), (3, iV (v3))]) X dX3_hasSameSigns_18 (by decide) rfl ?_
    obtain ⟨n_12, h⟩ := h
    refine xt_perm (lv2 := [(0, rV (v0)), (1, iV (v1)), (2, rV (v2)), (3, iV (v3)), (4, iV (0))]) [1, 2, 3, 4, 0] rfl ?_
    refine wX3_hasSameSigns_20 X k0 r1 k2 r3  n_12 0 M (i_rc 0 rfl) h
  · have h := h.2 hc
    refine xt_ic X dX3_hasSameSigns_15 ?_
    exact xt_zret X (Or.inl rfl) h dX3_hasSameSigns_16
abbrev rmX3_openLine : Room := { frames := 1, cells := 0, slots := 0, locals := 40 }
def PX3_openLine (v0 : Int) (v1 : Int) (M : Mm) (Q : Mm → Prop) : Prop :=
  ((0 ≤ v1 ∧ 0 ≤ (v1 + 1) ∧ 0 ≤ ((M v0 0) - v1) ∧ v1 + ((M v0 0) - v1) ≤ 12 ∧ (v1 + 1) + ((M v0 0) - v1) ≤ 12) ∧
  (∀ M_3 : Mm, M_3 = cp M (v0 + 1) v1 (v0 + 1) (v1 + 1) ((M v0 0) - v1) →
  ((0 ≤ (v1 * 24) ∧ 0 ≤ ((v1 + 1) * 24) ∧ 0 ≤ (((M v0 0) - v1) * 24) ∧ (v1 * 24) + (((M v0 0) - v1) * 24) ≤ 288 ∧ ((v1 + 1) * 24) + (((M v0 0) - v1) * 24) ≤ 288) ∧
  (∀ M_5 : Mm, M_5 = cp M_3 (v0 + 2) (v1 * 24) (v0 + 2) ((v1 + 1) * 24) (((M v0 0) - v1) * 24) →
  ((0 ≤ v1 ∧ v1 < 12) ∧
  (∀ M_7 : Mm, M_7 = um M_5 (v0 + 1) v1 0 →
  (inR ((M_7 v0 0) + 1) ∧
  (∀ M_9 : Mm, M_9 = um M_7 v0 0 ((M_7 v0 0) + 1) →
  Q M_9))))))))
set_option maxHeartbeats 4000000 in
set_option maxRecDepth 100000 in
theorem ctX3_openLine {l : Launch} {G : GG} (hG : Gd G) {v0 : Int} {v1 : Int} {M : Mm} {Q : Mm → Prop} (k0 : gK G v0 = (3, 0)) (r1 : inR v1) (h : PX3_openLine v0 v1 M Q) : Met l yX3_openLine (Cond.code yX3_openLine cX3_openLine 3 (none) :: tw) rmX3_openLine (Pre G M [rV (v0), iV (v1)]) (PostV G Q) 0 0 (gA G) := by
  refine met_of (own := RX3) (by decide) rfl hG (Nat.le_of_ble_eq_true rfl) (fun p e s m below meth c X => ?_)
  generalize hargs : ([rV (v0), iV (v1)] : List Value).toArray = args at X ⊢
  show Wt p l e rmX3_openLine s m args below meth c G (MQ below (PostV G Q) args s 0 0 (gA G)) 3 M [(0, rV (v0)), (1, iV (v1))] 0 []
  unfold PX3_openLine at h
  refine xt_al X dX3_openLine_0 rfl 0 rfl ?_
  refine gfX3_25 X k0 dX3_openLine_1 (fun r_1 => ?_)
  refine xt_il X dX3_openLine_4 rfl 1 rfl ?_
  refine xt_sub X dX3_openLine_5 ?_
  refine xt_is (lv2 := [(2, iV ((M v0 0) - v1)), (0, rV (v0)), (1, iV (v1))]) X dX3_openLine_6 rfl (by decide) rfl ?_
  refine xt_al X dX3_openLine_7 rfl 1 rfl ?_
  refine gfX3_15 X k0 dX3_openLine_8 ?_
  refine xt_il X dX3_openLine_11 rfl 2 rfl ?_
  refine xt_al X dX3_openLine_12 rfl 1 rfl ?_
  refine gfX3_15 X k0 dX3_openLine_13 ?_
  refine xt_il X dX3_openLine_16 rfl 2 rfl ?_
  refine xt_ic X dX3_openLine_17 ?_
  refine xt_add X dX3_openLine_18 ?_
  refine xt_il X dX3_openLine_19 rfl 0 rfl ?_
  obtain ⟨g_2, h⟩ := h
  refine xt_acp X (kd_X3_3 hG k0) (kd_X3_3 hG k0) g_2.1 g_2.2.1 g_2.2.2.1 g_2.2.2.2.1 g_2.2.2.2.2 (by decide) (by decide) mlX3_31 (by decide) (Nat.le_of_ble_eq_true rfl) dX3_openLine_20 (fun M_3 hm => ?_)
  have h := h M_3 hm
  refine xt_al X dX3_openLine_23 rfl 1 rfl ?_
  refine gfX3_19 X k0 dX3_openLine_24 ?_
  refine xt_il X dX3_openLine_27 rfl 2 rfl ?_
  refine xt_bi X dX3_openLine_28 (by decide) ?_
  refine xt_mul X dX3_openLine_30 ?_
  refine xt_al X dX3_openLine_31 rfl 1 rfl ?_
  refine gfX3_19 X k0 dX3_openLine_32 ?_
  refine xt_il X dX3_openLine_35 rfl 2 rfl ?_
  refine xt_ic X dX3_openLine_36 ?_
  refine xt_add X dX3_openLine_37 ?_
  refine xt_bi X dX3_openLine_38 (by decide) ?_
  refine xt_mul X dX3_openLine_40 ?_
  refine xt_il X dX3_openLine_41 rfl 0 rfl ?_
  refine xt_bi X dX3_openLine_42 (by decide) ?_
  refine xt_mul X dX3_openLine_44 ?_
  obtain ⟨g_4, h⟩ := h
  refine xt_acp X (kd_X3_4 hG k0) (kd_X3_4 hG k0) g_4.1 g_4.2.1 g_4.2.2.1 g_4.2.2.2.1 g_4.2.2.2.2 (by decide) (by decide) mlX3_31 (by decide) (Nat.le_of_ble_eq_true rfl) dX3_openLine_45 (fun M_5 hm => ?_)
  have h := h M_5 hm
  refine xt_al X dX3_openLine_48 rfl 1 rfl ?_
  refine gfX3_15 X k0 dX3_openLine_49 ?_
  refine xt_il X dX3_openLine_52 rfl 2 rfl ?_
  refine xt_ic X dX3_openLine_53 ?_
  obtain ⟨g_6, h⟩ := h
  refine xt_iast X (kd_X3_3 hG k0) g_6 (by decide) (i_rc 0 rfl) dX3_openLine_54 (fun M_7 hm => ?_)
  have h := h M_7 hm
  refine xt_al X dX3_openLine_55 rfl 1 rfl ?_
  refine xt_dup X rfl dX3_openLine_56 ?_
  refine gfX3_25 X k0 dX3_openLine_57 (fun r_8 => ?_)
  refine xt_ic X dX3_openLine_60 ?_
  refine xt_add X dX3_openLine_61 ?_
  obtain ⟨g_10, h⟩ := h
  refine pfX3_25 X k0 g_10 dX3_openLine_62 (fun M_9 hm => ?_)
  have h := h M_9 hm
  exact xt_vret X h dX3_openLine_65
abbrev rmX3_closeLine : Room := { frames := 1, cells := 0, slots := 0, locals := 40 }
def PX3_closeLine (v0 : Int) (v1 : Int) (M : Mm) (Q : Mm → Prop) : Prop :=
  ((0 ≤ (v1 + 1) ∧ 0 ≤ v1 ∧ 0 ≤ (((M v0 0) - v1) - 1) ∧ (v1 + 1) + (((M v0 0) - v1) - 1) ≤ 12 ∧ v1 + (((M v0 0) - v1) - 1) ≤ 12) ∧
  (∀ M_3 : Mm, M_3 = cp M (v0 + 1) (v1 + 1) (v0 + 1) v1 (((M v0 0) - v1) - 1) →
  ((0 ≤ ((v1 + 1) * 24) ∧ 0 ≤ (v1 * 24) ∧ 0 ≤ ((((M v0 0) - v1) - 1) * 24) ∧ ((v1 + 1) * 24) + ((((M v0 0) - v1) - 1) * 24) ≤ 288 ∧ (v1 * 24) + ((((M v0 0) - v1) - 1) * 24) ≤ 288) ∧
  (∀ M_5 : Mm, M_5 = cp M_3 (v0 + 2) ((v1 + 1) * 24) (v0 + 2) (v1 * 24) ((((M v0 0) - v1) - 1) * 24) →
  (inR ((M_5 v0 0) - 1) ∧
  (∀ M_7 : Mm, M_7 = um M_5 v0 0 ((M_5 v0 0) - 1) →
  Q M_7))))))
set_option maxHeartbeats 4000000 in
set_option maxRecDepth 100000 in
theorem ctX3_closeLine {l : Launch} {G : GG} (hG : Gd G) {v0 : Int} {v1 : Int} {M : Mm} {Q : Mm → Prop} (k0 : gK G v0 = (3, 0)) (r1 : inR v1) (h : PX3_closeLine v0 v1 M Q) : Met l yX3_closeLine (Cond.code yX3_closeLine cX3_closeLine 3 (none) :: tw) rmX3_closeLine (Pre G M [rV (v0), iV (v1)]) (PostV G Q) 0 0 (gA G) := by
  refine met_of (own := RX3) (by decide) rfl hG (Nat.le_of_ble_eq_true rfl) (fun p e s m below meth c X => ?_)
  generalize hargs : ([rV (v0), iV (v1)] : List Value).toArray = args at X ⊢
  show Wt p l e rmX3_closeLine s m args below meth c G (MQ below (PostV G Q) args s 0 0 (gA G)) 3 M [(0, rV (v0)), (1, iV (v1))] 0 []
  unfold PX3_closeLine at h
  refine xt_al X dX3_closeLine_0 rfl 0 rfl ?_
  refine gfX3_25 X k0 dX3_closeLine_1 (fun r_1 => ?_)
  refine xt_il X dX3_closeLine_4 rfl 1 rfl ?_
  refine xt_sub X dX3_closeLine_5 ?_
  refine xt_ic X dX3_closeLine_6 ?_
  refine xt_sub X dX3_closeLine_7 ?_
  refine xt_is (lv2 := [(2, iV (((M v0 0) - v1) - 1)), (0, rV (v0)), (1, iV (v1))]) X dX3_closeLine_8 rfl (by decide) rfl ?_
  refine xt_al X dX3_closeLine_9 rfl 1 rfl ?_
  refine gfX3_15 X k0 dX3_closeLine_10 ?_
  refine xt_il X dX3_closeLine_13 rfl 2 rfl ?_
  refine xt_ic X dX3_closeLine_14 ?_
  refine xt_add X dX3_closeLine_15 ?_
  refine xt_al X dX3_closeLine_16 rfl 1 rfl ?_
  refine gfX3_15 X k0 dX3_closeLine_17 ?_
  refine xt_il X dX3_closeLine_20 rfl 2 rfl ?_
  refine xt_il X dX3_closeLine_21 rfl 0 rfl ?_
  obtain ⟨g_2, h⟩ := h
  refine xt_acp X (kd_X3_3 hG k0) (kd_X3_3 hG k0) g_2.1 g_2.2.1 g_2.2.2.1 g_2.2.2.2.1 g_2.2.2.2.2 (by decide) (by decide) mlX3_31 (by decide) (Nat.le_of_ble_eq_true rfl) dX3_closeLine_22 (fun M_3 hm => ?_)
  have h := h M_3 hm
  refine xt_al X dX3_closeLine_25 rfl 1 rfl ?_
  refine gfX3_19 X k0 dX3_closeLine_26 ?_
  refine xt_il X dX3_closeLine_29 rfl 2 rfl ?_
  refine xt_ic X dX3_closeLine_30 ?_
  refine xt_add X dX3_closeLine_31 ?_
  refine xt_bi X dX3_closeLine_32 (by decide) ?_
  refine xt_mul X dX3_closeLine_34 ?_
  refine xt_al X dX3_closeLine_35 rfl 1 rfl ?_
  refine gfX3_19 X k0 dX3_closeLine_36 ?_
  refine xt_il X dX3_closeLine_39 rfl 2 rfl ?_
  refine xt_bi X dX3_closeLine_40 (by decide) ?_
  refine xt_mul X dX3_closeLine_42 ?_
  refine xt_il X dX3_closeLine_43 rfl 0 rfl ?_
  refine xt_bi X dX3_closeLine_44 (by decide) ?_
  refine xt_mul X dX3_closeLine_46 ?_
  obtain ⟨g_4, h⟩ := h
  refine xt_acp X (kd_X3_4 hG k0) (kd_X3_4 hG k0) g_4.1 g_4.2.1 g_4.2.2.1 g_4.2.2.2.1 g_4.2.2.2.2 (by decide) (by decide) mlX3_31 (by decide) (Nat.le_of_ble_eq_true rfl) dX3_closeLine_47 (fun M_5 hm => ?_)
  have h := h M_5 hm
  refine xt_al X dX3_closeLine_50 rfl 1 rfl ?_
  refine xt_dup X rfl dX3_closeLine_51 ?_
  refine gfX3_25 X k0 dX3_closeLine_52 (fun r_6 => ?_)
  refine xt_ic X dX3_closeLine_55 ?_
  refine xt_sub X dX3_closeLine_56 ?_
  obtain ⟨g_8, h⟩ := h
  refine pfX3_25 X k0 g_8 dX3_closeLine_57 (fun M_7 hm => ?_)
  have h := h M_7 hm
  exact xt_vret X h dX3_closeLine_60
abbrev rmX3_insertSign : Room := { frames := 1, cells := 0, slots := 0, locals := 40 }
def PX3_insertSign (v0 : Int) (v1 : Int) (v2 : Int) (v3 : Int) (M : Mm) (Q : Mm → Prop) : Prop :=
  ((0 ≤ v1 ∧ v1 < 12) ∧
  ((0 ≤ ((v1 * 24) + v2) ∧ 0 ≤ (((v1 * 24) + v2) + 1) ∧ 0 ≤ ((M (v0 + 1) v1) - v2) ∧ ((v1 * 24) + v2) + ((M (v0 + 1) v1) - v2) ≤ 288 ∧ (((v1 * 24) + v2) + 1) + ((M (v0 + 1) v1) - v2) ≤ 288) ∧
  (∀ M_4 : Mm, M_4 = cp M (v0 + 2) ((v1 * 24) + v2) (v0 + 2) (((v1 * 24) + v2) + 1) ((M (v0 + 1) v1) - v2) →
  ((0 ≤ ((v1 * 24) + v2) ∧ ((v1 * 24) + v2) < 288) ∧
  (∀ M_6 : Mm, M_6 = um M_4 (v0 + 2) ((v1 * 24) + v2) v3 →
  ((0 ≤ v1 ∧ v1 < 12) ∧
  ((0 ≤ v1 ∧ v1 < 12) ∧
  (inR ((M_6 (v0 + 1) v1) + 1) ∧
  (∀ M_11 : Mm, M_11 = um M_6 (v0 + 1) v1 ((M_6 (v0 + 1) v1) + 1) →
  Q M_11)))))))))
set_option maxHeartbeats 4000000 in
set_option maxRecDepth 100000 in
theorem ctX3_insertSign {l : Launch} {G : GG} (hG : Gd G) {v0 : Int} {v1 : Int} {v2 : Int} {v3 : Int} {M : Mm} {Q : Mm → Prop} (k0 : gK G v0 = (3, 0)) (r1 : inR v1) (r2 : inR v2) (r3 : inR v3) (h : PX3_insertSign v0 v1 v2 v3 M Q) : Met l yX3_insertSign (Cond.code yX3_insertSign cX3_insertSign 5 (none) :: tw) rmX3_insertSign (Pre G M [rV (v0), iV (v1), iV (v2), iV (v3)]) (PostV G Q) 0 0 (gA G) := by
  refine met_of (own := RX3) (by decide) rfl hG (Nat.le_of_ble_eq_true rfl) (fun p e s m below meth c X => ?_)
  generalize hargs : ([rV (v0), iV (v1), iV (v2), iV (v3)] : List Value).toArray = args at X ⊢
  show Wt p l e rmX3_insertSign s m args below meth c G (MQ below (PostV G Q) args s 0 0 (gA G)) 5 M [(0, rV (v0)), (1, iV (v1)), (2, iV (v2)), (3, iV (v3))] 0 []
  unfold PX3_insertSign at h
  refine xt_il X dX3_insertSign_0 rfl 1 rfl ?_
  refine xt_bi X dX3_insertSign_1 (by decide) ?_
  refine xt_mul X dX3_insertSign_3 ?_
  refine xt_il X dX3_insertSign_4 rfl 2 rfl ?_
  refine xt_add X dX3_insertSign_5 ?_
  refine xt_isw (lv2 := [(4, iV ((v1 * 24) + v2)), (0, rV (v0)), (1, iV (v1)), (2, iV (v2)), (3, iV (v3))]) X dX3_insertSign_6 (by decide) rfl ?_
  refine xt_al X dX3_insertSign_8 rfl 1 rfl ?_
  refine gfX3_19 X k0 dX3_insertSign_9 ?_
  refine xt_ilw X dX3_insertSign_12 0 rfl ?_
  refine xt_al X dX3_insertSign_14 rfl 1 rfl ?_
  refine gfX3_19 X k0 dX3_insertSign_15 ?_
  refine xt_ilw X dX3_insertSign_18 0 rfl ?_
  refine xt_ic X dX3_insertSign_20 ?_
  refine xt_add X dX3_insertSign_21 ?_
  refine xt_al X dX3_insertSign_22 rfl 1 rfl ?_
  refine gfX3_15 X k0 dX3_insertSign_23 ?_
  refine xt_il X dX3_insertSign_26 rfl 2 rfl ?_
  obtain ⟨g_1, h⟩ := h
  refine xt_iald X (kd_X3_3 hG k0) g_1 (by decide) dX3_insertSign_27 (fun r_2 => ?_)
  refine xt_il X dX3_insertSign_28 rfl 3 rfl ?_
  refine xt_sub X dX3_insertSign_29 ?_
  obtain ⟨g_3, h⟩ := h
  refine xt_acp X (kd_X3_4 hG k0) (kd_X3_4 hG k0) g_3.1 g_3.2.1 g_3.2.2.1 g_3.2.2.2.1 g_3.2.2.2.2 (by decide) (by decide) mlX3_31 (by decide) (Nat.le_of_ble_eq_true rfl) dX3_insertSign_30 (fun M_4 hm => ?_)
  have h := h M_4 hm
  refine xt_al X dX3_insertSign_33 rfl 1 rfl ?_
  refine gfX3_19 X k0 dX3_insertSign_34 ?_
  refine xt_ilw X dX3_insertSign_37 0 rfl ?_
  refine xt_il X dX3_insertSign_39 rfl 4 rfl ?_
  obtain ⟨g_5, h⟩ := h
  refine xt_iast X (kd_X3_4 hG k0) g_5 (by decide) r3 dX3_insertSign_40 (fun M_6 hm => ?_)
  have h := h M_6 hm
  refine xt_al X dX3_insertSign_41 rfl 1 rfl ?_
  refine gfX3_15 X k0 dX3_insertSign_42 ?_
  refine xt_il X dX3_insertSign_45 rfl 2 rfl ?_
  refine xt_dup2 X rfl rfl dX3_insertSign_46 ?_
  obtain ⟨g_7, h⟩ := h
  refine xt_iald X (kd_X3_3 hG k0) g_7 (by decide) dX3_insertSign_47 (fun r_8 => ?_)
  refine xt_ic X dX3_insertSign_48 ?_
  refine xt_add X dX3_insertSign_49 ?_
  obtain ⟨g_9, h⟩ := h
  obtain ⟨g_10, h⟩ := h
  refine xt_iast X (kd_X3_3 hG k0) g_9 (by decide) g_10 dX3_insertSign_50 (fun M_11 hm => ?_)
  have h := h M_11 hm
  exact xt_vret X h dX3_insertSign_51
abbrev rmX3_removeSign : Room := { frames := 1, cells := 0, slots := 0, locals := 40 }
def PX3_removeSign (v0 : Int) (v1 : Int) (v2 : Int) (M : Mm) (Q : Mm → Prop) : Prop :=
  ((0 ≤ v1 ∧ v1 < 12) ∧
  ((0 ≤ (((v1 * 24) + v2) + 1) ∧ 0 ≤ ((v1 * 24) + v2) ∧ 0 ≤ (((M (v0 + 1) v1) - v2) - 1) ∧ (((v1 * 24) + v2) + 1) + (((M (v0 + 1) v1) - v2) - 1) ≤ 288 ∧ ((v1 * 24) + v2) + (((M (v0 + 1) v1) - v2) - 1) ≤ 288) ∧
  (∀ M_4 : Mm, M_4 = cp M (v0 + 2) (((v1 * 24) + v2) + 1) (v0 + 2) ((v1 * 24) + v2) (((M (v0 + 1) v1) - v2) - 1) →
  ((0 ≤ v1 ∧ v1 < 12) ∧
  ((0 ≤ v1 ∧ v1 < 12) ∧
  (inR ((M_4 (v0 + 1) v1) - 1) ∧
  (∀ M_9 : Mm, M_9 = um M_4 (v0 + 1) v1 ((M_4 (v0 + 1) v1) - 1) →
  Q M_9)))))))
set_option maxHeartbeats 4000000 in
set_option maxRecDepth 100000 in
theorem ctX3_removeSign {l : Launch} {G : GG} (hG : Gd G) {v0 : Int} {v1 : Int} {v2 : Int} {M : Mm} {Q : Mm → Prop} (k0 : gK G v0 = (3, 0)) (r1 : inR v1) (r2 : inR v2) (h : PX3_removeSign v0 v1 v2 M Q) : Met l yX3_removeSign (Cond.code yX3_removeSign cX3_removeSign 4 (none) :: tw) rmX3_removeSign (Pre G M [rV (v0), iV (v1), iV (v2)]) (PostV G Q) 0 0 (gA G) := by
  refine met_of (own := RX3) (by decide) rfl hG (Nat.le_of_ble_eq_true rfl) (fun p e s m below meth c X => ?_)
  generalize hargs : ([rV (v0), iV (v1), iV (v2)] : List Value).toArray = args at X ⊢
  show Wt p l e rmX3_removeSign s m args below meth c G (MQ below (PostV G Q) args s 0 0 (gA G)) 4 M [(0, rV (v0)), (1, iV (v1)), (2, iV (v2))] 0 []
  unfold PX3_removeSign at h
  refine xt_il X dX3_removeSign_0 rfl 1 rfl ?_
  refine xt_bi X dX3_removeSign_1 (by decide) ?_
  refine xt_mul X dX3_removeSign_3 ?_
  refine xt_il X dX3_removeSign_4 rfl 2 rfl ?_
  refine xt_add X dX3_removeSign_5 ?_
  refine xt_is (lv2 := [(3, iV ((v1 * 24) + v2)), (0, rV (v0)), (1, iV (v1)), (2, iV (v2))]) X dX3_removeSign_6 rfl (by decide) rfl ?_
  refine xt_al X dX3_removeSign_7 rfl 1 rfl ?_
  refine gfX3_19 X k0 dX3_removeSign_8 ?_
  refine xt_il X dX3_removeSign_11 rfl 0 rfl ?_
  refine xt_ic X dX3_removeSign_12 ?_
  refine xt_add X dX3_removeSign_13 ?_
  refine xt_al X dX3_removeSign_14 rfl 1 rfl ?_
  refine gfX3_19 X k0 dX3_removeSign_15 ?_
  refine xt_il X dX3_removeSign_18 rfl 0 rfl ?_
  refine xt_al X dX3_removeSign_19 rfl 1 rfl ?_
  refine gfX3_15 X k0 dX3_removeSign_20 ?_
  refine xt_il X dX3_removeSign_23 rfl 2 rfl ?_
  obtain ⟨g_1, h⟩ := h
  refine xt_iald X (kd_X3_3 hG k0) g_1 (by decide) dX3_removeSign_24 (fun r_2 => ?_)
  refine xt_il X dX3_removeSign_25 rfl 3 rfl ?_
  refine xt_sub X dX3_removeSign_26 ?_
  refine xt_ic X dX3_removeSign_27 ?_
  refine xt_sub X dX3_removeSign_28 ?_
  obtain ⟨g_3, h⟩ := h
  refine xt_acp X (kd_X3_4 hG k0) (kd_X3_4 hG k0) g_3.1 g_3.2.1 g_3.2.2.1 g_3.2.2.2.1 g_3.2.2.2.2 (by decide) (by decide) mlX3_31 (by decide) (Nat.le_of_ble_eq_true rfl) dX3_removeSign_29 (fun M_4 hm => ?_)
  have h := h M_4 hm
  refine xt_al X dX3_removeSign_32 rfl 1 rfl ?_
  refine gfX3_15 X k0 dX3_removeSign_33 ?_
  refine xt_il X dX3_removeSign_36 rfl 2 rfl ?_
  refine xt_dup2 X rfl rfl dX3_removeSign_37 ?_
  obtain ⟨g_5, h⟩ := h
  refine xt_iald X (kd_X3_3 hG k0) g_5 (by decide) dX3_removeSign_38 (fun r_6 => ?_)
  refine xt_ic X dX3_removeSign_39 ?_
  refine xt_sub X dX3_removeSign_40 ?_
  obtain ⟨g_7, h⟩ := h
  obtain ⟨g_8, h⟩ := h
  refine xt_iast X (kd_X3_3 hG k0) g_7 (by decide) g_8 dX3_removeSign_41 (fun M_9 hm => ?_)
  have h := h M_9 hm
  exact xt_vret X h dX3_removeSign_42
abbrev rmX3_moveSigns : Room := { frames := 1, cells := 0, slots := 0, locals := 40 }
def PX3_moveSigns (v0 : Int) (v1 : Int) (v2 : Int) (v3 : Int) (M : Mm) (Q : Mm → Prop) : Prop :=
  ((0 ≤ v1 ∧ v1 < 12) ∧
  ((0 ≤ v3 ∧ v3 < 12) ∧
  ((0 ≤ ((v1 * 24) + v2) ∧ 0 ≤ ((v3 * 24) + (M (v0 + 1) v3)) ∧ 0 ≤ ((M (v0 + 1) v1) - v2) ∧ ((v1 * 24) + v2) + ((M (v0 + 1) v1) - v2) ≤ 288 ∧ ((v3 * 24) + (M (v0 + 1) v3)) + ((M (v0 + 1) v1) - v2) ≤ 288) ∧
  (∀ M_6 : Mm, M_6 = cp M (v0 + 2) ((v1 * 24) + v2) (v0 + 2) ((v3 * 24) + (M (v0 + 1) v3)) ((M (v0 + 1) v1) - v2) →
  ((0 ≤ v3 ∧ v3 < 12) ∧
  ((0 ≤ v3 ∧ v3 < 12) ∧
  (inR ((M_6 (v0 + 1) v3) + ((M (v0 + 1) v1) - v2)) ∧
  (∀ M_11 : Mm, M_11 = um M_6 (v0 + 1) v3 ((M_6 (v0 + 1) v3) + ((M (v0 + 1) v1) - v2)) →
  ((0 ≤ v1 ∧ v1 < 12) ∧
  (∀ M_13 : Mm, M_13 = um M_11 (v0 + 1) v1 v2 →
  Q M_13))))))))))
set_option maxHeartbeats 4000000 in
set_option maxRecDepth 100000 in
theorem ctX3_moveSigns {l : Launch} {G : GG} (hG : Gd G) {v0 : Int} {v1 : Int} {v2 : Int} {v3 : Int} {M : Mm} {Q : Mm → Prop} (k0 : gK G v0 = (3, 0)) (r1 : inR v1) (r2 : inR v2) (r3 : inR v3) (h : PX3_moveSigns v0 v1 v2 v3 M Q) : Met l yX3_moveSigns (Cond.code yX3_moveSigns cX3_moveSigns 5 (none) :: tw) rmX3_moveSigns (Pre G M [rV (v0), iV (v1), iV (v2), iV (v3)]) (PostV G Q) 0 0 (gA G) := by
  refine met_of (own := RX3) (by decide) rfl hG (Nat.le_of_ble_eq_true rfl) (fun p e s m below meth c X => ?_)
  generalize hargs : ([rV (v0), iV (v1), iV (v2), iV (v3)] : List Value).toArray = args at X ⊢
  show Wt p l e rmX3_moveSigns s m args below meth c G (MQ below (PostV G Q) args s 0 0 (gA G)) 5 M [(0, rV (v0)), (1, iV (v1)), (2, iV (v2)), (3, iV (v3))] 0 []
  unfold PX3_moveSigns at h
  refine xt_al X dX3_moveSigns_0 rfl 0 rfl ?_
  refine gfX3_15 X k0 dX3_moveSigns_1 ?_
  refine xt_il X dX3_moveSigns_4 rfl 1 rfl ?_
  obtain ⟨g_1, h⟩ := h
  refine xt_iald X (kd_X3_3 hG k0) g_1 (by decide) dX3_moveSigns_5 (fun r_2 => ?_)
  refine xt_il X dX3_moveSigns_6 rfl 2 rfl ?_
  refine xt_sub X dX3_moveSigns_7 ?_
  refine xt_isw (lv2 := [(4, iV ((M (v0 + 1) v1) - v2)), (0, rV (v0)), (1, iV (v1)), (2, iV (v2)), (3, iV (v3))]) X dX3_moveSigns_8 (by decide) rfl ?_
  refine xt_al X dX3_moveSigns_10 rfl 1 rfl ?_
  refine gfX3_19 X k0 dX3_moveSigns_11 ?_
  refine xt_il X dX3_moveSigns_14 rfl 2 rfl ?_
  refine xt_bi X dX3_moveSigns_15 (by decide) ?_
  refine xt_mul X dX3_moveSigns_17 ?_
  refine xt_il X dX3_moveSigns_18 rfl 3 rfl ?_
  refine xt_add X dX3_moveSigns_19 ?_
  refine xt_al X dX3_moveSigns_20 rfl 1 rfl ?_
  refine gfX3_19 X k0 dX3_moveSigns_21 ?_
  refine xt_il X dX3_moveSigns_24 rfl 4 rfl ?_
  refine xt_bi X dX3_moveSigns_25 (by decide) ?_
  refine xt_mul X dX3_moveSigns_27 ?_
  refine xt_al X dX3_moveSigns_28 rfl 1 rfl ?_
  refine gfX3_15 X k0 dX3_moveSigns_29 ?_
  refine xt_il X dX3_moveSigns_32 rfl 4 rfl ?_
  obtain ⟨g_3, h⟩ := h
  refine xt_iald X (kd_X3_3 hG k0) g_3 (by decide) dX3_moveSigns_33 (fun r_4 => ?_)
  refine xt_add X dX3_moveSigns_34 ?_
  refine xt_ilw X dX3_moveSigns_35 0 rfl ?_
  obtain ⟨g_5, h⟩ := h
  refine xt_acp X (kd_X3_4 hG k0) (kd_X3_4 hG k0) g_5.1 g_5.2.1 g_5.2.2.1 g_5.2.2.2.1 g_5.2.2.2.2 (by decide) (by decide) mlX3_31 (by decide) (Nat.le_of_ble_eq_true rfl) dX3_moveSigns_37 (fun M_6 hm => ?_)
  have h := h M_6 hm
  refine xt_al X dX3_moveSigns_40 rfl 1 rfl ?_
  refine gfX3_15 X k0 dX3_moveSigns_41 ?_
  refine xt_il X dX3_moveSigns_44 rfl 4 rfl ?_
  refine xt_dup2 X rfl rfl dX3_moveSigns_45 ?_
  obtain ⟨g_7, h⟩ := h
  refine xt_iald X (kd_X3_3 hG k0) g_7 (by decide) dX3_moveSigns_46 (fun r_8 => ?_)
  refine xt_ilw X dX3_moveSigns_47 0 rfl ?_
  refine xt_add X dX3_moveSigns_49 ?_
  obtain ⟨g_9, h⟩ := h
  obtain ⟨g_10, h⟩ := h
  refine xt_iast X (kd_X3_3 hG k0) g_9 (by decide) g_10 dX3_moveSigns_50 (fun M_11 hm => ?_)
  have h := h M_11 hm
  refine xt_al X dX3_moveSigns_51 rfl 1 rfl ?_
  refine gfX3_15 X k0 dX3_moveSigns_52 ?_
  refine xt_il X dX3_moveSigns_55 rfl 2 rfl ?_
  refine xt_il X dX3_moveSigns_56 rfl 3 rfl ?_
  obtain ⟨g_12, h⟩ := h
  refine xt_iast X (kd_X3_3 hG k0) g_12 (by decide) r2 dX3_moveSigns_57 (fun M_13 hm => ?_)
  have h := h M_13 hm
  exact xt_vret X h dX3_moveSigns_58
