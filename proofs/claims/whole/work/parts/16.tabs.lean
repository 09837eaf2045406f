abbrev rmX6_type : Room := { frames := 0, cells := 0, slots := 0, locals := 0 }
def PX6_type (v0 : Int) (v1 : Int) (M : Mm) (Q : Int → Mm → Prop) : Prop :=
  ((v1 < 0 → Q ((-1)) M) ∧
  (¬ v1 < 0 → ((v1 ≤ 255 → (((M (v0 + 47) 1) < 150 → ((0 ≤ (M (v0 + 47) 1) ∧ (M (v0 + 47) 1) < 150) ∧
  (∀ M_4 : Mm, M_4 = um M ((v0 + 47) + 1) (M (v0 + 47) 1) v1 →
  (inR ((M_4 (v0 + 47) 1) + 1) ∧
  (∀ M_6 : Mm, M_6 = um M_4 (v0 + 47) 1 ((M_4 (v0 + 47) 1) + 1) →
  Q (M_6 (v0 + 47) 1) M_6))))) ∧
  (¬ (M (v0 + 47) 1) < 150 → Q ((-3)) M))) ∧
  (¬ v1 ≤ 255 → Q ((-1)) M))))
set_option maxHeartbeats 4000000 in
set_option maxRecDepth 100000 in
theorem ctX6_type {l : Launch} {G : GG} (hG : Gd G) {v0 : Int} {v1 : Int} {M : Mm} {Q : Int → Mm → Prop} (k0 : gK G v0 = (6, 0)) (r1 : inR v1) (h : PX6_type v0 v1 M Q) : Met l yX6_type (Cond.code yX6_type cX6_type 2 ((some FieldType.int)) :: tw) rmX6_type (Pre G M [rV (v0), iV (v1)]) (PostI G Q) 0 0 (gA G) := by
  refine met_of (own := RX6) (by decide) rfl hG (Nat.le_of_ble_eq_true rfl) (fun p e s m below meth c X => ?_)
  generalize hargs : ([rV (v0), iV (v1)] : List Value).toArray = args at X ⊢
  show Wt p l e rmX6_type s m args below meth c G (MQ below (PostI G Q) args s 0 0 (gA G)) 2 M [(0, rV (v0)), (1, iV (v1))] 0 []
  unfold PX6_type at h
  refine xt_il X dX6_type_0 rfl 1 rfl ?_
  refine xt_zlt (tgt := 11) X r1 dX6_type_1 (by decide) (fun hc => ?_) (fun hc => ?_)
  · have h := h.1 hc
    refine xt_ic X dX6_type_11 ?_
    exact xt_iret X (i_rc (-1) rfl) h dX6_type_12
  · have h := h.2 hc
    refine xt_il X dX6_type_4 rfl 1 rfl ?_
    refine xt_si X dX6_type_5 (by decide) ?_
    refine xt_cle (tgt := 13) X r1 (i_rc 255 rfl) dX6_type_8 (by decide) (fun hc => ?_) (fun hc => ?_)
    · have h := h.1 hc
      refine xt_al X dX6_type_13 rfl 0 rfl ?_
      refine gfX6_26 X k0 dX6_type_14 ?_
      refine gfX6_47 X (kd_X6_2 hG k0) dX6_type_17 (fun r_1 => ?_)
      refine xt_si X dX6_type_20 (by decide) ?_
      refine xt_clt (tgt := 29) X r_1 (i_rc 150 rfl) dX6_type_23 (by decide) (fun hc => ?_) (fun hc => ?_)
      · have h := h.1 hc
        refine xt_al X dX6_type_29 rfl 0 rfl ?_
        refine gfX6_26 X k0 dX6_type_30 ?_
        refine gfX6_51 X (kd_X6_2 hG k0) dX6_type_33 ?_
        refine xt_al X dX6_type_36 rfl 0 rfl ?_
        refine gfX6_26 X k0 dX6_type_37 ?_
        refine gfX6_47 X (kd_X6_2 hG k0) dX6_type_40 (fun r_2 => ?_)
        refine xt_il X dX6_type_43 rfl 1 rfl ?_
        obtain ⟨g_3, h⟩ := h
        refine xt_iast X (kd_X5_0 hG (kd_X6_2 hG k0)) g_3 (by decide) r1 dX6_type_44 (fun M_4 hm => ?_)
        have h := h M_4 hm
        refine xt_al X dX6_type_45 rfl 0 rfl ?_
        refine gfX6_26 X k0 dX6_type_46 ?_
        refine xt_dup X rfl dX6_type_49 ?_
        refine gfX6_47 X (kd_X6_2 hG k0) dX6_type_50 (fun r_5 => ?_)
        refine xt_ic X dX6_type_53 ?_
        refine xt_add X dX6_type_54 ?_
        obtain ⟨g_7, h⟩ := h
        refine pfX6_47 X (kd_X6_2 hG k0) g_7 dX6_type_55 (fun M_6 hm => ?_)
        have h := h M_6 hm
        refine xt_al X dX6_type_58 rfl 0 rfl ?_
        refine gfX6_26 X k0 dX6_type_59 ?_
        refine gfX6_47 X (kd_X6_2 hG k0) dX6_type_62 (fun r_8 => ?_)
        exact xt_iret X r_8 h dX6_type_65
      · have h := h.2 hc
        refine xt_bi X dX6_type_26 (by decide) ?_
        exact xt_iret X (i_rc (-3) rfl) h dX6_type_28
    · have h := h.2 hc
      refine xt_ic X dX6_type_11 ?_
      exact xt_iret X (i_rc (-1) rfl) h dX6_type_12
abbrev rmX6_clear : Room := { frames := 0, cells := 0, slots := 0, locals := 0 }
def PX6_clear (v0 : Int) (M : Mm) (Q : Int → Mm → Prop) : Prop :=
  (∀ M_2 : Mm, M_2 = um M (v0 + 47) 1 0 →
  Q (M (v0 + 47) 1) M_2)
set_option maxHeartbeats 4000000 in
set_option maxRecDepth 100000 in
theorem ctX6_clear {l : Launch} {G : GG} (hG : Gd G) {v0 : Int} {M : Mm} {Q : Int → Mm → Prop} (k0 : gK G v0 = (6, 0)) (h : PX6_clear v0 M Q) : Met l yX6_clear (Cond.code yX6_clear cX6_clear 2 ((some FieldType.int)) :: tw) rmX6_clear (Pre G M [rV (v0)]) (PostI G Q) 0 0 (gA G) := by
  refine met_of (own := RX6) (by decide) rfl hG (Nat.le_of_ble_eq_true rfl) (fun p e s m below meth c X => ?_)
  generalize hargs : ([rV (v0)] : List Value).toArray = args at X ⊢
  show Wt p l e rmX6_clear s m args below meth c G (MQ below (PostI G Q) args s 0 0 (gA G)) 2 M [(0, rV (v0))] 0 []
  unfold PX6_clear at h
  refine xt_al X dX6_clear_0 rfl 0 rfl ?_
  refine gfX6_26 X k0 dX6_clear_1 ?_
  refine gfX6_47 X (kd_X6_2 hG k0) dX6_clear_4 (fun r_1 => ?_)
  refine xt_is (lv2 := [(1, iV (M (v0 + 47) 1)), (0, rV (v0))]) X dX6_clear_7 rfl (by decide) rfl ?_
  refine xt_al X dX6_clear_8 rfl 1 rfl ?_
  refine gfX6_26 X k0 dX6_clear_9 ?_
  refine xt_ic X dX6_clear_12 ?_
  refine pfX6_47 X (kd_X6_2 hG k0) (i_rc 0 rfl) dX6_clear_13 (fun M_2 hm => ?_)
  have h := h M_2 hm
  refine xt_il X dX6_clear_16 rfl 0 rfl ?_
  exact xt_iret X r_1 h dX6_clear_17
abbrev rmX6_formerPlace : Room := { frames := 0, cells := 0, slots := 0, locals := 0 }
def JX6_formerPlace_38  (Q : Int → Mm → Prop) (v0 : Int) (M : Mm) : Prop :=
  Q v0 M
def JX6_formerPlace_23  (Q : Int → Mm → Prop) (v0 : Int) (v2 : Int) (M : Mm) : Prop :=
  ((v2 < 0 → JX6_formerPlace_38  Q v0 M) ∧
  (¬ v2 < 0 → ((v0 < v2 → JX6_formerPlace_38  Q v0 M) ∧
  (¬ v0 < v2 → (inR (v0 + 1) ∧
  Q (v0 + 1) M)))))
def PX6_formerPlace (v0 : Int) (v1 : Int) (v2 : Int) (M : Mm) (Q : Int → Mm → Prop) : Prop :=
  ((v1 < 0 → JX6_formerPlace_23  Q v0 v2 M) ∧
  (¬ v1 < 0 → ((v0 < v1 → JX6_formerPlace_23  Q v0 v2 M) ∧
  (¬ v0 < v1 → ((v0 = v1 → Q ((-9)) M) ∧
  (¬ v0 = v1 → (inR (v0 - 1) ∧
  Q (v0 - 1) M)))))))
set_option maxHeartbeats 4000000 in
set_option maxRecDepth 100000 in
theorem jX6_formerPlace_38 {p : Program} {l : Launch} {e : Env} {s : State} {m : MethodId} {args : Array Value} {below : List Frame} {meth : Method} {c : Code} {G : GG} (X : Cx p s m args meth c cX6_formerPlace 3 ((some FieldType.int)) RX6 G) {Q : Int → Mm → Prop}  {v0 : Int}  (r0 : inR v0) {M : Mm} (h : JX6_formerPlace_38  Q v0 M) : Wt p l e rmX6_formerPlace s m args below meth c G (MQ below (PostI G Q) args s 0 0 (gA G)) 3 M [(0, iV (v0))] 38 [] := by
  have hG := X.2.2.2.2.2.2.2.2
  unfold JX6_formerPlace_38 at h
  refine xt_il X dX6_formerPlace_38 rfl 0 rfl ?_
  exact xt_iret X r0 h dX6_formerPlace_39
set_option maxHeartbeats 4000000 in
set_option maxRecDepth 100000 in
theorem jX6_formerPlace_23 {p : Program} {l : Launch} {e : Env} {s : State} {m : MethodId} {args : Array Value} {below : List Frame} {meth : Method} {c : Code} {G : GG} (X : Cx p s m args meth c cX6_formerPlace 3 ((some FieldType.int)) RX6 G) {Q : Int → Mm → Prop}  {v0 : Int} {v2 : Int}  (r0 : inR v0) (r2 : inR v2) {M : Mm} (h : JX6_formerPlace_23  Q v0 v2 M) : Wt p l e rmX6_formerPlace s m args below meth c G (MQ below (PostI G Q) args s 0 0 (gA G)) 3 M [(0, iV (v0)), (2, iV (v2))] 23 [] := by
  have hG := X.2.2.2.2.2.2.2.2
  unfold JX6_formerPlace_23 at h
  refine xt_il X dX6_formerPlace_23 rfl 1 rfl ?_
  refine xt_zlt (tgt := 38) X r2 dX6_formerPlace_24 (by decide) (fun hc => ?_) (fun hc => ?_)
  · have h := h.1 hc
    refine xt_perm (lv2 := [(0, iV (v0))]) [0] rfl ?_
    exact jX6_formerPlace_38 X  r0 h
  · have h := h.2 hc
    refine xt_il X dX6_formerPlace_27 rfl 0 rfl ?_
    refine xt_il X dX6_formerPlace_28 rfl 1 rfl ?_
    refine xt_clt (tgt := 38) X r0 r2 dX6_formerPlace_29 (by decide) (fun hc => ?_) (fun hc => ?_)
    · have h := h.1 hc
      refine xt_perm (lv2 := [(0, iV (v0))]) [0] rfl ?_
      exact jX6_formerPlace_38 X  r0 h
    · have h := h.2 hc
      refine xt_il X dX6_formerPlace_32 rfl 0 rfl ?_
      refine xt_ic X dX6_formerPlace_33 ?_
      refine xt_add X dX6_formerPlace_34 ?_
      refine xt_goto (tgt := 39) X dX6_formerPlace_35 (by decide) ?_
      obtain ⟨g_1, h⟩ := h
      exact xt_iret X g_1 h dX6_formerPlace_39
set_option maxHeartbeats 4000000 in
set_option maxRecDepth 100000 in
theorem ctX6_formerPlace {l : Launch} {G : GG} (hG : Gd G) {v0 : Int} {v1 : Int} {v2 : Int} {M : Mm} {Q : Int → Mm → Prop} (r0 : inR v0) (r1 : inR v1) (r2 : inR v2) (h : PX6_formerPlace v0 v1 v2 M Q) : Met l yX6_formerPlace (Cond.code yX6_formerPlace cX6_formerPlace 3 ((some FieldType.int)) :: tw) rmX6_formerPlace (Pre G M [iV (v0), iV (v1), iV (v2)]) (PostI G Q) 0 0 (gA G) := by
  refine met_of (own := RX6) (by decide) rfl hG (Nat.le_of_ble_eq_true rfl) (fun p e s m below meth c X => ?_)
  generalize hargs : ([iV (v0), iV (v1), iV (v2)] : List Value).toArray = args at X ⊢
  show Wt p l e rmX6_formerPlace s m args below meth c G (MQ below (PostI G Q) args s 0 0 (gA G)) 3 M [(0, iV (v0)), (1, iV (v1)), (2, iV (v2))] 0 []
  unfold PX6_formerPlace at h
  refine xt_il X dX6_formerPlace_0 rfl 1 rfl ?_
  refine xt_zlt (tgt := 23) X r1 dX6_formerPlace_1 (by decide) (fun hc => ?_) (fun hc => ?_)
  · have h := h.1 hc
    refine xt_perm (lv2 := [(0, iV (v0)), (2, iV (v2))]) [0, 2] rfl ?_
    exact jX6_formerPlace_23 X  r0 r2 h
  · have h := h.2 hc
    refine xt_il X dX6_formerPlace_4 rfl 0 rfl ?_
    refine xt_il X dX6_formerPlace_5 rfl 1 rfl ?_
    refine xt_clt (tgt := 23) X r0 r1 dX6_formerPlace_6 (by decide) (fun hc => ?_) (fun hc => ?_)
    · have h := h.1 hc
      refine xt_perm (lv2 := [(0, iV (v0)), (2, iV (v2))]) [0, 2] rfl ?_
      exact jX6_formerPlace_23 X  r0 r2 h
    · have h := h.2 hc
      refine xt_il X dX6_formerPlace_9 rfl 0 rfl ?_
      refine xt_il X dX6_formerPlace_10 rfl 1 rfl ?_
      refine xt_cne (tgt := 19) X r0 r1 dX6_formerPlace_11 (by decide) (fun hc => ?_) (fun hc => ?_)
      · have h := h.2 hc
        refine xt_il X dX6_formerPlace_19 rfl 0 rfl ?_
        refine xt_ic X dX6_formerPlace_20 ?_
        refine xt_sub X dX6_formerPlace_21 ?_
        obtain ⟨g_2, h⟩ := h
        exact xt_iret X g_2 h dX6_formerPlace_22
      · have h := h.1 hc
        refine xt_bi X dX6_formerPlace_14 (by decide) ?_
        refine xt_goto (tgt := 22) X dX6_formerPlace_16 (by decide) ?_
        exact xt_iret X (i_rc (-9) rfl) h dX6_formerPlace_22
abbrev rmX6_isLaidAnew : Room := { frames := 2, cells := 0, slots := 0, locals := 46 }
def BX6_isLaidAnew_23  (Q : Int → Mm → Prop) (v0 : Int) (v1 : Int) (v2 : Int) (rec : Int → Mm → Prop) (v3 : Int) (M : Mm) : Prop :=
  ((0 ≤ v2 ∧ v2 < 12) ∧
  (((M ((v0 + M v0 4) + 1) v2) ≤ v3 → Q 0 M) ∧
  (¬ (M ((v0 + M v0 4) + 1) v2) ≤ v3 → ((0 ≤ ((v2 * 24) + v3) ∧ ((v2 * 24) + v3) < 288) ∧
  ((0 ≤ ((v1 * 24) + v3) ∧ ((v1 * 24) + v3) < 288) ∧
  (((M ((v0 + M v0 4) + 6) ((v2 * 24) + v3)) = (M ((v0 + M v0 5) + 6) ((v1 * 24) + v3)) → (inR (v3 + 1) ∧
  rec (v3 + 1) M)) ∧
  (¬ (M ((v0 + M v0 4) + 6) ((v2 * 24) + v3)) = (M ((v0 + M v0 5) + 6) ((v1 * 24) + v3)) → Q 1 M)))))))
def PX6_isLaidAnew (v0 : Int) (v1 : Int) (v2 : Int) (M : Mm) (Q : Int → Mm → Prop) : Prop :=
  (PX4_latest (v0 + 5) M (fun z_1 M_2 =>
  (PX3_hasSameSigns (v0 + 1) v2 z_1 v1 M_2 (fun z_3 M_4 =>
  ((z_3 = 0 → Q 1 M_4) ∧
  (¬ z_3 = 0 → ∃ n_15 : Nat, lp_I (BX6_isLaidAnew_23  Q v0 v1 v2) n_15 0 M_4))))))
set_option maxHeartbeats 4000000 in
set_option maxRecDepth 100000 in
theorem wX6_isLaidAnew_23 {p : Program} {l : Launch} {e : Env} {s : State} {m : MethodId} {args : Array Value} {below : List Frame} {meth : Method} {c : Code} {G : GG} (X : Cx p s m args meth c cX6_isLaidAnew 4 ((some FieldType.boolean)) RX6 G) {Q : Int → Mm → Prop}  {v0 : Int} {v1 : Int} {v2 : Int} (k0 : gK G v0 = (6, 0)) (r1 : inR v1) (r2 : inR v2)  : ∀ (n : Nat) (v3 : Int) (M : Mm), inR v3 → lp_I (BX6_isLaidAnew_23  Q v0 v1 v2) n v3 M → Wt p l e rmX6_isLaidAnew s m args below meth c G (MQ below (PostI G Q) args s 0 0 (gA G)) 4 M [(0, rV (v0)), (1, iV (v1)), (2, iV (v2)), (3, iV (v3))] 23 [] := by
  have hG := X.2.2.2.2.2.2.2.2
  intro n
  induction n with
  | zero => intro v3 M r3 h; exact h.elim
  | succ n ih =>
    intro v3 M r3 h
    have h : BX6_isLaidAnew_23  Q v0 v1 v2 (lp_I (BX6_isLaidAnew_23  Q v0 v1 v2) n) v3 M := h
    unfold BX6_isLaidAnew_23 at h
    refine xt_il X dX6_isLaidAnew_23 rfl 3 rfl ?_
    refine xt_al X dX6_isLaidAnew_24 rfl 0 rfl ?_
    refine gfX6_39 X k0 dX6_isLaidAnew_25 (fun k_5 => ?_)
    refine gfX6_134 X k_5 dX6_isLaidAnew_28 ?_
    refine xt_il X dX6_isLaidAnew_31 rfl 2 rfl ?_
    obtain ⟨g_6, h⟩ := h
    refine xt_iald X (kd_X2_1 hG k_5) g_6 (by decide) dX6_isLaidAnew_32 (fun r_7 => ?_)
    refine xt_cge (tgt := 75) X r3 r_7 dX6_isLaidAnew_33 (by decide) (fun hc => ?_) (fun hc => ?_)
    · have h := h.1 hc
      refine xt_ic X dX6_isLaidAnew_75 ?_
      exact xt_zret X (Or.inl rfl) h dX6_isLaidAnew_76
    · have h := h.2 hc
      refine xt_al X dX6_isLaidAnew_36 rfl 0 rfl ?_
      refine gfX6_39 X k0 dX6_isLaidAnew_37 (fun k_8 => ?_)
      refine gfX6_144 X k_8 dX6_isLaidAnew_40 ?_
      refine xt_il X dX6_isLaidAnew_43 rfl 2 rfl ?_
      refine xt_bi X dX6_isLaidAnew_44 (by decide) ?_
      refine xt_mul X dX6_isLaidAnew_46 ?_
      refine xt_il X dX6_isLaidAnew_47 rfl 3 rfl ?_
      refine xt_add X dX6_isLaidAnew_48 ?_
      obtain ⟨g_9, h⟩ := h
      refine xt_iald X (kd_X2_6 hG k_8) g_9 (by decide) dX6_isLaidAnew_49 (fun r_10 => ?_)
      refine xt_al X dX6_isLaidAnew_50 rfl 0 rfl ?_
      refine gfX6_43 X k0 dX6_isLaidAnew_51 (fun k_11 => ?_)
      refine gfX6_144 X k_11 dX6_isLaidAnew_54 ?_
      refine xt_il X dX6_isLaidAnew_57 rfl 1 rfl ?_
      refine xt_bi X dX6_isLaidAnew_58 (by decide) ?_
      refine xt_mul X dX6_isLaidAnew_60 ?_
      refine xt_il X dX6_isLaidAnew_61 rfl 3 rfl ?_
      refine xt_add X dX6_isLaidAnew_62 ?_
      obtain ⟨g_12, h⟩ := h
      refine xt_iald X (kd_X2_6 hG k_11) g_12 (by decide) dX6_isLaidAnew_63 (fun r_13 => ?_)
      refine xt_ceq (tgt := 69) X r_10 r_13 dX6_isLaidAnew_64 (by decide) (fun hc => ?_) (fun hc => ?_)
      · have h := h.1 hc
        refine xt_inc (lv2 := [(3, iV (v3 + 1)), (0, rV (v0)), (1, iV (v1)), (2, iV (v2))]) X dX6_isLaidAnew_69 3 rfl (by decide) rfl ?_
        refine xt_goto (tgt := 23) X dX6_isLaidAnew_72 (by decide) ?_
        obtain ⟨g_14, h⟩ := h
        refine xt_perm (lv2 := [(0, rV (v0)), (1, iV (v1)), (2, iV (v2)), (3, iV (v3 + 1))]) [1, 2, 3, 0] rfl ?_
        exact ih (v3 + 1) M g_14 h
      · have h := h.2 hc
        refine xt_ic X dX6_isLaidAnew_67 ?_
        exact xt_zret X (Or.inr rfl) h dX6_isLaidAnew_68
set_option maxHeartbeats 4000000 in
set_option maxRecDepth 100000 in
theorem ctX6_isLaidAnew {l : Launch} {G : GG} (hG : Gd G) {v0 : Int} {v1 : Int} {v2 : Int} {M : Mm} {Q : Int → Mm → Prop} (k0 : gK G v0 = (6, 0)) (r1 : inR v1) (r2 : inR v2) (h : PX6_isLaidAnew v0 v1 v2 M Q) : Met l yX6_isLaidAnew (Cond.code yX6_isLaidAnew cX6_isLaidAnew 4 ((some FieldType.boolean)) :: tw) rmX6_isLaidAnew (Pre G M [rV (v0), iV (v1), iV (v2)]) (PostI G Q) 0 0 (gA G) := by
  refine met_of (own := RX6) (by decide) rfl hG (Nat.le_of_ble_eq_true rfl) (fun p e s m below meth c X => ?_)
  generalize hargs : ([rV (v0), iV (v1), iV (v2)] : List Value).toArray = args at X ⊢
  show Wt p l e rmX6_isLaidAnew s m args below meth c G (MQ below (PostI G Q) args s 0 0 (gA G)) 4 M [(0, rV (v0)), (1, iV (v1)), (2, iV (v2))] 0 []
  unfold PX6_isLaidAnew at h
  refine xt_al X dX6_isLaidAnew_0 rfl 0 rfl ?_
  refine gfX6_10 X k0 dX6_isLaidAnew_1 ?_
  refine xt_il X dX6_isLaidAnew_4 rfl 2 rfl ?_
  refine xt_al X dX6_isLaidAnew_5 rfl 0 rfl ?_
  refine gfX6_19 X k0 dX6_isLaidAnew_6 ?_
  refine xt_cVR X [] [iV (v2), rV (v0 + 1)] (ctX4_latest hG (kd_X6_1 hG k0) h) gdX6_118 pdX4_latest ⟨rfl, rfl⟩ ⟨Nat.le_of_ble_eq_true rfl, Nat.le_of_ble_eq_true rfl⟩ rfl (k_lt (kd_X6_1 hG k0) (by decide)) (by rw [(kd_X6_1 hG k0)]; rfl) rfl (Nat.le_of_ble_eq_true rfl) dX6_isLaidAnew_9 (fun z_1 M_2 z_1r h => ?_)
  refine xt_il X dX6_isLaidAnew_12 rfl 1 rfl ?_
  refine xt_cVI X [iV (v2), rV (z_1), iV (v1)] [] (ctX3_hasSameSigns hG (kd_X6_0 hG k0) r2 z_1r r1 h) gdX6_257 pdX3_hasSameSigns ⟨rfl, rfl⟩ ⟨Nat.le_of_ble_eq_true rfl, Nat.le_of_ble_eq_true rfl⟩ rfl (k_lt (kd_X6_0 hG k0) (by decide)) (by rw [(kd_X6_0 hG k0)]; rfl) rfl (Nat.le_of_ble_eq_true rfl) dX6_isLaidAnew_13 (fun z_3 M_4 z_3r h => ?_)
  refine xt_zne (tgt := 21) X z_3r dX6_isLaidAnew_16 (by decide) (fun hc => ?_) (fun hc => ?_)
  · have h := h.2 hc
    refine xt_ic X dX6_isLaidAnew_21 ?_
    refine xt_is (lv2 := [(3, iV (0)), (0, rV (v0)), (1, iV (v1)), (2, iV (v2))]) X dX6_isLaidAnew_22 rfl (by decide) rfl ?_
    obtain ⟨n_15, h⟩ := h
    refine xt_perm (lv2 := [(0, rV (v0)), (1, iV (v1)), (2, iV (v2)), (3, iV (0))]) [1, 2, 3, 0] rfl ?_
    refine wX6_isLaidAnew_23 X k0 r1 r2  n_15 0 M_4 (i_rc 0 rfl) h
  · have h := h.1 hc
    refine xt_ic X dX6_isLaidAnew_19 ?_
    exact xt_zret X (Or.inr rfl) h dX6_isLaidAnew_20
abbrev rmX6_settle : Room := { frames := 3, cells := 0, slots := 0, locals := 94 }
def JX6_settle_74 (rec : Int → Mm → Prop) (Q : Mm → Prop) (v0 : Int) (v1 : Int) (v2 : Int) (v4 : Int) (M : Mm) : Prop :=
  (∀ M_15 : Mm, M_15 = um M v0 6 (iOr (M v0 6) (iShl 1 v4)) →
  (inR (v4 + 1) ∧
  rec (v4 + 1) M_15))
def BX6_settle_37  (Q : Mm → Prop) (v0 : Int) (v1 : Int) (v2 : Int) (rec : Int → Mm → Prop) (v4 : Int) (M : Mm) : Prop :=
  (((M (v0 + 1) 0) ≤ v4 → Q M) ∧
  (¬ (M (v0 + 1) 0) ≤ v4 → (PX6_formerPlace v4 v1 v2 M (fun z_12 M_13 =>
  ((z_12 < 0 → JX6_settle_74 rec Q v0 v1 v2 v4 M_13) ∧
  (¬ z_12 < 0 → (PX6_isLaidAnew v0 z_12 v4 M_13 (fun z_17 M_18 =>
  ((z_17 = 0 → (inR (v4 + 1) ∧
  rec (v4 + 1) M_18)) ∧
  (¬ z_17 = 0 → JX6_settle_74 rec Q v0 v1 v2 v4 M_18))))))))))
def PX6_settle (v0 : Int) (v1 : Int) (v2 : Int) (M : Mm) (Q : Mm → Prop) : Prop :=
  (inR ((v0 + M v0 5) - v0) ∧
  (∀ M_3 : Mm, M_3 = um M v0 4 ((v0 + M v0 5) - v0) →
  (inR ((v0 + M v0 4) - v0) ∧
  (∀ M_5 : Mm, M_5 = um M_3 v0 5 ((v0 + M v0 4) - v0) →
  (PX2_lay (v0 + M_5 v0 4) (v0 + 1) M_5 (fun M_9 =>
  (∀ M_10 : Mm, M_10 = um M_9 v0 6 0 →
  ∃ n_20 : Nat, lp_I (BX6_settle_37  Q v0 v1 v2) n_20 0 M_10)))))))
set_option maxHeartbeats 4000000 in
set_option maxRecDepth 100000 in
theorem jX6_settle_74 {p : Program} {l : Launch} {e : Env} {s : State} {m : MethodId} {args : Array Value} {below : List Frame} {meth : Method} {c : Code} {G : GG} (X : Cx p s m args meth c cX6_settle 6 (none) RX6 G) {Q : Mm → Prop} {rec : Int → Mm → Prop} {v0 : Int} {v1 : Int} {v2 : Int} {v4 : Int} (ih : ∀ (v4 : Int) (M : Mm), inR v4 → rec v4 M → Wt p l e rmX6_settle s m args below meth c G (MQ below (PostV G Q) args s 0 0 (gA G)) 6 M [(0, rV (v0)), (1, iV (v1)), (2, iV (v2)), (4, iV (v4))] 37 []) (k0 : gK G v0 = (6, 0)) (r1 : inR v1) (r2 : inR v2) (r4 : inR v4) {M : Mm} (h : JX6_settle_74 rec Q v0 v1 v2 v4 M) : Wt p l e rmX6_settle s m args below meth c G (MQ below (PostV G Q) args s 0 0 (gA G)) 6 M [(0, rV (v0)), (1, iV (v1)), (2, iV (v2)), (4, iV (v4))] 74 [] := by
  have hG := X.2.2.2.2.2.2.2.2
  unfold JX6_settle_74 at h
  refine xt_al X dX6_settle_74 rfl 0 rfl ?_
  refine xt_dup X rfl dX6_settle_75 ?_
  refine gfX6_131 X k0 dX6_settle_76 (fun r_14 => ?_)
  refine xt_ic X dX6_settle_79 ?_
  refine xt_ilw X dX6_settle_80 3 rfl ?_
  refine xt_shl X dX6_settle_82 ?_
  refine xt_or X dX6_settle_83 ?_
  refine pfX6_131 X k0 (i_rg _) dX6_settle_84 (fun M_15 hm => ?_)
  have h := h M_15 hm
  refine xt_inc (lv2 := [(4, iV (v4 + 1)), (0, rV (v0)), (1, iV (v1)), (2, iV (v2))]) X dX6_settle_87 3 rfl (by decide) rfl ?_
  refine xt_goto (tgt := 37) X dX6_settle_90 (by decide) ?_
  obtain ⟨g_16, h⟩ := h
  refine xt_perm (lv2 := [(0, rV (v0)), (1, iV (v1)), (2, iV (v2)), (4, iV (v4 + 1))]) [1, 2, 3, 0] rfl ?_
  exact ih (v4 + 1) M_15 g_16 h
set_option maxHeartbeats 4000000 in
set_option maxRecDepth 100000 in
theorem wX6_settle_37 {p : Program} {l : Launch} {e : Env} {s : State} {m : MethodId} {args : Array Value} {below : List Frame} {meth : Method} {c : Code} {G : GG} (X : Cx p s m args meth c cX6_settle 6 (none) RX6 G) {Q : Mm → Prop}  {v0 : Int} {v1 : Int} {v2 : Int} (k0 : gK G v0 = (6, 0)) (r1 : inR v1) (r2 : inR v2)  : ∀ (n : Nat) (v4 : Int) (M : Mm), inR v4 → lp_I (BX6_settle_37  Q v0 v1 v2) n v4 M → Wt p l e rmX6_settle s m args below meth c G (MQ below (PostV G Q) args s 0 0 (gA G)) 6 M [(0, rV (v0)), (1, iV (v1)), (2, iV (v2)), (4, iV (v4))] 37 [] := by
  have hG := X.2.2.2.2.2.2.2.2
  intro n
  induction n with
  | zero => intro v4 M r4 h; exact h.elim
  | succ n ih =>
    intro v4 M r4 h
    have h : BX6_settle_37  Q v0 v1 v2 (lp_I (BX6_settle_37  Q v0 v1 v2) n) v4 M := h
    unfold BX6_settle_37 at h
    refine xt_ilw X dX6_settle_37 3 rfl ?_
    refine xt_al X dX6_settle_39 rfl 0 rfl ?_
    refine gfX6_10 X k0 dX6_settle_40 ?_
    refine gfX6_102 X (kd_X6_0 hG k0) dX6_settle_43 (fun r_11 => ?_)
    refine xt_cge (tgt := 93) X r4 r_11 dX6_settle_46 (by decide) (fun hc => ?_) (fun hc => ?_)
    · have h := h.1 hc
      exact xt_vret X h dX6_settle_93
    · have h := h.2 hc
      refine xt_ilw X dX6_settle_49 3 rfl ?_
      refine xt_il X dX6_settle_51 rfl 1 rfl ?_
      refine xt_il X dX6_settle_52 rfl 2 rfl ?_
      refine xt_cSI X [iV (v4), iV (v1), iV (v2)] [] (ctX6_formerPlace hG r4 r1 r2 h) gdX6_251 pdX6_formerPlace ⟨rfl, rfl⟩ ⟨Nat.le_of_ble_eq_true rfl, Nat.le_of_ble_eq_true rfl⟩ rfl (Nat.le_of_ble_eq_true rfl) dX6_settle_53 (fun z_12 M_13 z_12r h => ?_)
      refine xt_isw (lv2 := [(5, iV (z_12)), (0, rV (v0)), (1, iV (v1)), (2, iV (v2)), (4, iV (v4))]) X dX6_settle_56 (by decide) rfl ?_
      refine xt_ilw X dX6_settle_58 0 rfl ?_
      refine xt_zlt (tgt := 74) X z_12r dX6_settle_60 (by decide) (fun hc => ?_) (fun hc => ?_)
      · have h := h.1 hc
        refine xt_perm (lv2 := [(0, rV (v0)), (1, iV (v1)), (2, iV (v2)), (4, iV (v4))]) [1, 2, 3, 4] rfl ?_
        exact jX6_settle_74 X ih k0 r1 r2 r4 h
      · have h := h.2 hc
        refine xt_al X dX6_settle_63 rfl 1 rfl ?_
        refine xt_ilw X dX6_settle_64 0 rfl ?_
        refine xt_ilw X dX6_settle_66 4 rfl ?_
        refine xt_cVI X [iV (z_12), iV (v4)] [] (ctX6_isLaidAnew hG k0 z_12r r4 h) gdX6_254 pdX6_isLaidAnew ⟨rfl, rfl⟩ ⟨Nat.le_of_ble_eq_true rfl, Nat.le_of_ble_eq_true rfl⟩ rfl (k_lt k0 (by decide)) (by rw [k0]; rfl) rfl (Nat.le_of_ble_eq_true rfl) dX6_settle_68 (fun z_17 M_18 z_17r h => ?_)
        refine xt_zeq (tgt := 87) X z_17r dX6_settle_71 (by decide) (fun hc => ?_) (fun hc => ?_)
        · have h := h.1 hc
          refine xt_inc (lv2 := [(4, iV (v4 + 1)), (5, iV (z_12)), (0, rV (v0)), (1, iV (v1)), (2, iV (v2))]) X dX6_settle_87 4 rfl (by decide) rfl ?_
          refine xt_goto (tgt := 37) X dX6_settle_90 (by decide) ?_
          obtain ⟨g_19, h⟩ := h
          refine xt_perm (lv2 := [(0, rV (v0)), (1, iV (v1)), (2, iV (v2)), (4, iV (v4 + 1))]) [2, 3, 4, 0] rfl ?_
          exact ih (v4 + 1) M_18 g_19 h
        · have h := h.2 hc
          refine xt_perm (lv2 := [(0, rV (v0)), (1, iV (v1)), (2, iV (v2)), (4, iV (v4))]) [1, 2, 3, 4] rfl ?_
          exact jX6_settle_74 X ih k0 r1 r2 r4 h
set_option maxHeartbeats 4000000 in
set_option maxRecDepth 100000 in
theorem ctX6_settle {l : Launch} {G : GG} (hG : Gd G) {v0 : Int} {v1 : Int} {v2 : Int} {M : Mm} {Q : Mm → Prop} (k0 : gK G v0 = (6, 0)) (r1 : inR v1) (r2 : inR v2) (h : PX6_settle v0 v1 v2 M Q) : Met l yX6_settle (Cond.code yX6_settle cX6_settle 6 (none) :: tw) rmX6_settle (Pre G M [rV (v0), iV (v1), iV (v2)]) (PostV G Q) 0 0 (gA G) := by
  refine met_of (own := RX6) (by decide) rfl hG (Nat.le_of_ble_eq_true rfl) (fun p e s m below meth c X => ?_)
  generalize hargs : ([rV (v0), iV (v1), iV (v2)] : List Value).toArray = args at X ⊢
  show Wt p l e rmX6_settle s m args below meth c G (MQ below (PostV G Q) args s 0 0 (gA G)) 6 M [(0, rV (v0)), (1, iV (v1)), (2, iV (v2))] 0 []
  unfold PX6_settle at h
  refine xt_al X dX6_settle_0 rfl 0 rfl ?_
  refine gfX6_39 X k0 dX6_settle_1 (fun k_1 => ?_)
  refine xt_as (lv2 := [(3, rV (v0 + M v0 4)), (0, rV (v0)), (1, iV (v1)), (2, iV (v2))]) X dX6_settle_4 rfl (by decide) rfl ?_
  refine xt_al X dX6_settle_5 rfl 1 rfl ?_
  refine xt_al X dX6_settle_6 rfl 1 rfl ?_
  refine gfX6_43 X k0 dX6_settle_7 (fun k_2 => ?_)
  obtain ⟨g_4, h⟩ := h
  refine pfX6_39 X k0 k_2 g_4 dX6_settle_10 (fun M_3 hm => ?_)
  have h := h M_3 hm
  refine xt_al X dX6_settle_13 rfl 1 rfl ?_
  refine xt_al X dX6_settle_14 rfl 0 rfl ?_
  obtain ⟨g_6, h⟩ := h
  refine pfX6_43 X k0 k_1 g_6 dX6_settle_15 (fun M_5 hm => ?_)
  have h := h M_5 hm
  refine xt_al X dX6_settle_18 rfl 1 rfl ?_
  refine gfX6_39 X k0 dX6_settle_19 (fun k_7 => ?_)
  refine xt_al X dX6_settle_22 rfl 1 rfl ?_
  refine gfX6_10 X k0 dX6_settle_23 ?_
  refine xt_cVV X [rV (v0 + 1)] [] (ctX2_lay hG k_7 (kd_X6_0 hG k0) h) gdX6_128 pdX2_lay ⟨rfl, rfl⟩ ⟨Nat.le_of_ble_eq_true rfl, Nat.le_of_ble_eq_true rfl⟩ rfl (k_lt k_7 (by decide)) (by rw [k_7]; rfl) rfl (Nat.le_of_ble_eq_true rfl) dX6_settle_26 (fun M_9 h => ?_)
  refine xt_al X dX6_settle_29 rfl 1 rfl ?_
  refine xt_ic X dX6_settle_30 ?_
  refine pfX6_131 X k0 (i_rc 0 rfl) dX6_settle_31 (fun M_10 hm => ?_)
  have h := h M_10 hm
  refine xt_ic X dX6_settle_34 ?_
  refine xt_isw (lv2 := [(4, iV (0)), (3, rV (v0 + M v0 4)), (0, rV (v0)), (1, iV (v1)), (2, iV (v2))]) X dX6_settle_35 (by decide) rfl ?_
  obtain ⟨n_20, h⟩ := h
  refine xt_perm (lv2 := [(0, rV (v0)), (1, iV (v1)), (2, iV (v2)), (4, iV (0))]) [2, 3, 4, 0] rfl ?_
  refine wX6_settle_37 X k0 r1 r2  n_20 0 M_10 (i_rc 0 rfl) h
abbrev rmX6_addLine : Room := { frames := 4, cells := 0, slots := 0, locals := 119 }
def JX6_addLine_112  (Q : Int → Mm → Prop) (v0 : Int) (v1 : Int) (M : Mm) : Prop :=
  (PX6_settle v0 v1 ((-9)) M (fun M_10 =>
  Q (M_10 (v0 + 1) 0) M_10))
def BX6_addLine_69 (ke112 : Mm → Prop) (Q : Int → Mm → Prop) (v0 : Int) (v1 : Int) (rec : Int → Mm → Prop) (v2 : Int) (M : Mm) : Prop :=
  (((M (v0 + 47) 6) ≤ v2 → ke112 M) ∧
  (¬ (M (v0 + 47) 6) ≤ v2 → ((0 ≤ v2 ∧ v2 < 150) ∧
  (inR (v2 - (M (v0 + 47) 5)) ∧
  (PX3_insertSign (v0 + 1) v1 (v2 - (M (v0 + 47) 5)) (M ((v0 + 47) + 1) v2) M (fun M_19 =>
  (inR (v2 + 1) ∧
  rec (v2 + 1) M_19)))))))
def PX6_addLine (v0 : Int) (v1 : Int) (M : Mm) (Q : Int → Mm → Prop) : Prop :=
  ((v1 < 0 → Q ((-1)) M) ∧
  (¬ v1 < 0 → ((v1 ≤ (M (v0 + 1) 0) → (((M (v0 + 1) 0) < 12 → (PX4_remember (v0 + 5) (v0 + 1) M (fun M_4 =>
  (PX3_openLine (v0 + 1) v1 M_4 (fun M_6 =>
  (PX5_isLoneDash (v0 + 47) M_6 (fun z_7 M_8 =>
  ((z_7 = 0 → ∃ n_21 : Nat, lp_I (BX6_addLine_69 (fun M_22 => JX6_addLine_112  Q v0 v1 M_22) Q v0 v1) n_21 (M_8 (v0 + 47) 5) M_8) ∧
  (¬ z_7 = 0 → JX6_addLine_112  Q v0 v1 M_8))))))))) ∧
  (¬ (M (v0 + 1) 0) < 12 → Q ((-3)) M))) ∧
  (¬ v1 ≤ (M (v0 + 1) 0) → Q ((-1)) M))))
set_option maxHeartbeats 4000000 in
set_option maxRecDepth 100000 in
theorem jX6_addLine_112 {p : Program} {l : Launch} {e : Env} {s : State} {m : MethodId} {args : Array Value} {below : List Frame} {meth : Method} {c : Code} {G : GG} (X : Cx p s m args meth c cX6_addLine 3 ((some FieldType.int)) RX6 G) {Q : Int → Mm → Prop}  {v0 : Int} {v1 : Int}  (k0 : gK G v0 = (6, 0)) (r1 : inR v1) {M : Mm} (h : JX6_addLine_112  Q v0 v1 M) : Wt p l e rmX6_addLine s m args below meth c G (MQ below (PostI G Q) args s 0 0 (gA G)) 3 M [(0, rV (v0)), (1, iV (v1))] 112 [] := by
  have hG := X.2.2.2.2.2.2.2.2
  unfold JX6_addLine_112 at h
  refine xt_al X dX6_addLine_112 rfl 0 rfl ?_
  refine xt_il X dX6_addLine_113 rfl 1 rfl ?_
  refine xt_bi X dX6_addLine_114 (by decide) ?_
  refine xt_cVV X [iV (v1), iV ((-9))] [] (ctX6_settle hG k0 r1 (i_rc (-9) rfl) h) gdX6_87 pdX6_settle ⟨rfl, rfl⟩ ⟨Nat.le_of_ble_eq_true rfl, Nat.le_of_ble_eq_true rfl⟩ rfl (k_lt k0 (by decide)) (by rw [k0]; rfl) rfl (Nat.le_of_ble_eq_true rfl) dX6_addLine_116 (fun M_10 h => ?_)
  refine xt_al X dX6_addLine_119 rfl 0 rfl ?_
  refine gfX6_10 X k0 dX6_addLine_120 ?_
  refine gfX6_102 X (kd_X6_0 hG k0) dX6_addLine_123 (fun r_11 => ?_)
  exact xt_iret X r_11 h dX6_addLine_126
set_option maxHeartbeats 4000000 in
set_option maxRecDepth 100000 in
theorem wX6_addLine_69 {p : Program} {l : Launch} {e : Env} {s : State} {m : MethodId} {args : Array Value} {below : List Frame} {meth : Method} {c : Code} {G : GG} (X : Cx p s m args meth c cX6_addLine 3 ((some FieldType.int)) RX6 G) {Q : Int → Mm → Prop} {ke112 : Mm → Prop} {v0 : Int} {v1 : Int} (k0 : gK G v0 = (6, 0)) (r1 : inR v1) (hke112 : ∀ (M : Mm), ke112  M → Wt p l e rmX6_addLine s m args below meth c G (MQ below (PostI G Q) args s 0 0 (gA G)) 3 M [(0, rV (v0)), (1, iV (v1))] 112 []) : ∀ (n : Nat) (v2 : Int) (M : Mm), inR v2 → lp_I (BX6_addLine_69 ke112 Q v0 v1) n v2 M → Wt p l e rmX6_addLine s m args below meth c G (MQ below (PostI G Q) args s 0 0 (gA G)) 3 M [(0, rV (v0)), (1, iV (v1)), (2, iV (v2))] 69 [] := by
  have hG := X.2.2.2.2.2.2.2.2
  intro n
  induction n with
  | zero => intro v2 M r2 h; exact h.elim
  | succ n ih =>
    intro v2 M r2 h
    have h : BX6_addLine_69 ke112 Q v0 v1 (lp_I (BX6_addLine_69 ke112 Q v0 v1) n) v2 M := h
    unfold BX6_addLine_69 at h
    refine xt_il X dX6_addLine_69 rfl 2 rfl ?_
    refine xt_al X dX6_addLine_70 rfl 0 rfl ?_
    refine gfX6_26 X k0 dX6_addLine_71 ?_
    refine gfX6_248 X (kd_X6_2 hG k0) dX6_addLine_74 (fun r_13 => ?_)
    refine xt_cge (tgt := 112) X r2 r_13 dX6_addLine_77 (by decide) (fun hc => ?_) (fun hc => ?_)
    · have h := h.1 hc
      refine xt_perm (lv2 := [(0, rV (v0)), (1, iV (v1))]) [0, 1] rfl ?_
      exact hke112 M  h
    · have h := h.2 hc
      refine xt_al X dX6_addLine_80 rfl 0 rfl ?_
      refine gfX6_10 X k0 dX6_addLine_81 ?_
      refine xt_il X dX6_addLine_84 rfl 1 rfl ?_
      refine xt_il X dX6_addLine_85 rfl 2 rfl ?_
      refine xt_al X dX6_addLine_86 rfl 0 rfl ?_
      refine gfX6_26 X k0 dX6_addLine_87 ?_
      refine gfX6_226 X (kd_X6_2 hG k0) dX6_addLine_90 (fun r_14 => ?_)
      refine xt_sub X dX6_addLine_93 ?_
      refine xt_al X dX6_addLine_94 rfl 0 rfl ?_
      refine gfX6_26 X k0 dX6_addLine_95 ?_
      refine gfX6_51 X (kd_X6_2 hG k0) dX6_addLine_98 ?_
      refine xt_il X dX6_addLine_101 rfl 2 rfl ?_
      obtain ⟨g_15, h⟩ := h
      refine xt_iald X (kd_X5_0 hG (kd_X6_2 hG k0)) g_15 (by decide) dX6_addLine_102 (fun r_16 => ?_)
      obtain ⟨g_17, h⟩ := h
      refine xt_cVV X [iV (v1), iV (v2 - (M (v0 + 47) 5)), iV (M ((v0 + 47) + 1) v2)] [] (ctX3_insertSign hG (kd_X6_0 hG k0) r1 g_17 r_16 h) gdX6_83 pdX3_insertSign ⟨rfl, rfl⟩ ⟨Nat.le_of_ble_eq_true rfl, Nat.le_of_ble_eq_true rfl⟩ rfl (k_lt (kd_X6_0 hG k0) (by decide)) (by rw [(kd_X6_0 hG k0)]; rfl) rfl (Nat.le_of_ble_eq_true rfl) dX6_addLine_103 (fun M_19 h => ?_)
      refine xt_inc (lv2 := [(2, iV (v2 + 1)), (0, rV (v0)), (1, iV (v1))]) X dX6_addLine_106 2 rfl (by decide) rfl ?_
      refine xt_goto (tgt := 69) X dX6_addLine_109 (by decide) ?_
      obtain ⟨g_20, h⟩ := h
      refine xt_perm (lv2 := [(0, rV (v0)), (1, iV (v1)), (2, iV (v2 + 1))]) [1, 2, 0] rfl ?_
      exact ih (v2 + 1) M_19 g_20 h
set_option maxHeartbeats 4000000 in
set_option maxRecDepth 100000 in
theorem ctX6_addLine {l : Launch} {G : GG} (hG : Gd G) {v0 : Int} {v1 : Int} {M : Mm} {Q : Int → Mm → Prop} (k0 : gK G v0 = (6, 0)) (r1 : inR v1) (h : PX6_addLine v0 v1 M Q) : Met l yX6_addLine (Cond.code yX6_addLine cX6_addLine 3 ((some FieldType.int)) :: tw) rmX6_addLine (Pre G M [rV (v0), iV (v1)]) (PostI G Q) 0 0 (gA G) := by
  refine met_of (own := RX6) (by decide) rfl hG (Nat.le_of_ble_eq_true rfl) (fun p e s m below meth c X => ?_)
  generalize hargs : ([rV (v0), iV (v1)] : List Value).toArray = args at X ⊢
  show Wt p l e rmX6_addLine s m args below meth c G (MQ below (PostI G Q) args s 0 0 (gA G)) 3 M [(0, rV (v0)), (1, iV (v1))] 0 []
  unfold PX6_addLine at h
  refine xt_il X dX6_addLine_0 rfl 1 rfl ?_
  refine xt_zlt (tgt := 15) X r1 dX6_addLine_1 (by decide) (fun hc => ?_) (fun hc => ?_)
  · have h := h.1 hc
    refine xt_ic X dX6_addLine_15 ?_
    exact xt_iret X (i_rc (-1) rfl) h dX6_addLine_16
  · have h := h.2 hc
    refine xt_il X dX6_addLine_4 rfl 1 rfl ?_
    refine xt_al X dX6_addLine_5 rfl 0 rfl ?_
    refine gfX6_10 X k0 dX6_addLine_6 ?_
    refine gfX6_102 X (kd_X6_0 hG k0) dX6_addLine_9 (fun r_1 => ?_)
    refine xt_cle (tgt := 17) X r1 r_1 dX6_addLine_12 (by decide) (fun hc => ?_) (fun hc => ?_)
    · have h := h.1 hc
      refine xt_al X dX6_addLine_17 rfl 0 rfl ?_
      refine gfX6_10 X k0 dX6_addLine_18 ?_
      refine gfX6_102 X (kd_X6_0 hG k0) dX6_addLine_21 (fun r_2 => ?_)
      refine xt_bi X dX6_addLine_24 (by decide) ?_
      refine xt_clt (tgt := 32) X r_2 (i_rc 12 rfl) dX6_addLine_26 (by decide) (fun hc => ?_) (fun hc => ?_)
      · have h := h.1 hc
        refine xt_al X dX6_addLine_32 rfl 0 rfl ?_
        refine gfX6_19 X k0 dX6_addLine_33 ?_
        refine xt_al X dX6_addLine_36 rfl 0 rfl ?_
        refine gfX6_10 X k0 dX6_addLine_37 ?_
        refine xt_cVV X [rV (v0 + 1)] [] (ctX4_remember hG (kd_X6_1 hG k0) (kd_X6_0 hG k0) h) gdX6_79 pdX4_remember ⟨rfl, rfl⟩ ⟨Nat.le_of_ble_eq_true rfl, Nat.le_of_ble_eq_true rfl⟩ rfl (k_lt (kd_X6_1 hG k0) (by decide)) (by rw [(kd_X6_1 hG k0)]; rfl) rfl (Nat.le_of_ble_eq_true rfl) dX6_addLine_40 (fun M_4 h => ?_)
        refine xt_al X dX6_addLine_43 rfl 0 rfl ?_
        refine gfX6_10 X k0 dX6_addLine_44 ?_
        refine xt_il X dX6_addLine_47 rfl 1 rfl ?_
        refine xt_cVV X [iV (v1)] [] (ctX3_openLine hG (kd_X6_0 hG k0) r1 h) gdX6_105 pdX3_openLine ⟨rfl, rfl⟩ ⟨Nat.le_of_ble_eq_true rfl, Nat.le_of_ble_eq_true rfl⟩ rfl (k_lt (kd_X6_0 hG k0) (by decide)) (by rw [(kd_X6_0 hG k0)]; rfl) rfl (Nat.le_of_ble_eq_true rfl) dX6_addLine_48 (fun M_6 h => ?_)
        refine xt_al X dX6_addLine_51 rfl 0 rfl ?_
        refine gfX6_26 X k0 dX6_addLine_52 ?_
        refine xt_cVI X [] [] (ctX5_isLoneDash hG (kd_X6_2 hG k0) h) gdX6_245 pdX5_isLoneDash ⟨rfl, rfl⟩ ⟨Nat.le_of_ble_eq_true rfl, Nat.le_of_ble_eq_true rfl⟩ rfl (k_lt (kd_X6_2 hG k0) (by decide)) (by rw [(kd_X6_2 hG k0)]; rfl) rfl (Nat.le_of_ble_eq_true rfl) dX6_addLine_55 (fun z_7 M_8 z_7r h => ?_)
        refine xt_zne (tgt := 112) X z_7r dX6_addLine_58 (by decide) (fun hc => ?_) (fun hc => ?_)
        · have h := h.2 hc
          exact jX6_addLine_112 X  k0 r1 h
        · have h := h.1 hc
          refine xt_al X dX6_addLine_61 rfl 0 rfl ?_
          refine gfX6_26 X k0 dX6_addLine_62 ?_
          refine gfX6_226 X (kd_X6_2 hG k0) dX6_addLine_65 (fun r_12 => ?_)
          refine xt_is (lv2 := [(2, iV (M_8 (v0 + 47) 5)), (0, rV (v0)), (1, iV (v1))]) X dX6_addLine_68 rfl (by decide) rfl ?_
          obtain ⟨n_21, h⟩ := h
          refine xt_perm (lv2 := [(0, rV (v0)), (1, iV (v1)), (2, iV (M_8 (v0 + 47) 5))]) [1, 2, 0] rfl ?_
          refine wX6_addLine_69 X k0 r1 (fun M_22 h => ?_) n_21 (M_8 (v0 + 47) 5) M_8 r_12 h
          exact jX6_addLine_112 X  k0 r1 h
      · have h := h.2 hc
        refine xt_bi X dX6_addLine_29 (by decide) ?_
        exact xt_iret X (i_rc (-3) rfl) h dX6_addLine_31
    · have h := h.2 hc
      refine xt_ic X dX6_addLine_15 ?_
      exact xt_iret X (i_rc (-1) rfl) h dX6_addLine_16
abbrev rmX6_dropLine : Room := { frames := 4, cells := 0, slots := 0, locals := 119 }
def PX6_dropLine (v0 : Int) (v1 : Int) (M : Mm) (Q : Int → Mm → Prop) : Prop :=
  (PX3_hasLine (v0 + 1) v1 M (fun z_1 M_2 =>
  ((z_1 = 0 → Q ((-1)) M_2) ∧
  (¬ z_1 = 0 → (PX4_remember (v0 + 5) (v0 + 1) M_2 (fun M_4 =>
  (PX3_closeLine (v0 + 1) v1 M_4 (fun M_6 =>
  (PX6_settle v0 ((-9)) v1 M_6 (fun M_8 =>
  Q (M_8 (v0 + 1) 0) M_8))))))))))
set_option maxHeartbeats 4000000 in
set_option maxRecDepth 100000 in
theorem ctX6_dropLine {l : Launch} {G : GG} (hG : Gd G) {v0 : Int} {v1 : Int} {M : Mm} {Q : Int → Mm → Prop} (k0 : gK G v0 = (6, 0)) (r1 : inR v1) (h : PX6_dropLine v0 v1 M Q) : Met l yX6_dropLine (Cond.code yX6_dropLine cX6_dropLine 2 ((some FieldType.int)) :: tw) rmX6_dropLine (Pre G M [rV (v0), iV (v1)]) (PostI G Q) 0 0 (gA G) := by
  refine met_of (own := RX6) (by decide) rfl hG (Nat.le_of_ble_eq_true rfl) (fun p e s m below meth c X => ?_)
  generalize hargs : ([rV (v0), iV (v1)] : List Value).toArray = args at X ⊢
  show Wt p l e rmX6_dropLine s m args below meth c G (MQ below (PostI G Q) args s 0 0 (gA G)) 2 M [(0, rV (v0)), (1, iV (v1))] 0 []
  unfold PX6_dropLine at h
  refine xt_al X dX6_dropLine_0 rfl 0 rfl ?_
  refine gfX6_10 X k0 dX6_dropLine_1 ?_
  refine xt_il X dX6_dropLine_4 rfl 1 rfl ?_
  refine xt_cVI X [iV (v1)] [] (ctX3_hasLine hG (kd_X6_0 hG k0) r1 h) gdX6_69 pdX3_hasLine ⟨rfl, rfl⟩ ⟨Nat.le_of_ble_eq_true rfl, Nat.le_of_ble_eq_true rfl⟩ rfl (k_lt (kd_X6_0 hG k0) (by decide)) (by rw [(kd_X6_0 hG k0)]; rfl) rfl (Nat.le_of_ble_eq_true rfl) dX6_dropLine_5 (fun z_1 M_2 z_1r h => ?_)
  refine xt_zne (tgt := 13) X z_1r dX6_dropLine_8 (by decide) (fun hc => ?_) (fun hc => ?_)
  · have h := h.2 hc
    refine xt_al X dX6_dropLine_13 rfl 0 rfl ?_
    refine gfX6_19 X k0 dX6_dropLine_14 ?_
    refine xt_al X dX6_dropLine_17 rfl 0 rfl ?_
    refine gfX6_10 X k0 dX6_dropLine_18 ?_
    refine xt_cVV X [rV (v0 + 1)] [] (ctX4_remember hG (kd_X6_1 hG k0) (kd_X6_0 hG k0) h) gdX6_79 pdX4_remember ⟨rfl, rfl⟩ ⟨Nat.le_of_ble_eq_true rfl, Nat.le_of_ble_eq_true rfl⟩ rfl (k_lt (kd_X6_1 hG k0) (by decide)) (by rw [(kd_X6_1 hG k0)]; rfl) rfl (Nat.le_of_ble_eq_true rfl) dX6_dropLine_21 (fun M_4 h => ?_)
    refine xt_al X dX6_dropLine_24 rfl 0 rfl ?_
    refine gfX6_10 X k0 dX6_dropLine_25 ?_
    refine xt_il X dX6_dropLine_28 rfl 1 rfl ?_
    refine xt_cVV X [iV (v1)] [] (ctX3_closeLine hG (kd_X6_0 hG k0) r1 h) gdX6_112 pdX3_closeLine ⟨rfl, rfl⟩ ⟨Nat.le_of_ble_eq_true rfl, Nat.le_of_ble_eq_true rfl⟩ rfl (k_lt (kd_X6_0 hG k0) (by decide)) (by rw [(kd_X6_0 hG k0)]; rfl) rfl (Nat.le_of_ble_eq_true rfl) dX6_dropLine_29 (fun M_6 h => ?_)
    refine xt_al X dX6_dropLine_32 rfl 0 rfl ?_
    refine xt_bi X dX6_dropLine_33 (by decide) ?_
    refine xt_il X dX6_dropLine_35 rfl 1 rfl ?_
    refine xt_cVV X [iV ((-9)), iV (v1)] [] (ctX6_settle hG k0 (i_rc (-9) rfl) r1 h) gdX6_87 pdX6_settle ⟨rfl, rfl⟩ ⟨Nat.le_of_ble_eq_true rfl, Nat.le_of_ble_eq_true rfl⟩ rfl (k_lt k0 (by decide)) (by rw [k0]; rfl) rfl (Nat.le_of_ble_eq_true rfl) dX6_dropLine_36 (fun M_8 h => ?_)
    refine xt_al X dX6_dropLine_39 rfl 0 rfl ?_
    refine gfX6_10 X k0 dX6_dropLine_40 ?_
    refine gfX6_102 X (kd_X6_0 hG k0) dX6_dropLine_43 (fun r_9 => ?_)
    exact xt_iret X r_9 h dX6_dropLine_46
  · have h := h.1 hc
    refine xt_ic X dX6_dropLine_11 ?_
    exact xt_iret X (i_rc (-1) rfl) h dX6_dropLine_12
abbrev rmX6_split : Room := { frames := 4, cells := 0, slots := 0, locals := 119 }
def PX6_split (v0 : Int) (v1 : Int) (v2 : Int) (M : Mm) (Q : Int → Mm → Prop) : Prop :=
  (PX3_hasLine (v0 + 1) v1 M (fun z_1 M_2 =>
  ((z_1 = 0 → Q ((-1)) M_2) ∧
  (¬ z_1 = 0 → ((v2 < 0 → Q ((-1)) M_2) ∧
  (¬ v2 < 0 → ((0 ≤ v1 ∧ v1 < 12) ∧
  ((v2 ≤ (M_2 ((v0 + 1) + 1) v1) → (((M_2 (v0 + 1) 0) < 12 → (PX4_remember (v0 + 5) (v0 + 1) M_2 (fun M_7 =>
  (inR (v1 + 1) ∧
  (PX3_openLine (v0 + 1) (v1 + 1) M_7 (fun M_10 =>
  (inR (v1 + 1) ∧
  (PX3_moveSigns (v0 + 1) v1 v2 (v1 + 1) M_10 (fun M_13 =>
  (inR (v1 + 1) ∧
  (PX6_settle v0 (v1 + 1) ((-9)) M_13 (fun M_16 =>
  Q (M_16 (v0 + 1) 0) M_16)))))))))))) ∧
  (¬ (M_2 (v0 + 1) 0) < 12 → Q ((-3)) M_2))) ∧
  (¬ v2 ≤ (M_2 ((v0 + 1) + 1) v1) → Q ((-1)) M_2)))))))))
set_option maxHeartbeats 4000000 in
set_option maxRecDepth 100000 in
theorem ctX6_split {l : Launch} {G : GG} (hG : Gd G) {v0 : Int} {v1 : Int} {v2 : Int} {M : Mm} {Q : Int → Mm → Prop} (k0 : gK G v0 = (6, 0)) (r1 : inR v1) (r2 : inR v2) (h : PX6_split v0 v1 v2 M Q) : Met l yX6_split (Cond.code yX6_split cX6_split 3 ((some FieldType.int)) :: tw) rmX6_split (Pre G M [rV (v0), iV (v1), iV (v2)]) (PostI G Q) 0 0 (gA G) := by
  refine met_of (own := RX6) (by decide) rfl hG (Nat.le_of_ble_eq_true rfl) (fun p e s m below meth c X => ?_)
  generalize hargs : ([rV (v0), iV (v1), iV (v2)] : List Value).toArray = args at X ⊢
  show Wt p l e rmX6_split s m args below meth c G (MQ below (PostI G Q) args s 0 0 (gA G)) 3 M [(0, rV (v0)), (1, iV (v1)), (2, iV (v2))] 0 []
  unfold PX6_split at h
  refine xt_al X dX6_split_0 rfl 0 rfl ?_
  refine gfX6_10 X k0 dX6_split_1 ?_
  refine xt_il X dX6_split_4 rfl 1 rfl ?_
  refine xt_cVI X [iV (v1)] [] (ctX3_hasLine hG (kd_X6_0 hG k0) r1 h) gdX6_69 pdX3_hasLine ⟨rfl, rfl⟩ ⟨Nat.le_of_ble_eq_true rfl, Nat.le_of_ble_eq_true rfl⟩ rfl (k_lt (kd_X6_0 hG k0) (by decide)) (by rw [(kd_X6_0 hG k0)]; rfl) rfl (Nat.le_of_ble_eq_true rfl) dX6_split_5 (fun z_1 M_2 z_1r h => ?_)
  refine xt_zeq (tgt := 28) X z_1r dX6_split_8 (by decide) (fun hc => ?_) (fun hc => ?_)
  · have h := h.1 hc
    refine xt_ic X dX6_split_28 ?_
    exact xt_iret X (i_rc (-1) rfl) h dX6_split_29
  · have h := h.2 hc
    refine xt_il X dX6_split_11 rfl 2 rfl ?_
    refine xt_zlt (tgt := 28) X r2 dX6_split_12 (by decide) (fun hc => ?_) (fun hc => ?_)
    · have h := h.1 hc
      refine xt_ic X dX6_split_28 ?_
      exact xt_iret X (i_rc (-1) rfl) h dX6_split_29
    · have h := h.2 hc
      refine xt_il X dX6_split_15 rfl 2 rfl ?_
      refine xt_al X dX6_split_16 rfl 0 rfl ?_
      refine gfX6_10 X k0 dX6_split_17 ?_
      refine gfX6_73 X (kd_X6_0 hG k0) dX6_split_20 ?_
      refine xt_il X dX6_split_23 rfl 1 rfl ?_
      obtain ⟨g_3, h⟩ := h
      refine xt_iald X (kd_X3_3 hG (kd_X6_0 hG k0)) g_3 (by decide) dX6_split_24 (fun r_4 => ?_)
      refine xt_cle (tgt := 30) X r2 r_4 dX6_split_25 (by decide) (fun hc => ?_) (fun hc => ?_)
      · have h := h.1 hc
        refine xt_al X dX6_split_30 rfl 0 rfl ?_
        refine gfX6_10 X k0 dX6_split_31 ?_
        refine gfX6_102 X (kd_X6_0 hG k0) dX6_split_34 (fun r_5 => ?_)
        refine xt_bi X dX6_split_37 (by decide) ?_
        refine xt_clt (tgt := 45) X r_5 (i_rc 12 rfl) dX6_split_39 (by decide) (fun hc => ?_) (fun hc => ?_)
        · have h := h.1 hc
          refine xt_al X dX6_split_45 rfl 0 rfl ?_
          refine gfX6_19 X k0 dX6_split_46 ?_
          refine xt_al X dX6_split_49 rfl 0 rfl ?_
          refine gfX6_10 X k0 dX6_split_50 ?_
          refine xt_cVV X [rV (v0 + 1)] [] (ctX4_remember hG (kd_X6_1 hG k0) (kd_X6_0 hG k0) h) gdX6_79 pdX4_remember ⟨rfl, rfl⟩ ⟨Nat.le_of_ble_eq_true rfl, Nat.le_of_ble_eq_true rfl⟩ rfl (k_lt (kd_X6_1 hG k0) (by decide)) (by rw [(kd_X6_1 hG k0)]; rfl) rfl (Nat.le_of_ble_eq_true rfl) dX6_split_53 (fun M_7 h => ?_)
          refine xt_al X dX6_split_56 rfl 0 rfl ?_
          refine gfX6_10 X k0 dX6_split_57 ?_
          refine xt_il X dX6_split_60 rfl 1 rfl ?_
          refine xt_ic X dX6_split_61 ?_
          refine xt_add X dX6_split_62 ?_
          obtain ⟨g_8, h⟩ := h
          refine xt_cVV X [iV (v1 + 1)] [] (ctX3_openLine hG (kd_X6_0 hG k0) g_8 h) gdX6_105 pdX3_openLine ⟨rfl, rfl⟩ ⟨Nat.le_of_ble_eq_true rfl, Nat.le_of_ble_eq_true rfl⟩ rfl (k_lt (kd_X6_0 hG k0) (by decide)) (by rw [(kd_X6_0 hG k0)]; rfl) rfl (Nat.le_of_ble_eq_true rfl) dX6_split_63 (fun M_10 h => ?_)
          refine xt_al X dX6_split_66 rfl 0 rfl ?_
          refine gfX6_10 X k0 dX6_split_67 ?_
          refine xt_il X dX6_split_70 rfl 1 rfl ?_
          refine xt_il X dX6_split_71 rfl 2 rfl ?_
          refine xt_il X dX6_split_72 rfl 1 rfl ?_
          refine xt_ic X dX6_split_73 ?_
          refine xt_add X dX6_split_74 ?_
          obtain ⟨g_11, h⟩ := h
          refine xt_cVV X [iV (v1), iV (v2), iV (v1 + 1)] [] (ctX3_moveSigns hG (kd_X6_0 hG k0) r1 r2 g_11 h) gdX6_109 pdX3_moveSigns ⟨rfl, rfl⟩ ⟨Nat.le_of_ble_eq_true rfl, Nat.le_of_ble_eq_true rfl⟩ rfl (k_lt (kd_X6_0 hG k0) (by decide)) (by rw [(kd_X6_0 hG k0)]; rfl) rfl (Nat.le_of_ble_eq_true rfl) dX6_split_75 (fun M_13 h => ?_)
          refine xt_al X dX6_split_78 rfl 0 rfl ?_
          refine xt_il X dX6_split_79 rfl 1 rfl ?_
          refine xt_ic X dX6_split_80 ?_
          refine xt_add X dX6_split_81 ?_
          refine xt_bi X dX6_split_82 (by decide) ?_
          obtain ⟨g_14, h⟩ := h
          refine xt_cVV X [iV (v1 + 1), iV ((-9))] [] (ctX6_settle hG k0 g_14 (i_rc (-9) rfl) h) gdX6_87 pdX6_settle ⟨rfl, rfl⟩ ⟨Nat.le_of_ble_eq_true rfl, Nat.le_of_ble_eq_true rfl⟩ rfl (k_lt k0 (by decide)) (by rw [k0]; rfl) rfl (Nat.le_of_ble_eq_true rfl) dX6_split_84 (fun M_16 h => ?_)
          refine xt_al X dX6_split_87 rfl 0 rfl ?_
          refine gfX6_10 X k0 dX6_split_88 ?_
          refine gfX6_102 X (kd_X6_0 hG k0) dX6_split_91 (fun r_17 => ?_)
          exact xt_iret X r_17 h dX6_split_94
        · have h := h.2 hc
          refine xt_bi X dX6_split_42 (by decide) ?_
          exact xt_iret X (i_rc (-3) rfl) h dX6_split_44
      · have h := h.2 hc
        refine xt_ic X dX6_split_28 ?_
        exact xt_iret X (i_rc (-1) rfl) h dX6_split_29
abbrev rmX6_join : Room := { frames := 4, cells := 0, slots := 0, locals := 119 }
def PX6_join (v0 : Int) (v1 : Int) (M : Mm) (Q : Int → Mm → Prop) : Prop :=
  (PX3_hasLine (v0 + 1) v1 M (fun z_1 M_2 =>
  ((z_1 = 0 → Q ((-1)) M_2) ∧
  (¬ z_1 = 0 → (inR (v1 + 1) ∧
  (PX3_hasLine (v0 + 1) (v1 + 1) M_2 (fun z_4 M_5 =>
  ((z_4 = 0 → Q ((-1)) M_5) ∧
  (¬ z_4 = 0 → ((0 ≤ v1 ∧ v1 < 12) ∧
  ((0 ≤ (v1 + 1) ∧ (v1 + 1) < 12) ∧
  (inR ((M_5 ((v0 + 1) + 1) v1) + (M_5 ((v0 + 1) + 1) (v1 + 1))) ∧
  ((((M_5 ((v0 + 1) + 1) v1) + (M_5 ((v0 + 1) + 1) (v1 + 1))) ≤ 24 → (PX4_remember (v0 + 5) (v0 + 1) M_5 (fun M_12 =>
  (inR (v1 + 1) ∧
  (PX3_moveSigns (v0 + 1) (v1 + 1) 0 v1 M_12 (fun M_15 =>
  (inR (v1 + 1) ∧
  (PX3_closeLine (v0 + 1) (v1 + 1) M_15 (fun M_18 =>
  (inR (v1 + 1) ∧
  (PX6_settle v0 ((-9)) (v1 + 1) M_18 (fun M_21 =>
  Q (M_21 (v0 + 1) 0) M_21)))))))))))) ∧
  (¬ ((M_5 ((v0 + 1) + 1) v1) + (M_5 ((v0 + 1) + 1) (v1 + 1))) ≤ 24 → Q ((-3)) M_5))))))))))))))
set_option maxHeartbeats 4000000 in
set_option maxRecDepth 100000 in
theorem ctX6_join {l : Launch} {G : GG} (hG : Gd G) {v0 : Int} {v1 : Int} {M : Mm} {Q : Int → Mm → Prop} (k0 : gK G v0 = (6, 0)) (r1 : inR v1) (h : PX6_join v0 v1 M Q) : Met l yX6_join (Cond.code yX6_join cX6_join 2 ((some FieldType.int)) :: tw) rmX6_join (Pre G M [rV (v0), iV (v1)]) (PostI G Q) 0 0 (gA G) := by
  refine met_of (own := RX6) (by decide) rfl hG (Nat.le_of_ble_eq_true rfl) (fun p e s m below meth c X => ?_)
  generalize hargs : ([rV (v0), iV (v1)] : List Value).toArray = args at X ⊢
  show Wt p l e rmX6_join s m args below meth c G (MQ below (PostI G Q) args s 0 0 (gA G)) 2 M [(0, rV (v0)), (1, iV (v1))] 0 []
  unfold PX6_join at h
  refine xt_al X dX6_join_0 rfl 0 rfl ?_
  refine gfX6_10 X k0 dX6_join_1 ?_
  refine xt_il X dX6_join_4 rfl 1 rfl ?_
  refine xt_cVI X [iV (v1)] [] (ctX3_hasLine hG (kd_X6_0 hG k0) r1 h) gdX6_69 pdX3_hasLine ⟨rfl, rfl⟩ ⟨Nat.le_of_ble_eq_true rfl, Nat.le_of_ble_eq_true rfl⟩ rfl (k_lt (kd_X6_0 hG k0) (by decide)) (by rw [(kd_X6_0 hG k0)]; rfl) rfl (Nat.le_of_ble_eq_true rfl) dX6_join_5 (fun z_1 M_2 z_1r h => ?_)
  refine xt_zeq (tgt := 24) X z_1r dX6_join_8 (by decide) (fun hc => ?_) (fun hc => ?_)
  · have h := h.1 hc
    refine xt_ic X dX6_join_24 ?_
    exact xt_iret X (i_rc (-1) rfl) h dX6_join_25
  · have h := h.2 hc
    refine xt_al X dX6_join_11 rfl 0 rfl ?_
    refine gfX6_10 X k0 dX6_join_12 ?_
    refine xt_il X dX6_join_15 rfl 1 rfl ?_
    refine xt_ic X dX6_join_16 ?_
    refine xt_add X dX6_join_17 ?_
    obtain ⟨g_3, h⟩ := h
    refine xt_cVI X [iV (v1 + 1)] [] (ctX3_hasLine hG (kd_X6_0 hG k0) g_3 h) gdX6_69 pdX3_hasLine ⟨rfl, rfl⟩ ⟨Nat.le_of_ble_eq_true rfl, Nat.le_of_ble_eq_true rfl⟩ rfl (k_lt (kd_X6_0 hG k0) (by decide)) (by rw [(kd_X6_0 hG k0)]; rfl) rfl (Nat.le_of_ble_eq_true rfl) dX6_join_18 (fun z_4 M_5 z_4r h => ?_)
    refine xt_zne (tgt := 26) X z_4r dX6_join_21 (by decide) (fun hc => ?_) (fun hc => ?_)
    · have h := h.2 hc
      refine xt_al X dX6_join_26 rfl 0 rfl ?_
      refine gfX6_10 X k0 dX6_join_27 ?_
      refine gfX6_73 X (kd_X6_0 hG k0) dX6_join_30 ?_
      refine xt_il X dX6_join_33 rfl 1 rfl ?_
      obtain ⟨g_6, h⟩ := h
      refine xt_iald X (kd_X3_3 hG (kd_X6_0 hG k0)) g_6 (by decide) dX6_join_34 (fun r_7 => ?_)
      refine xt_al X dX6_join_35 rfl 0 rfl ?_
      refine gfX6_10 X k0 dX6_join_36 ?_
      refine gfX6_73 X (kd_X6_0 hG k0) dX6_join_39 ?_
      refine xt_il X dX6_join_42 rfl 1 rfl ?_
      refine xt_ic X dX6_join_43 ?_
      refine xt_add X dX6_join_44 ?_
      obtain ⟨g_8, h⟩ := h
      refine xt_iald X (kd_X3_3 hG (kd_X6_0 hG k0)) g_8 (by decide) dX6_join_45 (fun r_9 => ?_)
      refine xt_add X dX6_join_46 ?_
      refine xt_bi X dX6_join_47 (by decide) ?_
      obtain ⟨g_10, h⟩ := h
      refine xt_cle (tgt := 55) X g_10 (i_rc 24 rfl) dX6_join_49 (by decide) (fun hc => ?_) (fun hc => ?_)
      · have h := h.1 hc
        refine xt_al X dX6_join_55 rfl 0 rfl ?_
        refine gfX6_19 X k0 dX6_join_56 ?_
        refine xt_al X dX6_join_59 rfl 0 rfl ?_
        refine gfX6_10 X k0 dX6_join_60 ?_
        refine xt_cVV X [rV (v0 + 1)] [] (ctX4_remember hG (kd_X6_1 hG k0) (kd_X6_0 hG k0) h) gdX6_79 pdX4_remember ⟨rfl, rfl⟩ ⟨Nat.le_of_ble_eq_true rfl, Nat.le_of_ble_eq_true rfl⟩ rfl (k_lt (kd_X6_1 hG k0) (by decide)) (by rw [(kd_X6_1 hG k0)]; rfl) rfl (Nat.le_of_ble_eq_true rfl) dX6_join_63 (fun M_12 h => ?_)
        refine xt_al X dX6_join_66 rfl 0 rfl ?_
        refine gfX6_10 X k0 dX6_join_67 ?_
        refine xt_il X dX6_join_70 rfl 1 rfl ?_
        refine xt_ic X dX6_join_71 ?_
        refine xt_add X dX6_join_72 ?_
        refine xt_ic X dX6_join_73 ?_
        refine xt_il X dX6_join_74 rfl 1 rfl ?_
        obtain ⟨g_13, h⟩ := h
        refine xt_cVV X [iV (v1 + 1), iV (0), iV (v1)] [] (ctX3_moveSigns hG (kd_X6_0 hG k0) g_13 (i_rc 0 rfl) r1 h) gdX6_109 pdX3_moveSigns ⟨rfl, rfl⟩ ⟨Nat.le_of_ble_eq_true rfl, Nat.le_of_ble_eq_true rfl⟩ rfl (k_lt (kd_X6_0 hG k0) (by decide)) (by rw [(kd_X6_0 hG k0)]; rfl) rfl (Nat.le_of_ble_eq_true rfl) dX6_join_75 (fun M_15 h => ?_)
        refine xt_al X dX6_join_78 rfl 0 rfl ?_
        refine gfX6_10 X k0 dX6_join_79 ?_
        refine xt_il X dX6_join_82 rfl 1 rfl ?_
        refine xt_ic X dX6_join_83 ?_
        refine xt_add X dX6_join_84 ?_
        obtain ⟨g_16, h⟩ := h
        refine xt_cVV X [iV (v1 + 1)] [] (ctX3_closeLine hG (kd_X6_0 hG k0) g_16 h) gdX6_112 pdX3_closeLine ⟨rfl, rfl⟩ ⟨Nat.le_of_ble_eq_true rfl, Nat.le_of_ble_eq_true rfl⟩ rfl (k_lt (kd_X6_0 hG k0) (by decide)) (by rw [(kd_X6_0 hG k0)]; rfl) rfl (Nat.le_of_ble_eq_true rfl) dX6_join_85 (fun M_18 h => ?_)
        refine xt_al X dX6_join_88 rfl 0 rfl ?_
        refine xt_bi X dX6_join_89 (by decide) ?_
        refine xt_il X dX6_join_91 rfl 1 rfl ?_
        refine xt_ic X dX6_join_92 ?_
        refine xt_add X dX6_join_93 ?_
        obtain ⟨g_19, h⟩ := h
        refine xt_cVV X [iV ((-9)), iV (v1 + 1)] [] (ctX6_settle hG k0 (i_rc (-9) rfl) g_19 h) gdX6_87 pdX6_settle ⟨rfl, rfl⟩ ⟨Nat.le_of_ble_eq_true rfl, Nat.le_of_ble_eq_true rfl⟩ rfl (k_lt k0 (by decide)) (by rw [k0]; rfl) rfl (Nat.le_of_ble_eq_true rfl) dX6_join_94 (fun M_21 h => ?_)
        refine xt_al X dX6_join_97 rfl 0 rfl ?_
        refine gfX6_10 X k0 dX6_join_98 ?_
        refine gfX6_102 X (kd_X6_0 hG k0) dX6_join_101 (fun r_22 => ?_)
        exact xt_iret X r_22 h dX6_join_104
      · have h := h.2 hc
        refine xt_bi X dX6_join_52 (by decide) ?_
        exact xt_iret X (i_rc (-3) rfl) h dX6_join_54
    · have h := h.1 hc
      refine xt_ic X dX6_join_24 ?_
      exact xt_iret X (i_rc (-1) rfl) h dX6_join_25
abbrev rmX6_put : Room := { frames := 4, cells := 0, slots := 0, locals := 119 }
def PX6_put (v0 : Int) (v1 : Int) (v2 : Int) (v3 : Int) (M : Mm) (Q : Int → Mm → Prop) : Prop :=
  (PX3_hasLine (v0 + 1) v1 M (fun z_1 M_2 =>
  ((z_1 = 0 → Q ((-1)) M_2) ∧
  (¬ z_1 = 0 → ((v2 < 0 → Q ((-1)) M_2) ∧
  (¬ v2 < 0 → ((0 ≤ v1 ∧ v1 < 12) ∧
  (((M_2 ((v0 + 1) + 1) v1) < v2 → Q ((-1)) M_2) ∧
  (¬ (M_2 ((v0 + 1) + 1) v1) < v2 → (PX5_isSign v3 M_2 (fun z_5 M_6 =>
  ((z_5 = 0 → Q ((-1)) M_6) ∧
  (¬ z_5 = 0 → ((0 ≤ v1 ∧ v1 < 12) ∧
  (((M_6 ((v0 + 1) + 1) v1) < 24 → (PX4_remember (v0 + 5) (v0 + 1) M_6 (fun M_10 =>
  (PX3_insertSign (v0 + 1) v1 v2 v3 M_10 (fun M_12 =>
  (PX6_settle v0 ((-9)) ((-9)) M_12 (fun M_14 =>
  ((0 ≤ v1 ∧ v1 < 12) ∧
  Q (M_14 ((v0 + 1) + 1) v1) M_14)))))))) ∧
  (¬ (M_6 ((v0 + 1) + 1) v1) < 24 → Q ((-3)) M_6))))))))))))))))
set_option maxHeartbeats 4000000 in
set_option maxRecDepth 100000 in
theorem ctX6_put {l : Launch} {G : GG} (hG : Gd G) {v0 : Int} {v1 : Int} {v2 : Int} {v3 : Int} {M : Mm} {Q : Int → Mm → Prop} (k0 : gK G v0 = (6, 0)) (r1 : inR v1) (r2 : inR v2) (r3 : inR v3) (h : PX6_put v0 v1 v2 v3 M Q) : Met l yX6_put (Cond.code yX6_put cX6_put 4 ((some FieldType.int)) :: tw) rmX6_put (Pre G M [rV (v0), iV (v1), iV (v2), iV (v3)]) (PostI G Q) 0 0 (gA G) := by
  refine met_of (own := RX6) (by decide) rfl hG (Nat.le_of_ble_eq_true rfl) (fun p e s m below meth c X => ?_)
  generalize hargs : ([rV (v0), iV (v1), iV (v2), iV (v3)] : List Value).toArray = args at X ⊢
  show Wt p l e rmX6_put s m args below meth c G (MQ below (PostI G Q) args s 0 0 (gA G)) 4 M [(0, rV (v0)), (1, iV (v1)), (2, iV (v2)), (3, iV (v3))] 0 []
  unfold PX6_put at h
  refine xt_al X dX6_put_0 rfl 0 rfl ?_
  refine gfX6_10 X k0 dX6_put_1 ?_
  refine xt_il X dX6_put_4 rfl 1 rfl ?_
  refine xt_cVI X [iV (v1)] [] (ctX3_hasLine hG (kd_X6_0 hG k0) r1 h) gdX6_69 pdX3_hasLine ⟨rfl, rfl⟩ ⟨Nat.le_of_ble_eq_true rfl, Nat.le_of_ble_eq_true rfl⟩ rfl (k_lt (kd_X6_0 hG k0) (by decide)) (by rw [(kd_X6_0 hG k0)]; rfl) rfl (Nat.le_of_ble_eq_true rfl) dX6_put_5 (fun z_1 M_2 z_1r h => ?_)
  refine xt_zeq (tgt := 35) X z_1r dX6_put_8 (by decide) (fun hc => ?_) (fun hc => ?_)
  · have h := h.1 hc
    refine xt_ic X dX6_put_35 ?_
    exact xt_iret X (i_rc (-1) rfl) h dX6_put_36
  · have h := h.2 hc
    refine xt_il X dX6_put_11 rfl 2 rfl ?_
    refine xt_zlt (tgt := 35) X r2 dX6_put_12 (by decide) (fun hc => ?_) (fun hc => ?_)
    · have h := h.1 hc
      refine xt_ic X dX6_put_35 ?_
      exact xt_iret X (i_rc (-1) rfl) h dX6_put_36
    · have h := h.2 hc
      refine xt_il X dX6_put_15 rfl 2 rfl ?_
      refine xt_al X dX6_put_16 rfl 0 rfl ?_
      refine gfX6_10 X k0 dX6_put_17 ?_
      refine gfX6_73 X (kd_X6_0 hG k0) dX6_put_20 ?_
      refine xt_il X dX6_put_23 rfl 1 rfl ?_
      obtain ⟨g_3, h⟩ := h
      refine xt_iald X (kd_X3_3 hG (kd_X6_0 hG k0)) g_3 (by decide) dX6_put_24 (fun r_4 => ?_)
      refine xt_cgt (tgt := 35) X r2 r_4 dX6_put_25 (by decide) (fun hc => ?_) (fun hc => ?_)
      · have h := h.1 hc
        refine xt_ic X dX6_put_35 ?_
        exact xt_iret X (i_rc (-1) rfl) h dX6_put_36
      · have h := h.2 hc
        refine xt_il X dX6_put_28 rfl 3 rfl ?_
        refine xt_cSI X [iV (v3)] [] (ctX5_isSign hG r3 h) gdX6_76 pdX5_isSign ⟨rfl, rfl⟩ ⟨Nat.le_of_ble_eq_true rfl, Nat.le_of_ble_eq_true rfl⟩ rfl (Nat.le_of_ble_eq_true rfl) dX6_put_29 (fun z_5 M_6 z_5r h => ?_)
        refine xt_zne (tgt := 37) X z_5r dX6_put_32 (by decide) (fun hc => ?_) (fun hc => ?_)
        · have h := h.2 hc
          refine xt_al X dX6_put_37 rfl 0 rfl ?_
          refine gfX6_10 X k0 dX6_put_38 ?_
          refine gfX6_73 X (kd_X6_0 hG k0) dX6_put_41 ?_
          refine xt_il X dX6_put_44 rfl 1 rfl ?_
          obtain ⟨g_7, h⟩ := h
          refine xt_iald X (kd_X3_3 hG (kd_X6_0 hG k0)) g_7 (by decide) dX6_put_45 (fun r_8 => ?_)
          refine xt_bi X dX6_put_46 (by decide) ?_
          refine xt_clt (tgt := 54) X r_8 (i_rc 24 rfl) dX6_put_48 (by decide) (fun hc => ?_) (fun hc => ?_)
          · have h := h.1 hc
            refine xt_al X dX6_put_54 rfl 0 rfl ?_
            refine gfX6_19 X k0 dX6_put_55 ?_
            refine xt_al X dX6_put_58 rfl 0 rfl ?_
            refine gfX6_10 X k0 dX6_put_59 ?_
            refine xt_cVV X [rV (v0 + 1)] [] (ctX4_remember hG (kd_X6_1 hG k0) (kd_X6_0 hG k0) h) gdX6_79 pdX4_remember ⟨rfl, rfl⟩ ⟨Nat.le_of_ble_eq_true rfl, Nat.le_of_ble_eq_true rfl⟩ rfl (k_lt (kd_X6_1 hG k0) (by decide)) (by rw [(kd_X6_1 hG k0)]; rfl) rfl (Nat.le_of_ble_eq_true rfl) dX6_put_62 (fun M_10 h => ?_)
            refine xt_al X dX6_put_65 rfl 0 rfl ?_
            refine gfX6_10 X k0 dX6_put_66 ?_
            refine xt_il X dX6_put_69 rfl 1 rfl ?_
            refine xt_il X dX6_put_70 rfl 2 rfl ?_
            refine xt_il X dX6_put_71 rfl 3 rfl ?_
            refine xt_cVV X [iV (v1), iV (v2), iV (v3)] [] (ctX3_insertSign hG (kd_X6_0 hG k0) r1 r2 r3 h) gdX6_83 pdX3_insertSign ⟨rfl, rfl⟩ ⟨Nat.le_of_ble_eq_true rfl, Nat.le_of_ble_eq_true rfl⟩ rfl (k_lt (kd_X6_0 hG k0) (by decide)) (by rw [(kd_X6_0 hG k0)]; rfl) rfl (Nat.le_of_ble_eq_true rfl) dX6_put_72 (fun M_12 h => ?_)
            refine xt_al X dX6_put_75 rfl 0 rfl ?_
            refine xt_bi X dX6_put_76 (by decide) ?_
            refine xt_bi X dX6_put_78 (by decide) ?_
            refine xt_cVV X [iV ((-9)), iV ((-9))] [] (ctX6_settle hG k0 (i_rc (-9) rfl) (i_rc (-9) rfl) h) gdX6_87 pdX6_settle ⟨rfl, rfl⟩ ⟨Nat.le_of_ble_eq_true rfl, Nat.le_of_ble_eq_true rfl⟩ rfl (k_lt k0 (by decide)) (by rw [k0]; rfl) rfl (Nat.le_of_ble_eq_true rfl) dX6_put_80 (fun M_14 h => ?_)
            refine xt_al X dX6_put_83 rfl 0 rfl ?_
            refine gfX6_10 X k0 dX6_put_84 ?_
            refine gfX6_73 X (kd_X6_0 hG k0) dX6_put_87 ?_
            refine xt_il X dX6_put_90 rfl 1 rfl ?_
            obtain ⟨g_15, h⟩ := h
            refine xt_iald X (kd_X3_3 hG (kd_X6_0 hG k0)) g_15 (by decide) dX6_put_91 (fun r_16 => ?_)
            exact xt_iret X r_16 h dX6_put_92
          · have h := h.2 hc
            refine xt_bi X dX6_put_51 (by decide) ?_
            exact xt_iret X (i_rc (-3) rfl) h dX6_put_53
        · have h := h.1 hc
          refine xt_ic X dX6_put_35 ?_
          exact xt_iret X (i_rc (-1) rfl) h dX6_put_36
abbrev rmX6_cut : Room := { frames := 4, cells := 0, slots := 0, locals := 119 }
def PX6_cut (v0 : Int) (v1 : Int) (v2 : Int) (M : Mm) (Q : Int → Mm → Prop) : Prop :=
  (PX3_hasSign (v0 + 1) v1 v2 M (fun z_1 M_2 =>
  ((z_1 = 0 → Q ((-1)) M_2) ∧
  (¬ z_1 = 0 → (PX3_signAt (v0 + 1) v1 v2 M_2 (fun z_3 M_4 =>
  (PX4_remember (v0 + 5) (v0 + 1) M_4 (fun M_6 =>
  (PX3_removeSign (v0 + 1) v1 v2 M_6 (fun M_8 =>
  (PX6_settle v0 ((-9)) ((-9)) M_8 (fun M_10 =>
  Q z_3 M_10))))))))))))
set_option maxHeartbeats 4000000 in
set_option maxRecDepth 100000 in
theorem ctX6_cut {l : Launch} {G : GG} (hG : Gd G) {v0 : Int} {v1 : Int} {v2 : Int} {M : Mm} {Q : Int → Mm → Prop} (k0 : gK G v0 = (6, 0)) (r1 : inR v1) (r2 : inR v2) (h : PX6_cut v0 v1 v2 M Q) : Met l yX6_cut (Cond.code yX6_cut cX6_cut 4 ((some FieldType.int)) :: tw) rmX6_cut (Pre G M [rV (v0), iV (v1), iV (v2)]) (PostI G Q) 0 0 (gA G) := by
  refine met_of (own := RX6) (by decide) rfl hG (Nat.le_of_ble_eq_true rfl) (fun p e s m below meth c X => ?_)
  generalize hargs : ([rV (v0), iV (v1), iV (v2)] : List Value).toArray = args at X ⊢
  show Wt p l e rmX6_cut s m args below meth c G (MQ below (PostI G Q) args s 0 0 (gA G)) 4 M [(0, rV (v0)), (1, iV (v1)), (2, iV (v2))] 0 []
  unfold PX6_cut at h
  refine xt_al X dX6_cut_0 rfl 0 rfl ?_
  refine gfX6_10 X k0 dX6_cut_1 ?_
  refine xt_il X dX6_cut_4 rfl 1 rfl ?_
  refine xt_il X dX6_cut_5 rfl 2 rfl ?_
  refine xt_cVI X [iV (v1), iV (v2)] [] (ctX3_hasSign hG (kd_X6_0 hG k0) r1 r2 h) gdX6_91 pdX3_hasSign ⟨rfl, rfl⟩ ⟨Nat.le_of_ble_eq_true rfl, Nat.le_of_ble_eq_true rfl⟩ rfl (k_lt (kd_X6_0 hG k0) (by decide)) (by rw [(kd_X6_0 hG k0)]; rfl) rfl (Nat.le_of_ble_eq_true rfl) dX6_cut_6 (fun z_1 M_2 z_1r h => ?_)
  refine xt_zne (tgt := 14) X z_1r dX6_cut_9 (by decide) (fun hc => ?_) (fun hc => ?_)
  · have h := h.2 hc
    refine xt_al X dX6_cut_14 rfl 0 rfl ?_
    refine gfX6_10 X k0 dX6_cut_15 ?_
    refine xt_il X dX6_cut_18 rfl 1 rfl ?_
    refine xt_il X dX6_cut_19 rfl 2 rfl ?_
    refine xt_cVI X [iV (v1), iV (v2)] [] (ctX3_signAt hG (kd_X6_0 hG k0) r1 r2 h) gdX6_95 pdX3_signAt ⟨rfl, rfl⟩ ⟨Nat.le_of_ble_eq_true rfl, Nat.le_of_ble_eq_true rfl⟩ rfl (k_lt (kd_X6_0 hG k0) (by decide)) (by rw [(kd_X6_0 hG k0)]; rfl) rfl (Nat.le_of_ble_eq_true rfl) dX6_cut_20 (fun z_3 M_4 z_3r h => ?_)
    refine xt_is (lv2 := [(3, iV (z_3)), (0, rV (v0)), (1, iV (v1)), (2, iV (v2))]) X dX6_cut_23 rfl (by decide) rfl ?_
    refine xt_al X dX6_cut_24 rfl 1 rfl ?_
    refine gfX6_19 X k0 dX6_cut_25 ?_
    refine xt_al X dX6_cut_28 rfl 1 rfl ?_
    refine gfX6_10 X k0 dX6_cut_29 ?_
    refine xt_cVV X [rV (v0 + 1)] [] (ctX4_remember hG (kd_X6_1 hG k0) (kd_X6_0 hG k0) h) gdX6_79 pdX4_remember ⟨rfl, rfl⟩ ⟨Nat.le_of_ble_eq_true rfl, Nat.le_of_ble_eq_true rfl⟩ rfl (k_lt (kd_X6_1 hG k0) (by decide)) (by rw [(kd_X6_1 hG k0)]; rfl) rfl (Nat.le_of_ble_eq_true rfl) dX6_cut_32 (fun M_6 h => ?_)
    refine xt_al X dX6_cut_35 rfl 1 rfl ?_
    refine gfX6_10 X k0 dX6_cut_36 ?_
    refine xt_il X dX6_cut_39 rfl 2 rfl ?_
    refine xt_il X dX6_cut_40 rfl 3 rfl ?_
    refine xt_cVV X [iV (v1), iV (v2)] [] (ctX3_removeSign hG (kd_X6_0 hG k0) r1 r2 h) gdX6_99 pdX3_removeSign ⟨rfl, rfl⟩ ⟨Nat.le_of_ble_eq_true rfl, Nat.le_of_ble_eq_true rfl⟩ rfl (k_lt (kd_X6_0 hG k0) (by decide)) (by rw [(kd_X6_0 hG k0)]; rfl) rfl (Nat.le_of_ble_eq_true rfl) dX6_cut_41 (fun M_8 h => ?_)
    refine xt_al X dX6_cut_44 rfl 1 rfl ?_
    refine xt_bi X dX6_cut_45 (by decide) ?_
    refine xt_bi X dX6_cut_47 (by decide) ?_
    refine xt_cVV X [iV ((-9)), iV ((-9))] [] (ctX6_settle hG k0 (i_rc (-9) rfl) (i_rc (-9) rfl) h) gdX6_87 pdX6_settle ⟨rfl, rfl⟩ ⟨Nat.le_of_ble_eq_true rfl, Nat.le_of_ble_eq_true rfl⟩ rfl (k_lt k0 (by decide)) (by rw [k0]; rfl) rfl (Nat.le_of_ble_eq_true rfl) dX6_cut_49 (fun M_10 h => ?_)
    refine xt_il X dX6_cut_52 rfl 0 rfl ?_
    exact xt_iret X z_3r h dX6_cut_53
  · have h := h.1 hc
    refine xt_ic X dX6_cut_12 ?_
    exact xt_iret X (i_rc (-1) rfl) h dX6_cut_13
abbrev rmX6_setAlign : Room := { frames := 4, cells := 0, slots := 0, locals := 119 }
def PX6_setAlign (v0 : Int) (v1 : Int) (v2 : Int) (M : Mm) (Q : Int → Mm → Prop) : Prop :=
  ((v1 < 0 → Q ((-1)) M) ∧
  (¬ v1 < 0 → ((24 ≤ v1 → Q ((-1)) M) ∧
  (¬ 24 ≤ v1 → ((v2 < 0 → Q ((-1)) M) ∧
  (¬ v2 < 0 → ((v2 < 4 → (PX4_remember (v0 + 5) (v0 + 1) M (fun M_2 =>
  ((0 ≤ v1 ∧ v1 < 24) ∧
  (∀ M_4 : Mm, M_4 = um M_2 ((v0 + 1) + 3) v1 v2 →
  (PX6_settle v0 ((-9)) ((-9)) M_4 (fun M_6 =>
  Q v2 M_6))))))) ∧
  (¬ v2 < 4 → Q ((-1)) M))))))))
set_option maxHeartbeats 4000000 in
set_option maxRecDepth 100000 in
theorem ctX6_setAlign {l : Launch} {G : GG} (hG : Gd G) {v0 : Int} {v1 : Int} {v2 : Int} {M : Mm} {Q : Int → Mm → Prop} (k0 : gK G v0 = (6, 0)) (r1 : inR v1) (r2 : inR v2) (h : PX6_setAlign v0 v1 v2 M Q) : Met l yX6_setAlign (Cond.code yX6_setAlign cX6_setAlign 3 ((some FieldType.int)) :: tw) rmX6_setAlign (Pre G M [rV (v0), iV (v1), iV (v2)]) (PostI G Q) 0 0 (gA G) := by
  refine met_of (own := RX6) (by decide) rfl hG (Nat.le_of_ble_eq_true rfl) (fun p e s m below meth c X => ?_)
  generalize hargs : ([rV (v0), iV (v1), iV (v2)] : List Value).toArray = args at X ⊢
  show Wt p l e rmX6_setAlign s m args below meth c G (MQ below (PostI G Q) args s 0 0 (gA G)) 3 M [(0, rV (v0)), (1, iV (v1)), (2, iV (v2))] 0 []
  unfold PX6_setAlign at h
  refine xt_il X dX6_setAlign_0 rfl 1 rfl ?_
  refine xt_zlt (tgt := 19) X r1 dX6_setAlign_1 (by decide) (fun hc => ?_) (fun hc => ?_)
  · have h := h.1 hc
    refine xt_ic X dX6_setAlign_19 ?_
    exact xt_iret X (i_rc (-1) rfl) h dX6_setAlign_20
  · have h := h.2 hc
    refine xt_il X dX6_setAlign_4 rfl 1 rfl ?_
    refine xt_bi X dX6_setAlign_5 (by decide) ?_
    refine xt_cge (tgt := 19) X r1 (i_rc 24 rfl) dX6_setAlign_7 (by decide) (fun hc => ?_) (fun hc => ?_)
    · have h := h.1 hc
      refine xt_ic X dX6_setAlign_19 ?_
      exact xt_iret X (i_rc (-1) rfl) h dX6_setAlign_20
    · have h := h.2 hc
      refine xt_il X dX6_setAlign_10 rfl 2 rfl ?_
      refine xt_zlt (tgt := 19) X r2 dX6_setAlign_11 (by decide) (fun hc => ?_) (fun hc => ?_)
      · have h := h.1 hc
        refine xt_ic X dX6_setAlign_19 ?_
        exact xt_iret X (i_rc (-1) rfl) h dX6_setAlign_20
      · have h := h.2 hc
        refine xt_il X dX6_setAlign_14 rfl 2 rfl ?_
        refine xt_ic X dX6_setAlign_15 ?_
        refine xt_clt (tgt := 21) X r2 (i_rc 4 rfl) dX6_setAlign_16 (by decide) (fun hc => ?_) (fun hc => ?_)
        · have h := h.1 hc
          refine xt_al X dX6_setAlign_21 rfl 0 rfl ?_
          refine gfX6_19 X k0 dX6_setAlign_22 ?_
          refine xt_al X dX6_setAlign_25 rfl 0 rfl ?_
          refine gfX6_10 X k0 dX6_setAlign_26 ?_
          refine xt_cVV X [rV (v0 + 1)] [] (ctX4_remember hG (kd_X6_1 hG k0) (kd_X6_0 hG k0) h) gdX6_79 pdX4_remember ⟨rfl, rfl⟩ ⟨Nat.le_of_ble_eq_true rfl, Nat.le_of_ble_eq_true rfl⟩ rfl (k_lt (kd_X6_1 hG k0) (by decide)) (by rw [(kd_X6_1 hG k0)]; rfl) rfl (Nat.le_of_ble_eq_true rfl) dX6_setAlign_29 (fun M_2 h => ?_)
          refine xt_al X dX6_setAlign_32 rfl 0 rfl ?_
          refine gfX6_10 X k0 dX6_setAlign_33 ?_
          refine gfX6_173 X (kd_X6_0 hG k0) dX6_setAlign_36 ?_
          refine xt_il X dX6_setAlign_39 rfl 1 rfl ?_
          refine xt_il X dX6_setAlign_40 rfl 2 rfl ?_
          obtain ⟨g_3, h⟩ := h
          refine xt_iast X (kd_X3_5 hG (kd_X6_0 hG k0)) g_3 (by decide) r2 dX6_setAlign_41 (fun M_4 hm => ?_)
          have h := h M_4 hm
          refine xt_al X dX6_setAlign_42 rfl 0 rfl ?_
          refine xt_bi X dX6_setAlign_43 (by decide) ?_
          refine xt_bi X dX6_setAlign_45 (by decide) ?_
          refine xt_cVV X [iV ((-9)), iV ((-9))] [] (ctX6_settle hG k0 (i_rc (-9) rfl) (i_rc (-9) rfl) h) gdX6_87 pdX6_settle ⟨rfl, rfl⟩ ⟨Nat.le_of_ble_eq_true rfl, Nat.le_of_ble_eq_true rfl⟩ rfl (k_lt k0 (by decide)) (by rw [k0]; rfl) rfl (Nat.le_of_ble_eq_true rfl) dX6_setAlign_47 (fun M_6 h => ?_)
          refine xt_il X dX6_setAlign_50 rfl 2 rfl ?_
          exact xt_iret X r2 h dX6_setAlign_51
        · have h := h.2 hc
          refine xt_ic X dX6_setAlign_19 ?_
          exact xt_iret X (i_rc (-1) rfl) h dX6_setAlign_20
abbrev rmX6_setPad : Room := { frames := 4, cells := 0, slots := 0, locals := 119 }
def PX6_setPad (v0 : Int) (v1 : Int) (M : Mm) (Q : Int → Mm → Prop) : Prop :=
  ((v1 < 0 → Q ((-1)) M) ∧
  (¬ v1 < 0 → ((v1 ≤ 4 → (PX4_remember (v0 + 5) (v0 + 1) M (fun M_2 =>
  (∀ M_3 : Mm, M_3 = um M_2 (v0 + 1) 1 v1 →
  (PX6_settle v0 ((-9)) ((-9)) M_3 (fun M_5 =>
  Q v1 M_5)))))) ∧
  (¬ v1 ≤ 4 → Q ((-1)) M))))
set_option maxHeartbeats 4000000 in
set_option maxRecDepth 100000 in
theorem ctX6_setPad {l : Launch} {G : GG} (hG : Gd G) {v0 : Int} {v1 : Int} {M : Mm} {Q : Int → Mm → Prop} (k0 : gK G v0 = (6, 0)) (r1 : inR v1) (h : PX6_setPad v0 v1 M Q) : Met l yX6_setPad (Cond.code yX6_setPad cX6_setPad 2 ((some FieldType.int)) :: tw) rmX6_setPad (Pre G M [rV (v0), iV (v1)]) (PostI G Q) 0 0 (gA G) := by
  refine met_of (own := RX6) (by decide) rfl hG (Nat.le_of_ble_eq_true rfl) (fun p e s m below meth c X => ?_)
  generalize hargs : ([rV (v0), iV (v1)] : List Value).toArray = args at X ⊢
  show Wt p l e rmX6_setPad s m args below meth c G (MQ below (PostI G Q) args s 0 0 (gA G)) 2 M [(0, rV (v0)), (1, iV (v1))] 0 []
  unfold PX6_setPad at h
  refine xt_il X dX6_setPad_0 rfl 1 rfl ?_
  refine xt_zlt (tgt := 9) X r1 dX6_setPad_1 (by decide) (fun hc => ?_) (fun hc => ?_)
  · have h := h.1 hc
    refine xt_ic X dX6_setPad_9 ?_
    exact xt_iret X (i_rc (-1) rfl) h dX6_setPad_10
  · have h := h.2 hc
    refine xt_il X dX6_setPad_4 rfl 1 rfl ?_
    refine xt_ic X dX6_setPad_5 ?_
    refine xt_cle (tgt := 11) X r1 (i_rc 4 rfl) dX6_setPad_6 (by decide) (fun hc => ?_) (fun hc => ?_)
    · have h := h.1 hc
      refine xt_al X dX6_setPad_11 rfl 0 rfl ?_
      refine gfX6_19 X k0 dX6_setPad_12 ?_
      refine xt_al X dX6_setPad_15 rfl 0 rfl ?_
      refine gfX6_10 X k0 dX6_setPad_16 ?_
      refine xt_cVV X [rV (v0 + 1)] [] (ctX4_remember hG (kd_X6_1 hG k0) (kd_X6_0 hG k0) h) gdX6_79 pdX4_remember ⟨rfl, rfl⟩ ⟨Nat.le_of_ble_eq_true rfl, Nat.le_of_ble_eq_true rfl⟩ rfl (k_lt (kd_X6_1 hG k0) (by decide)) (by rw [(kd_X6_1 hG k0)]; rfl) rfl (Nat.le_of_ble_eq_true rfl) dX6_setPad_19 (fun M_2 h => ?_)
      refine xt_al X dX6_setPad_22 rfl 0 rfl ?_
      refine gfX6_10 X k0 dX6_setPad_23 ?_
      refine xt_il X dX6_setPad_26 rfl 1 rfl ?_
      refine pfX6_176 X (kd_X6_0 hG k0) r1 dX6_setPad_27 (fun M_3 hm => ?_)
      have h := h M_3 hm
      refine xt_al X dX6_setPad_30 rfl 0 rfl ?_
      refine xt_bi X dX6_setPad_31 (by decide) ?_
      refine xt_bi X dX6_setPad_33 (by decide) ?_
      refine xt_cVV X [iV ((-9)), iV ((-9))] [] (ctX6_settle hG k0 (i_rc (-9) rfl) (i_rc (-9) rfl) h) gdX6_87 pdX6_settle ⟨rfl, rfl⟩ ⟨Nat.le_of_ble_eq_true rfl, Nat.le_of_ble_eq_true rfl⟩ rfl (k_lt k0 (by decide)) (by rw [k0]; rfl) rfl (Nat.le_of_ble_eq_true rfl) dX6_setPad_35 (fun M_5 h => ?_)
      refine xt_il X dX6_setPad_38 rfl 1 rfl ?_
      exact xt_iret X r1 h dX6_setPad_39
    · have h := h.2 hc
      refine xt_ic X dX6_setPad_9 ?_
      exact xt_iret X (i_rc (-1) rfl) h dX6_setPad_10
abbrev rmX6_setLeast : Room := { frames := 4, cells := 0, slots := 0, locals := 119 }
def PX6_setLeast (v0 : Int) (v1 : Int) (M : Mm) (Q : Int → Mm → Prop) : Prop :=
  ((v1 < 0 → Q ((-1)) M) ∧
  (¬ v1 < 0 → ((v1 ≤ 9 → (PX4_remember (v0 + 5) (v0 + 1) M (fun M_2 =>
  (∀ M_3 : Mm, M_3 = um M_2 (v0 + 1) 2 v1 →
  (PX6_settle v0 ((-9)) ((-9)) M_3 (fun M_5 =>
  Q v1 M_5)))))) ∧
  (¬ v1 ≤ 9 → Q ((-1)) M))))
set_option maxHeartbeats 4000000 in
set_option maxRecDepth 100000 in
theorem ctX6_setLeast {l : Launch} {G : GG} (hG : Gd G) {v0 : Int} {v1 : Int} {M : Mm} {Q : Int → Mm → Prop} (k0 : gK G v0 = (6, 0)) (r1 : inR v1) (h : PX6_setLeast v0 v1 M Q) : Met l yX6_setLeast (Cond.code yX6_setLeast cX6_setLeast 2 ((some FieldType.int)) :: tw) rmX6_setLeast (Pre G M [rV (v0), iV (v1)]) (PostI G Q) 0 0 (gA G) := by
  refine met_of (own := RX6) (by decide) rfl hG (Nat.le_of_ble_eq_true rfl) (fun p e s m below meth c X => ?_)
  generalize hargs : ([rV (v0), iV (v1)] : List Value).toArray = args at X ⊢
  show Wt p l e rmX6_setLeast s m args below meth c G (MQ below (PostI G Q) args s 0 0 (gA G)) 2 M [(0, rV (v0)), (1, iV (v1))] 0 []
  unfold PX6_setLeast at h
  refine xt_il X dX6_setLeast_0 rfl 1 rfl ?_
  refine xt_zlt (tgt := 10) X r1 dX6_setLeast_1 (by decide) (fun hc => ?_) (fun hc => ?_)
  · have h := h.1 hc
    refine xt_ic X dX6_setLeast_10 ?_
    exact xt_iret X (i_rc (-1) rfl) h dX6_setLeast_11
  · have h := h.2 hc
    refine xt_il X dX6_setLeast_4 rfl 1 rfl ?_
    refine xt_bi X dX6_setLeast_5 (by decide) ?_
    refine xt_cle (tgt := 12) X r1 (i_rc 9 rfl) dX6_setLeast_7 (by decide) (fun hc => ?_) (fun hc => ?_)
    · have h := h.1 hc
      refine xt_al X dX6_setLeast_12 rfl 0 rfl ?_
      refine gfX6_19 X k0 dX6_setLeast_13 ?_
      refine xt_al X dX6_setLeast_16 rfl 0 rfl ?_
      refine gfX6_10 X k0 dX6_setLeast_17 ?_
      refine xt_cVV X [rV (v0 + 1)] [] (ctX4_remember hG (kd_X6_1 hG k0) (kd_X6_0 hG k0) h) gdX6_79 pdX4_remember ⟨rfl, rfl⟩ ⟨Nat.le_of_ble_eq_true rfl, Nat.le_of_ble_eq_true rfl⟩ rfl (k_lt (kd_X6_1 hG k0) (by decide)) (by rw [(kd_X6_1 hG k0)]; rfl) rfl (Nat.le_of_ble_eq_true rfl) dX6_setLeast_20 (fun M_2 h => ?_)
      refine xt_al X dX6_setLeast_23 rfl 0 rfl ?_
      refine gfX6_10 X k0 dX6_setLeast_24 ?_
      refine xt_il X dX6_setLeast_27 rfl 1 rfl ?_
      refine pfX6_179 X (kd_X6_0 hG k0) r1 dX6_setLeast_28 (fun M_3 hm => ?_)
      have h := h M_3 hm
      refine xt_al X dX6_setLeast_31 rfl 0 rfl ?_
      refine xt_bi X dX6_setLeast_32 (by decide) ?_
      refine xt_bi X dX6_setLeast_34 (by decide) ?_
      refine xt_cVV X [iV ((-9)), iV ((-9))] [] (ctX6_settle hG k0 (i_rc (-9) rfl) (i_rc (-9) rfl) h) gdX6_87 pdX6_settle ⟨rfl, rfl⟩ ⟨Nat.le_of_ble_eq_true rfl, Nat.le_of_ble_eq_true rfl⟩ rfl (k_lt k0 (by decide)) (by rw [k0]; rfl) rfl (Nat.le_of_ble_eq_true rfl) dX6_setLeast_36 (fun M_5 h => ?_)
      refine xt_il X dX6_setLeast_39 rfl 1 rfl ?_
      exact xt_iret X r1 h dX6_setLeast_40
    · have h := h.2 hc
      refine xt_ic X dX6_setLeast_10 ?_
      exact xt_iret X (i_rc (-1) rfl) h dX6_setLeast_11
abbrev rmX6_perform : Room := { frames := 5, cells := 0, slots := 0, locals := 142 }
def PX6_perform (v0 : Int) (M : Mm) (Q : Int → Mm → Prop) : Prop :=
  ((((M (v0 + 47) 2) < 0 ∨ 8 < (M (v0 + 47) 2)) → Q ((-1)) M) ∧
  ((M (v0 + 47) 2) = 0 → (PX6_addLine v0 (M (v0 + 47) 3) M (fun z_4 M_5 =>
  Q z_4 M_5))) ∧
  ((M (v0 + 47) 2) = 1 → (PX6_dropLine v0 (M (v0 + 47) 3) M (fun z_6 M_7 =>
  Q z_6 M_7))) ∧
  ((M (v0 + 47) 2) = 2 → (PX6_split v0 (M (v0 + 47) 3) (M (v0 + 47) 4) M (fun z_8 M_9 =>
  Q z_8 M_9))) ∧
  ((M (v0 + 47) 2) = 3 → (PX6_join v0 (M (v0 + 47) 3) M (fun z_10 M_11 =>
  Q z_10 M_11))) ∧
  ((M (v0 + 47) 2) = 4 → ((0 ≤ (M (v0 + 47) 5) ∧ (M (v0 + 47) 5) < 150) ∧
  (PX6_put v0 (M (v0 + 47) 3) (M (v0 + 47) 4) (M ((v0 + 47) + 1) (M (v0 + 47) 5)) M (fun z_15 M_16 =>
  Q z_15 M_16)))) ∧
  ((M (v0 + 47) 2) = 5 → (PX6_cut v0 (M (v0 + 47) 3) (M (v0 + 47) 4) M (fun z_17 M_18 =>
  Q z_17 M_18))) ∧
  ((M (v0 + 47) 2) = 6 → (PX6_setAlign v0 (M (v0 + 47) 3) (M (v0 + 47) 4) M (fun z_19 M_20 =>
  Q z_19 M_20))) ∧
  ((M (v0 + 47) 2) = 7 → (PX6_setPad v0 (M (v0 + 47) 3) M (fun z_21 M_22 =>
  Q z_21 M_22))) ∧
  ((M (v0 + 47) 2) = 8 → (PX6_setLeast v0 (M (v0 + 47) 3) M (fun z_23 M_24 =>
  Q z_23 M_24))))
set_option maxHeartbeats 4000000 in
set_option maxRecDepth 100000 in
theorem ctX6_perform {l : Launch} {G : GG} (hG : Gd G) {v0 : Int} {M : Mm} {Q : Int → Mm → Prop} (k0 : gK G v0 = (6, 0)) (h : PX6_perform v0 M Q) : Met l yX6_perform (Cond.code yX6_perform cX6_perform 3 ((some FieldType.int)) :: tw) rmX6_perform (Pre G M [rV (v0)]) (PostI G Q) 0 0 (gA G) := by
  refine met_of (own := RX6) (by decide) rfl hG (Nat.le_of_ble_eq_true rfl) (fun p e s m below meth c X => ?_)
  generalize hargs : ([rV (v0)] : List Value).toArray = args at X ⊢
  show Wt p l e rmX6_perform s m args below meth c G (MQ below (PostI G Q) args s 0 0 (gA G)) 3 M [(0, rV (v0))] 0 []
  unfold PX6_perform at h
  refine xt_al X dX6_perform_0 rfl 0 rfl ?_
  refine gfX6_26 X k0 dX6_perform_1 ?_
  refine gfX6_204 X (kd_X6_2 hG k0) dX6_perform_4 (fun r_1 => ?_)
  refine xt_is (lv2 := [(1, iV (M (v0 + 47) 3)), (0, rV (v0))]) X dX6_perform_7 rfl (by decide) rfl ?_
  refine xt_al X dX6_perform_8 rfl 1 rfl ?_
  refine gfX6_26 X k0 dX6_perform_9 ?_
  refine gfX6_207 X (kd_X6_2 hG k0) dX6_perform_12 (fun r_2 => ?_)
  refine xt_is (lv2 := [(2, iV (M (v0 + 47) 4)), (1, iV (M (v0 + 47) 3)), (0, rV (v0))]) X dX6_perform_15 rfl (by decide) rfl ?_
  refine xt_al X dX6_perform_16 rfl 2 rfl ?_
  refine gfX6_26 X k0 dX6_perform_17 ?_
  refine gfX6_210 X (kd_X6_2 hG k0) dX6_perform_20 (fun r_3 => ?_)
  rcases (show ((M (v0 + 47) 2) < 0 ∨ 8 < (M (v0 + 47) 2)) ∨ (M (v0 + 47) 2) = 0 ∨ (M (v0 + 47) 2) = 1 ∨ (M (v0 + 47) 2) = 2 ∨ (M (v0 + 47) 2) = 3 ∨ (M (v0 + 47) 2) = 4 ∨ (M (v0 + 47) 2) = 5 ∨ (M (v0 + 47) 2) = 6 ∨ (M (v0 + 47) 2) = 7 ∨ (M (v0 + 47) 2) = 8 by omega) with hc | hc | hc | hc | hc | hc | hc | hc | hc | hc
  · have h := h.1 hc
    refine xt_tout (tgt := 145) X r_3 dX6_perform_23 hc (by decide) ?_
    refine xt_ic X dX6_perform_145 ?_
    exact xt_iret X (i_rc (-1) rfl) h dX6_perform_146
  · have h := h.2.1 hc
    refine xt_tin (tgt := 72) X r_3 dX6_perform_23 0 hc (by decide) (by decide) rfl (by decide) ?_
    refine xt_al X dX6_perform_72 rfl 2 rfl ?_
    refine xt_il X dX6_perform_73 rfl 1 rfl ?_
    refine xt_cVI X [iV (M (v0 + 47) 3)] [] (ctX6_addLine hG k0 r_1 h) gdX6_213 pdX6_addLine ⟨rfl, rfl⟩ ⟨Nat.le_of_ble_eq_true rfl, Nat.le_of_ble_eq_true rfl⟩ rfl (k_lt k0 (by decide)) (by rw [k0]; rfl) rfl (Nat.le_of_ble_eq_true rfl) dX6_perform_74 (fun z_4 M_5 z_4r h => ?_)
    exact xt_iret X z_4r h dX6_perform_77
  · have h := h.2.2.1 hc
    refine xt_tin (tgt := 78) X r_3 dX6_perform_23 1 hc (by decide) (by decide) rfl (by decide) ?_
    refine xt_al X dX6_perform_78 rfl 2 rfl ?_
    refine xt_il X dX6_perform_79 rfl 1 rfl ?_
    refine xt_cVI X [iV (M (v0 + 47) 3)] [] (ctX6_dropLine hG k0 r_1 h) gdX6_217 pdX6_dropLine ⟨rfl, rfl⟩ ⟨Nat.le_of_ble_eq_true rfl, Nat.le_of_ble_eq_true rfl⟩ rfl (k_lt k0 (by decide)) (by rw [k0]; rfl) rfl (Nat.le_of_ble_eq_true rfl) dX6_perform_80 (fun z_6 M_7 z_6r h => ?_)
    exact xt_iret X z_6r h dX6_perform_83
  · have h := h.2.2.2.1 hc
    refine xt_tin (tgt := 84) X r_3 dX6_perform_23 2 hc (by decide) (by decide) rfl (by decide) ?_
    refine xt_al X dX6_perform_84 rfl 2 rfl ?_
    refine xt_il X dX6_perform_85 rfl 1 rfl ?_
    refine xt_il X dX6_perform_86 rfl 0 rfl ?_
    refine xt_cVI X [iV (M (v0 + 47) 3), iV (M (v0 + 47) 4)] [] (ctX6_split hG k0 r_1 r_2 h) gdX6_220 pdX6_split ⟨rfl, rfl⟩ ⟨Nat.le_of_ble_eq_true rfl, Nat.le_of_ble_eq_true rfl⟩ rfl (k_lt k0 (by decide)) (by rw [k0]; rfl) rfl (Nat.le_of_ble_eq_true rfl) dX6_perform_87 (fun z_8 M_9 z_8r h => ?_)
    exact xt_iret X z_8r h dX6_perform_90
  · have h := h.2.2.2.2.1 hc
    refine xt_tin (tgt := 91) X r_3 dX6_perform_23 3 hc (by decide) (by decide) rfl (by decide) ?_
    refine xt_al X dX6_perform_91 rfl 2 rfl ?_
    refine xt_il X dX6_perform_92 rfl 1 rfl ?_
    refine xt_cVI X [iV (M (v0 + 47) 3)] [] (ctX6_join hG k0 r_1 h) gdX6_223 pdX6_join ⟨rfl, rfl⟩ ⟨Nat.le_of_ble_eq_true rfl, Nat.le_of_ble_eq_true rfl⟩ rfl (k_lt k0 (by decide)) (by rw [k0]; rfl) rfl (Nat.le_of_ble_eq_true rfl) dX6_perform_93 (fun z_10 M_11 z_10r h => ?_)
    exact xt_iret X z_10r h dX6_perform_96
  · have h := h.2.2.2.2.2.1 hc
    refine xt_tin (tgt := 97) X r_3 dX6_perform_23 4 hc (by decide) (by decide) rfl (by decide) ?_
    refine xt_al X dX6_perform_97 rfl 2 rfl ?_
    refine xt_il X dX6_perform_98 rfl 1 rfl ?_
    refine xt_il X dX6_perform_99 rfl 0 rfl ?_
    refine xt_al X dX6_perform_100 rfl 2 rfl ?_
    refine gfX6_26 X k0 dX6_perform_101 ?_
    refine gfX6_51 X (kd_X6_2 hG k0) dX6_perform_104 ?_
    refine xt_al X dX6_perform_107 rfl 2 rfl ?_
    refine gfX6_26 X k0 dX6_perform_108 ?_
    refine gfX6_226 X (kd_X6_2 hG k0) dX6_perform_111 (fun r_12 => ?_)
    obtain ⟨g_13, h⟩ := h
    refine xt_iald X (kd_X5_0 hG (kd_X6_2 hG k0)) g_13 (by decide) dX6_perform_114 (fun r_14 => ?_)
    refine xt_cVI X [iV (M (v0 + 47) 3), iV (M (v0 + 47) 4), iV (M ((v0 + 47) + 1) (M (v0 + 47) 5))] [] (ctX6_put hG k0 r_1 r_2 r_14 h) gdX6_229 pdX6_put ⟨rfl, rfl⟩ ⟨Nat.le_of_ble_eq_true rfl, Nat.le_of_ble_eq_true rfl⟩ rfl (k_lt k0 (by decide)) (by rw [k0]; rfl) rfl (Nat.le_of_ble_eq_true rfl) dX6_perform_115 (fun z_15 M_16 z_15r h => ?_)
    exact xt_iret X z_15r h dX6_perform_118
  · have h := h.2.2.2.2.2.2.1 hc
    refine xt_tin (tgt := 119) X r_3 dX6_perform_23 5 hc (by decide) (by decide) rfl (by decide) ?_
    refine xt_al X dX6_perform_119 rfl 2 rfl ?_
    refine xt_il X dX6_perform_120 rfl 1 rfl ?_
    refine xt_il X dX6_perform_121 rfl 0 rfl ?_
    refine xt_cVI X [iV (M (v0 + 47) 3), iV (M (v0 + 47) 4)] [] (ctX6_cut hG k0 r_1 r_2 h) gdX6_233 pdX6_cut ⟨rfl, rfl⟩ ⟨Nat.le_of_ble_eq_true rfl, Nat.le_of_ble_eq_true rfl⟩ rfl (k_lt k0 (by decide)) (by rw [k0]; rfl) rfl (Nat.le_of_ble_eq_true rfl) dX6_perform_122 (fun z_17 M_18 z_17r h => ?_)
    exact xt_iret X z_17r h dX6_perform_125
  · have h := h.2.2.2.2.2.2.2.1 hc
    refine xt_tin (tgt := 126) X r_3 dX6_perform_23 6 hc (by decide) (by decide) rfl (by decide) ?_
    refine xt_al X dX6_perform_126 rfl 2 rfl ?_
    refine xt_il X dX6_perform_127 rfl 1 rfl ?_
    refine xt_il X dX6_perform_128 rfl 0 rfl ?_
    refine xt_cVI X [iV (M (v0 + 47) 3), iV (M (v0 + 47) 4)] [] (ctX6_setAlign hG k0 r_1 r_2 h) gdX6_236 pdX6_setAlign ⟨rfl, rfl⟩ ⟨Nat.le_of_ble_eq_true rfl, Nat.le_of_ble_eq_true rfl⟩ rfl (k_lt k0 (by decide)) (by rw [k0]; rfl) rfl (Nat.le_of_ble_eq_true rfl) dX6_perform_129 (fun z_19 M_20 z_19r h => ?_)
    exact xt_iret X z_19r h dX6_perform_132
  · have h := h.2.2.2.2.2.2.2.2.1 hc
    refine xt_tin (tgt := 133) X r_3 dX6_perform_23 7 hc (by decide) (by decide) rfl (by decide) ?_
    refine xt_al X dX6_perform_133 rfl 2 rfl ?_
    refine xt_il X dX6_perform_134 rfl 1 rfl ?_
    refine xt_cVI X [iV (M (v0 + 47) 3)] [] (ctX6_setPad hG k0 r_1 h) gdX6_239 pdX6_setPad ⟨rfl, rfl⟩ ⟨Nat.le_of_ble_eq_true rfl, Nat.le_of_ble_eq_true rfl⟩ rfl (k_lt k0 (by decide)) (by rw [k0]; rfl) rfl (Nat.le_of_ble_eq_true rfl) dX6_perform_135 (fun z_21 M_22 z_21r h => ?_)
    exact xt_iret X z_21r h dX6_perform_138
  · have h := h.2.2.2.2.2.2.2.2.2 hc
    refine xt_tin (tgt := 139) X r_3 dX6_perform_23 8 hc (by decide) (by decide) rfl (by decide) ?_
    refine xt_al X dX6_perform_139 rfl 2 rfl ?_
    refine xt_il X dX6_perform_140 rfl 1 rfl ?_
    refine xt_cVI X [iV (M (v0 + 47) 3)] [] (ctX6_setLeast hG k0 r_1 h) gdX6_242 pdX6_setLeast ⟨rfl, rfl⟩ ⟨Nat.le_of_ble_eq_true rfl, Nat.le_of_ble_eq_true rfl⟩ rfl (k_lt k0 (by decide)) (by rw [k0]; rfl) rfl (Nat.le_of_ble_eq_true rfl) dX6_perform_141 (fun z_23 M_24 z_23r h => ?_)
    exact xt_iret X z_23r h dX6_perform_144
abbrev rmX6_run : Room := { frames := 11, cells := 0, slots := 0, locals := 268 }
def BX6_run_28 (ke61 : Int → Mm → Prop) (Q : Int → Mm → Prop) (v0 : Int) (rec : Int → Int → Mm → Prop) (v2 : Int) (v3 : Int) (M : Mm) : Prop :=
  ((150 ≤ v3 → ke61 v2 M) ∧
  (¬ 150 ≤ v3 → (PX5_readCommand (v0 + 47) M (fun z_5 M_6 =>
  ((z_5 = 0 → ke61 v2 M_6) ∧
  (¬ z_5 = 0 → (PX6_perform v0 M_6 (fun z_7 M_8 =>
  ((z_7 < 0 → (inR (v3 + 1) ∧
  rec v2 (v3 + 1) M_8)) ∧
  (¬ z_7 < 0 → (inR (v2 + 1) ∧
  (inR (v3 + 1) ∧
  rec (v2 + 1) (v3 + 1) M_8))))))))))))
def JX6_run_61  (Q : Int → Mm → Prop) (v0 : Int) (v2 : Int) (M : Mm) : Prop :=
  (∀ M_14 : Mm, M_14 = um M (v0 + 47) 1 0 →
  Q v2 M_14)
def PX6_run (v0 : Int) (M : Mm) (Q : Int → Mm → Prop) : Prop :=
  (PX5_firstFault (v0 + 47) M (fun z_1 M_2 =>
  ((z_1 < 0 → (PX5_rewind (v0 + 47) M_2 (fun M_4 =>
  ∃ n_12 : Nat, lp_II (BX6_run_28 (fun w2_13 M_13 => JX6_run_61  Q v0 w2_13 M_13) Q v0) n_12 0 0 M_4))) ∧
  (¬ z_1 < 0 → (inR (((-10)) - z_1) ∧
  Q (((-10)) - z_1) M_2)))))
set_option maxHeartbeats 4000000 in
set_option maxRecDepth 100000 in
theorem wX6_run_28 {p : Program} {l : Launch} {e : Env} {s : State} {m : MethodId} {args : Array Value} {below : List Frame} {meth : Method} {c : Code} {G : GG} (X : Cx p s m args meth c cX6_run 4 ((some FieldType.int)) RX6 G) {Q : Int → Mm → Prop} {ke61 : Int → Mm → Prop} {v0 : Int} (k0 : gK G v0 = (6, 0)) (hke61 : ∀ (v2 : Int) (M : Mm), inR v2 → ke61 v2 M → Wt p l e rmX6_run s m args below meth c G (MQ below (PostI G Q) args s 0 0 (gA G)) 4 M [(0, rV (v0)), (2, iV (v2))] 61 []) : ∀ (n : Nat) (v2 : Int) (v3 : Int) (M : Mm), inR v2 → inR v3 → lp_II (BX6_run_28 ke61 Q v0) n v2 v3 M → Wt p l e rmX6_run s m args below meth c G (MQ below (PostI G Q) args s 0 0 (gA G)) 4 M [(0, rV (v0)), (2, iV (v2)), (3, iV (v3))] 28 [] := by
  have hG := X.2.2.2.2.2.2.2.2
  intro n
  induction n with
  | zero => intro v2 v3 M r2 r3 h; exact h.elim
  | succ n ih =>
    intro v2 v3 M r2 r3 h
    have h : BX6_run_28 ke61 Q v0 (lp_II (BX6_run_28 ke61 Q v0) n) v2 v3 M := h
    unfold BX6_run_28 at h
    refine xt_il X dX6_run_28 rfl 2 rfl ?_
    refine xt_si X dX6_run_29 (by decide) ?_
    refine xt_cge (tgt := 61) X r3 (i_rc 150 rfl) dX6_run_32 (by decide) (fun hc => ?_) (fun hc => ?_)
    · have h := h.1 hc
      refine xt_perm (lv2 := [(0, rV (v0)), (2, iV (v2))]) [0, 1] rfl ?_
      exact hke61 v2 M r2 h
    · have h := h.2 hc
      refine xt_al X dX6_run_35 rfl 0 rfl ?_
      refine gfX6_26 X k0 dX6_run_36 ?_
      refine xt_cVI X [] [] (ctX5_readCommand hG (kd_X6_2 hG k0) h) gdX6_62 pdX5_readCommand ⟨rfl, rfl⟩ ⟨Nat.le_of_ble_eq_true rfl, Nat.le_of_ble_eq_true rfl⟩ rfl (k_lt (kd_X6_2 hG k0) (by decide)) (by rw [(kd_X6_2 hG k0)]; rfl) rfl (Nat.le_of_ble_eq_true rfl) dX6_run_39 (fun z_5 M_6 z_5r h => ?_)
      refine xt_zeq (tgt := 61) X z_5r dX6_run_42 (by decide) (fun hc => ?_) (fun hc => ?_)
      · have h := h.1 hc
        refine xt_perm (lv2 := [(0, rV (v0)), (2, iV (v2))]) [0, 1] rfl ?_
        exact hke61 v2 M_6 r2 h
      · have h := h.2 hc
        refine xt_al X dX6_run_45 rfl 0 rfl ?_
        refine xt_cVI X [] [] (ctX6_perform hG k0 h) gdX6_66 pdX6_perform ⟨rfl, rfl⟩ ⟨Nat.le_of_ble_eq_true rfl, Nat.le_of_ble_eq_true rfl⟩ rfl (k_lt k0 (by decide)) (by rw [k0]; rfl) rfl (Nat.le_of_ble_eq_true rfl) dX6_run_46 (fun z_7 M_8 z_7r h => ?_)
        refine xt_zlt (tgt := 55) X z_7r dX6_run_49 (by decide) (fun hc => ?_) (fun hc => ?_)
        · have h := h.1 hc
          refine xt_inc (lv2 := [(3, iV (v3 + 1)), (0, rV (v0)), (2, iV (v2))]) X dX6_run_55 2 rfl (by decide) rfl ?_
          refine xt_goto (tgt := 28) X dX6_run_58 (by decide) ?_
          obtain ⟨g_9, h⟩ := h
          refine xt_perm (lv2 := [(0, rV (v0)), (2, iV (v2)), (3, iV (v3 + 1))]) [1, 2, 0] rfl ?_
          exact ih v2 (v3 + 1) M_8 r2 g_9 h
        · have h := h.2 hc
          refine xt_inc (lv2 := [(2, iV (v2 + 1)), (0, rV (v0)), (3, iV (v3))]) X dX6_run_52 1 rfl (by decide) rfl ?_
          refine xt_inc (lv2 := [(3, iV (v3 + 1)), (2, iV (v2 + 1)), (0, rV (v0))]) X dX6_run_55 2 rfl (by decide) rfl ?_
          refine xt_goto (tgt := 28) X dX6_run_58 (by decide) ?_
          obtain ⟨g_10, h⟩ := h
          obtain ⟨g_11, h⟩ := h
          refine xt_perm (lv2 := [(0, rV (v0)), (2, iV (v2 + 1)), (3, iV (v3 + 1))]) [2, 1, 0] rfl ?_
          exact ih (v2 + 1) (v3 + 1) M_8 g_10 g_11 h
set_option maxHeartbeats 4000000 in
set_option maxRecDepth 100000 in
theorem jX6_run_61 {p : Program} {l : Launch} {e : Env} {s : State} {m : MethodId} {args : Array Value} {below : List Frame} {meth : Method} {c : Code} {G : GG} (X : Cx p s m args meth c cX6_run 4 ((some FieldType.int)) RX6 G) {Q : Int → Mm → Prop}  {v0 : Int} {v2 : Int}  (k0 : gK G v0 = (6, 0)) (r2 : inR v2) {M : Mm} (h : JX6_run_61  Q v0 v2 M) : Wt p l e rmX6_run s m args below meth c G (MQ below (PostI G Q) args s 0 0 (gA G)) 4 M [(0, rV (v0)), (2, iV (v2))] 61 [] := by
  have hG := X.2.2.2.2.2.2.2.2
  unfold JX6_run_61 at h
  refine xt_al X dX6_run_61 rfl 0 rfl ?_
  refine gfX6_26 X k0 dX6_run_62 ?_
  refine xt_ic X dX6_run_65 ?_
  refine pfX6_47 X (kd_X6_2 hG k0) (i_rc 0 rfl) dX6_run_66 (fun M_14 hm => ?_)
  have h := h M_14 hm
  refine xt_il X dX6_run_69 rfl 1 rfl ?_
  exact xt_iret X r2 h dX6_run_70
set_option maxHeartbeats 4000000 in
set_option maxRecDepth 100000 in
theorem ctX6_run {l : Launch} {G : GG} (hG : Gd G) {v0 : Int} {M : Mm} {Q : Int → Mm → Prop} (k0 : gK G v0 = (6, 0)) (h : PX6_run v0 M Q) : Met l yX6_run (Cond.code yX6_run cX6_run 4 ((some FieldType.int)) :: tw) rmX6_run (Pre G M [rV (v0)]) (PostI G Q) 0 0 (gA G) := by
  refine met_of (own := RX6) (by decide) rfl hG (Nat.le_of_ble_eq_true rfl) (fun p e s m below meth c X => ?_)
  generalize hargs : ([rV (v0)] : List Value).toArray = args at X ⊢
  show Wt p l e rmX6_run s m args below meth c G (MQ below (PostI G Q) args s 0 0 (gA G)) 4 M [(0, rV (v0))] 0 []
  unfold PX6_run at h
  refine xt_al X dX6_run_0 rfl 0 rfl ?_
  refine gfX6_26 X k0 dX6_run_1 ?_
  refine xt_cVI X [] [] (ctX5_firstFault hG (kd_X6_2 hG k0) h) gdX6_55 pdX5_firstFault ⟨rfl, rfl⟩ ⟨Nat.le_of_ble_eq_true rfl, Nat.le_of_ble_eq_true rfl⟩ rfl (k_lt (kd_X6_2 hG k0) (by decide)) (by rw [(kd_X6_2 hG k0)]; rfl) rfl (Nat.le_of_ble_eq_true rfl) dX6_run_4 (fun z_1 M_2 z_1r h => ?_)
  refine xt_is (lv2 := [(1, iV (z_1)), (0, rV (v0))]) X dX6_run_7 rfl (by decide) rfl ?_
  refine xt_il X dX6_run_8 rfl 0 rfl ?_
  refine xt_zlt (tgt := 17) X z_1r dX6_run_9 (by decide) (fun hc => ?_) (fun hc => ?_)
  · have h := h.1 hc
    refine xt_ic X dX6_run_17 ?_
    refine xt_is (lv2 := [(2, iV (0)), (1, iV (z_1)), (0, rV (v0))]) X dX6_run_18 rfl (by decide) rfl ?_
    refine xt_al X dX6_run_19 rfl 2 rfl ?_
    refine gfX6_26 X k0 dX6_run_20 ?_
    refine xt_cVV X [] [] (ctX5_rewind hG (kd_X6_2 hG k0) h) gdX6_59 pdX5_rewind ⟨rfl, rfl⟩ ⟨Nat.le_of_ble_eq_true rfl, Nat.le_of_ble_eq_true rfl⟩ rfl (k_lt (kd_X6_2 hG k0) (by decide)) (by rw [(kd_X6_2 hG k0)]; rfl) rfl (Nat.le_of_ble_eq_true rfl) dX6_run_23 (fun M_4 h => ?_)
    refine xt_ic X dX6_run_26 ?_
    refine xt_is (lv2 := [(3, iV (0)), (2, iV (0)), (1, iV (z_1)), (0, rV (v0))]) X dX6_run_27 rfl (by decide) rfl ?_
    obtain ⟨n_12, h⟩ := h
    refine xt_perm (lv2 := [(0, rV (v0)), (2, iV (0)), (3, iV (0))]) [3, 1, 0] rfl ?_
    refine wX6_run_28 X k0 (fun w2_13 M_13 r2_13 h => ?_) n_12 0 0 M_4 (i_rc 0 rfl) (i_rc 0 rfl) h
    exact jX6_run_61 X  k0 r2_13 h
  · have h := h.2 hc
    refine xt_bi X dX6_run_12 (by decide) ?_
    refine xt_il X dX6_run_14 rfl 0 rfl ?_
    refine xt_sub X dX6_run_15 ?_
    obtain ⟨g_15, h⟩ := h
    exact xt_iret X g_15 h dX6_run_16
abbrev rmX6_undo : Room := { frames := 3, cells := 0, slots := 0, locals := 94 }
def PX6_undo (v0 : Int) (M : Mm) (Q : Int → Mm → Prop) : Prop :=
  (((M (v0 + 5) 0) = 0 → Q ((-2)) M) ∧
  (¬ (M (v0 + 5) 0) = 0 → (PX4_latest (v0 + 5) M (fun z_2 M_3 =>
  (PX3_copyFrom (v0 + 1) z_2 M_3 (fun M_5 =>
  (PX4_forgetLatest (v0 + 5) M_5 (fun M_7 =>
  (PX2_lay (v0 + M_7 v0 4) (v0 + 1) M_7 (fun M_10 =>
  (∀ M_11 : Mm, M_11 = um M_10 v0 6 0 →
  Q (M_11 (v0 + 5) 0) M_11)))))))))))
set_option maxHeartbeats 4000000 in
set_option maxRecDepth 100000 in
theorem ctX6_undo {l : Launch} {G : GG} (hG : Gd G) {v0 : Int} {M : Mm} {Q : Int → Mm → Prop} (k0 : gK G v0 = (6, 0)) (h : PX6_undo v0 M Q) : Met l yX6_undo (Cond.code yX6_undo cX6_undo 1 ((some FieldType.int)) :: tw) rmX6_undo (Pre G M [rV (v0)]) (PostI G Q) 0 0 (gA G) := by
  refine met_of (own := RX6) (by decide) rfl hG (Nat.le_of_ble_eq_true rfl) (fun p e s m below meth c X => ?_)
  generalize hargs : ([rV (v0)] : List Value).toArray = args at X ⊢
  show Wt p l e rmX6_undo s m args below meth c G (MQ below (PostI G Q) args s 0 0 (gA G)) 1 M [(0, rV (v0))] 0 []
  unfold PX6_undo at h
  refine xt_al X dX6_undo_0 rfl 0 rfl ?_
  refine gfX6_19 X k0 dX6_undo_1 ?_
  refine gfX6_115 X (kd_X6_1 hG k0) dX6_undo_4 (fun r_1 => ?_)
  refine xt_zne (tgt := 13) X r_1 dX6_undo_7 (by decide) (fun hc => ?_) (fun hc => ?_)
  · have h := h.2 hc
    refine xt_al X dX6_undo_13 rfl 0 rfl ?_
    refine gfX6_10 X k0 dX6_undo_14 ?_
    refine xt_al X dX6_undo_17 rfl 0 rfl ?_
    refine gfX6_19 X k0 dX6_undo_18 ?_
    refine xt_cVR X [] [rV (v0 + 1)] (ctX4_latest hG (kd_X6_1 hG k0) h) gdX6_118 pdX4_latest ⟨rfl, rfl⟩ ⟨Nat.le_of_ble_eq_true rfl, Nat.le_of_ble_eq_true rfl⟩ rfl (k_lt (kd_X6_1 hG k0) (by decide)) (by rw [(kd_X6_1 hG k0)]; rfl) rfl (Nat.le_of_ble_eq_true rfl) dX6_undo_21 (fun z_2 M_3 z_2r h => ?_)
    refine xt_cVV X [rV (z_2)] [] (ctX3_copyFrom hG (kd_X6_0 hG k0) z_2r h) gdX6_122 pdX3_copyFrom ⟨rfl, rfl⟩ ⟨Nat.le_of_ble_eq_true rfl, Nat.le_of_ble_eq_true rfl⟩ rfl (k_lt (kd_X6_0 hG k0) (by decide)) (by rw [(kd_X6_0 hG k0)]; rfl) rfl (Nat.le_of_ble_eq_true rfl) dX6_undo_24 (fun M_5 h => ?_)
    refine xt_al X dX6_undo_27 rfl 0 rfl ?_
    refine gfX6_19 X k0 dX6_undo_28 ?_
    refine xt_cVV X [] [] (ctX4_forgetLatest hG (kd_X6_1 hG k0) h) gdX6_125 pdX4_forgetLatest ⟨rfl, rfl⟩ ⟨Nat.le_of_ble_eq_true rfl, Nat.le_of_ble_eq_true rfl⟩ rfl (k_lt (kd_X6_1 hG k0) (by decide)) (by rw [(kd_X6_1 hG k0)]; rfl) rfl (Nat.le_of_ble_eq_true rfl) dX6_undo_31 (fun M_7 h => ?_)
    refine xt_al X dX6_undo_34 rfl 0 rfl ?_
    refine gfX6_39 X k0 dX6_undo_35 (fun k_8 => ?_)
    refine xt_al X dX6_undo_38 rfl 0 rfl ?_
    refine gfX6_10 X k0 dX6_undo_39 ?_
    refine xt_cVV X [rV (v0 + 1)] [] (ctX2_lay hG k_8 (kd_X6_0 hG k0) h) gdX6_128 pdX2_lay ⟨rfl, rfl⟩ ⟨Nat.le_of_ble_eq_true rfl, Nat.le_of_ble_eq_true rfl⟩ rfl (k_lt k_8 (by decide)) (by rw [k_8]; rfl) rfl (Nat.le_of_ble_eq_true rfl) dX6_undo_42 (fun M_10 h => ?_)
    refine xt_al X dX6_undo_45 rfl 0 rfl ?_
    refine xt_ic X dX6_undo_46 ?_
    refine pfX6_131 X k0 (i_rc 0 rfl) dX6_undo_47 (fun M_11 hm => ?_)
    have h := h M_11 hm
    refine xt_al X dX6_undo_50 rfl 0 rfl ?_
    refine gfX6_19 X k0 dX6_undo_51 ?_
    refine gfX6_115 X (kd_X6_1 hG k0) dX6_undo_54 (fun r_12 => ?_)
    exact xt_iret X r_12 h dX6_undo_57
  · have h := h.1 hc
    refine xt_bi X dX6_undo_10 (by decide) ?_
    exact xt_iret X (i_rc (-2) rfl) h dX6_undo_12
abbrev rmX6_line : Room := { frames := 1, cells := 0, slots := 0, locals := 21 }
def PX6_line (v0 : Int) (v1 : Int) (v2 : Int) (M : Mm) (Q : Int → Mm → Prop) : Prop :=
  (PX3_hasLine (v0 + 1) v1 M (fun z_1 M_2 =>
  ((z_1 = 0 → Q ((-1)) M_2) ∧
  (¬ z_1 = 0 → (((v2 < 0 ∨ 3 < v2) → Q ((-1)) M_2) ∧
  (v2 = 0 → ((0 ≤ v1 ∧ v1 < 12) ∧
  Q (M_2 ((v0 + 1) + 1) v1) M_2)) ∧
  (v2 = 1 → ((0 ≤ v1 ∧ v1 < 12) ∧
  Q (M_2 ((v0 + M_2 v0 4) + 1) v1) M_2)) ∧
  (v2 = 2 → ((0 ≤ v1 ∧ v1 < 12) ∧
  Q (M_2 ((v0 + M_2 v0 4) + 4) v1) M_2)) ∧
  (v2 = 3 → ((0 ≤ v1 ∧ v1 < 12) ∧
  Q (M_2 ((v0 + M_2 v0 4) + 3) v1) M_2)))))))
set_option maxHeartbeats 4000000 in
set_option maxRecDepth 100000 in
theorem ctX6_line {l : Launch} {G : GG} (hG : Gd G) {v0 : Int} {v1 : Int} {v2 : Int} {M : Mm} {Q : Int → Mm → Prop} (k0 : gK G v0 = (6, 0)) (r1 : inR v1) (r2 : inR v2) (h : PX6_line v0 v1 v2 M Q) : Met l yX6_line (Cond.code yX6_line cX6_line 3 ((some FieldType.int)) :: tw) rmX6_line (Pre G M [rV (v0), iV (v1), iV (v2)]) (PostI G Q) 0 0 (gA G) := by
  refine met_of (own := RX6) (by decide) rfl hG (Nat.le_of_ble_eq_true rfl) (fun p e s m below meth c X => ?_)
  generalize hargs : ([rV (v0), iV (v1), iV (v2)] : List Value).toArray = args at X ⊢
  show Wt p l e rmX6_line s m args below meth c G (MQ below (PostI G Q) args s 0 0 (gA G)) 3 M [(0, rV (v0)), (1, iV (v1)), (2, iV (v2))] 0 []
  unfold PX6_line at h
  refine xt_al X dX6_line_0 rfl 0 rfl ?_
  refine gfX6_10 X k0 dX6_line_1 ?_
  refine xt_il X dX6_line_4 rfl 1 rfl ?_
  refine xt_cVI X [iV (v1)] [] (ctX3_hasLine hG (kd_X6_0 hG k0) r1 h) gdX6_69 pdX3_hasLine ⟨rfl, rfl⟩ ⟨Nat.le_of_ble_eq_true rfl, Nat.le_of_ble_eq_true rfl⟩ rfl (k_lt (kd_X6_0 hG k0) (by decide)) (by rw [(kd_X6_0 hG k0)]; rfl) rfl (Nat.le_of_ble_eq_true rfl) dX6_line_5 (fun z_1 M_2 z_1r h => ?_)
  refine xt_zne (tgt := 13) X z_1r dX6_line_8 (by decide) (fun hc => ?_) (fun hc => ?_)
  · have h := h.2 hc
    refine xt_il X dX6_line_13 rfl 2 rfl ?_
    rcases (show (v2 < 0 ∨ 3 < v2) ∨ v2 = 0 ∨ v2 = 1 ∨ v2 = 2 ∨ v2 = 3 by omega) with hc | hc | hc | hc | hc
    · have h := h.1 hc
      refine xt_tout (tgt := 84) X r2 dX6_line_14 hc (by decide) ?_
      refine xt_ic X dX6_line_84 ?_
      exact xt_iret X (i_rc (-1) rfl) h dX6_line_85
    · have h := h.2.1 hc
      refine xt_tin (tgt := 44) X r2 dX6_line_14 0 hc (by decide) (by decide) rfl (by decide) ?_
      refine xt_al X dX6_line_44 rfl 0 rfl ?_
      refine gfX6_10 X k0 dX6_line_45 ?_
      refine gfX6_73 X (kd_X6_0 hG k0) dX6_line_48 ?_
      refine xt_il X dX6_line_51 rfl 1 rfl ?_
      obtain ⟨g_3, h⟩ := h
      refine xt_iald X (kd_X3_3 hG (kd_X6_0 hG k0)) g_3 (by decide) dX6_line_52 (fun r_4 => ?_)
      exact xt_iret X r_4 h dX6_line_53
    · have h := h.2.2.1 hc
      refine xt_tin (tgt := 54) X r2 dX6_line_14 1 hc (by decide) (by decide) rfl (by decide) ?_
      refine xt_al X dX6_line_54 rfl 0 rfl ?_
      refine gfX6_39 X k0 dX6_line_55 (fun k_5 => ?_)
      refine gfX6_134 X k_5 dX6_line_58 ?_
      refine xt_il X dX6_line_61 rfl 1 rfl ?_
      obtain ⟨g_6, h⟩ := h
      refine xt_iald X (kd_X2_1 hG k_5) g_6 (by decide) dX6_line_62 (fun r_7 => ?_)
      exact xt_iret X r_7 h dX6_line_63
    · have h := h.2.2.2.1 hc
      refine xt_tin (tgt := 64) X r2 dX6_line_14 2 hc (by decide) (by decide) rfl (by decide) ?_
      refine xt_al X dX6_line_64 rfl 0 rfl ?_
      refine gfX6_39 X k0 dX6_line_65 (fun k_8 => ?_)
      refine gfX6_137 X k_8 dX6_line_68 ?_
      refine xt_il X dX6_line_71 rfl 1 rfl ?_
      obtain ⟨g_9, h⟩ := h
      refine xt_iald X (kd_X2_4 hG k_8) g_9 (by decide) dX6_line_72 (fun r_10 => ?_)
      exact xt_iret X r_10 h dX6_line_73
    · have h := h.2.2.2.2 hc
      refine xt_tin (tgt := 74) X r2 dX6_line_14 3 hc (by decide) (by decide) rfl (by decide) ?_
      refine xt_al X dX6_line_74 rfl 0 rfl ?_
      refine gfX6_39 X k0 dX6_line_75 (fun k_11 => ?_)
      refine gfX6_140 X k_11 dX6_line_78 ?_
      refine xt_il X dX6_line_81 rfl 1 rfl ?_
      obtain ⟨g_12, h⟩ := h
      refine xt_iald X (kd_X2_3 hG k_11) g_12 (by decide) dX6_line_82 (fun r_13 => ?_)
      exact xt_iret X r_13 h dX6_line_83
  · have h := h.1 hc
    refine xt_ic X dX6_line_11 ?_
    exact xt_iret X (i_rc (-1) rfl) h dX6_line_12
abbrev rmX6_sign : Room := { frames := 2, cells := 0, slots := 0, locals := 43 }
def PX6_sign (v0 : Int) (v1 : Int) (v2 : Int) (M : Mm) (Q : Int → Mm → Prop) : Prop :=
  (PX3_hasSign (v0 + 1) v1 v2 M (fun z_1 M_2 =>
  ((z_1 = 0 → Q ((-1)) M_2) ∧
  (¬ z_1 = 0 → (PX3_signAt (v0 + 1) v1 v2 M_2 (fun z_3 M_4 =>
  Q z_3 M_4))))))
set_option maxHeartbeats 4000000 in
set_option maxRecDepth 100000 in
theorem ctX6_sign {l : Launch} {G : GG} (hG : Gd G) {v0 : Int} {v1 : Int} {v2 : Int} {M : Mm} {Q : Int → Mm → Prop} (k0 : gK G v0 = (6, 0)) (r1 : inR v1) (r2 : inR v2) (h : PX6_sign v0 v1 v2 M Q) : Met l yX6_sign (Cond.code yX6_sign cX6_sign 3 ((some FieldType.int)) :: tw) rmX6_sign (Pre G M [rV (v0), iV (v1), iV (v2)]) (PostI G Q) 0 0 (gA G) := by
  refine met_of (own := RX6) (by decide) rfl hG (Nat.le_of_ble_eq_true rfl) (fun p e s m below meth c X => ?_)
  generalize hargs : ([rV (v0), iV (v1), iV (v2)] : List Value).toArray = args at X ⊢
  show Wt p l e rmX6_sign s m args below meth c G (MQ below (PostI G Q) args s 0 0 (gA G)) 3 M [(0, rV (v0)), (1, iV (v1)), (2, iV (v2))] 0 []
  unfold PX6_sign at h
  refine xt_al X dX6_sign_0 rfl 0 rfl ?_
  refine gfX6_10 X k0 dX6_sign_1 ?_
  refine xt_il X dX6_sign_4 rfl 1 rfl ?_
  refine xt_il X dX6_sign_5 rfl 2 rfl ?_
  refine xt_cVI X [iV (v1), iV (v2)] [] (ctX3_hasSign hG (kd_X6_0 hG k0) r1 r2 h) gdX6_91 pdX3_hasSign ⟨rfl, rfl⟩ ⟨Nat.le_of_ble_eq_true rfl, Nat.le_of_ble_eq_true rfl⟩ rfl (k_lt (kd_X6_0 hG k0) (by decide)) (by rw [(kd_X6_0 hG k0)]; rfl) rfl (Nat.le_of_ble_eq_true rfl) dX6_sign_6 (fun z_1 M_2 z_1r h => ?_)
  refine xt_zeq (tgt := 24) X z_1r dX6_sign_9 (by decide) (fun hc => ?_) (fun hc => ?_)
  · have h := h.1 hc
    refine xt_ic X dX6_sign_24 ?_
    exact xt_iret X (i_rc (-1) rfl) h dX6_sign_25
  · have h := h.2 hc
    refine xt_al X dX6_sign_12 rfl 0 rfl ?_
    refine gfX6_10 X k0 dX6_sign_13 ?_
    refine xt_il X dX6_sign_16 rfl 1 rfl ?_
    refine xt_il X dX6_sign_17 rfl 2 rfl ?_
    refine xt_cVI X [iV (v1), iV (v2)] [] (ctX3_signAt hG (kd_X6_0 hG k0) r1 r2 h) gdX6_95 pdX3_signAt ⟨rfl, rfl⟩ ⟨Nat.le_of_ble_eq_true rfl, Nat.le_of_ble_eq_true rfl⟩ rfl (k_lt (kd_X6_0 hG k0) (by decide)) (by rw [(kd_X6_0 hG k0)]; rfl) rfl (Nat.le_of_ble_eq_true rfl) dX6_sign_18 (fun z_3 M_4 z_3r h => ?_)
    refine xt_goto (tgt := 25) X dX6_sign_21 (by decide) ?_
    exact xt_iret X z_3r h dX6_sign_25
abbrev rmX6_cell : Room := { frames := 3, cells := 0, slots := 0, locals := 98 }
def PX6_cell (v0 : Int) (v1 : Int) (v2 : Int) (v3 : Int) (M : Mm) (Q : Int → Mm → Prop) : Prop :=
  (PX3_hasLine (v0 + 1) v1 M (fun z_1 M_2 =>
  ((z_1 = 0 → Q ((-1)) M_2) ∧
  (¬ z_1 = 0 → ((v2 < 0 → Q ((-1)) M_2) ∧
  (¬ v2 < 0 → ((0 ≤ v1 ∧ v1 < 12) ∧
  ((v2 < (M_2 ((v0 + M_2 v0 4) + 1) v1) → (((v3 < 0 ∨ 6 < v3) → Q ((-1)) M_2) ∧
  (v3 = 0 → ((0 ≤ ((v1 * 24) + v2) ∧ ((v1 * 24) + v2) < 288) ∧
  Q (M_2 ((v0 + M_2 v0 4) + 5) ((v1 * 24) + v2)) M_2)) ∧
  (v3 = 1 → ((0 ≤ ((v1 * 24) + v2) ∧ ((v1 * 24) + v2) < 288) ∧
  Q (M_2 ((v0 + M_2 v0 4) + 6) ((v1 * 24) + v2)) M_2)) ∧
  (v3 = 2 → ((0 ≤ ((v1 * 24) + v2) ∧ ((v1 * 24) + v2) < 288) ∧
  Q (M_2 ((v0 + M_2 v0 4) + 7) ((v1 * 24) + v2)) M_2)) ∧
  (v3 = 3 → (PX2_firstOfBlock (v0 + M_2 v0 4) v1 v2 M_2 (fun z_16 M_17 =>
  Q z_16 M_17))) ∧
  (v3 = 4 → (PX2_lastOfBlock (v0 + M_2 v0 4) v1 v2 M_2 (fun z_19 M_20 =>
  Q z_19 M_20))) ∧
  (v3 = 5 → (PX2_widest (v0 + M_2 v0 4) (v0 + 1) v1 v2 M_2 (fun z_22 M_23 =>
  Q z_22 M_23))) ∧
  (v3 = 6 → (PX2_saves (v0 + M_2 v0 4) (v0 + 1) v1 v2 M_2 (fun z_25 M_26 =>
  Q z_25 M_26))))) ∧
  (¬ v2 < (M_2 ((v0 + M_2 v0 4) + 1) v1) → Q ((-1)) M_2)))))))))
set_option maxHeartbeats 4000000 in
set_option maxRecDepth 100000 in
theorem ctX6_cell {l : Launch} {G : GG} (hG : Gd G) {v0 : Int} {v1 : Int} {v2 : Int} {v3 : Int} {M : Mm} {Q : Int → Mm → Prop} (k0 : gK G v0 = (6, 0)) (r1 : inR v1) (r2 : inR v2) (r3 : inR v3) (h : PX6_cell v0 v1 v2 v3 M Q) : Met l yX6_cell (Cond.code yX6_cell cX6_cell 5 ((some FieldType.int)) :: tw) rmX6_cell (Pre G M [rV (v0), iV (v1), iV (v2), iV (v3)]) (PostI G Q) 0 0 (gA G) := by
  refine met_of (own := RX6) (by decide) rfl hG (Nat.le_of_ble_eq_true rfl) (fun p e s m below meth c X => ?_)
  generalize hargs : ([rV (v0), iV (v1), iV (v2), iV (v3)] : List Value).toArray = args at X ⊢
  show Wt p l e rmX6_cell s m args below meth c G (MQ below (PostI G Q) args s 0 0 (gA G)) 5 M [(0, rV (v0)), (1, iV (v1)), (2, iV (v2)), (3, iV (v3))] 0 []
  unfold PX6_cell at h
  refine xt_al X dX6_cell_0 rfl 0 rfl ?_
  refine gfX6_10 X k0 dX6_cell_1 ?_
  refine xt_il X dX6_cell_4 rfl 1 rfl ?_
  refine xt_cVI X [iV (v1)] [] (ctX3_hasLine hG (kd_X6_0 hG k0) r1 h) gdX6_69 pdX3_hasLine ⟨rfl, rfl⟩ ⟨Nat.le_of_ble_eq_true rfl, Nat.le_of_ble_eq_true rfl⟩ rfl (k_lt (kd_X6_0 hG k0) (by decide)) (by rw [(kd_X6_0 hG k0)]; rfl) rfl (Nat.le_of_ble_eq_true rfl) dX6_cell_5 (fun z_1 M_2 z_1r h => ?_)
  refine xt_zeq (tgt := 28) X z_1r dX6_cell_8 (by decide) (fun hc => ?_) (fun hc => ?_)
  · have h := h.1 hc
    refine xt_ic X dX6_cell_28 ?_
    exact xt_iret X (i_rc (-1) rfl) h dX6_cell_29
  · have h := h.2 hc
    refine xt_il X dX6_cell_11 rfl 2 rfl ?_
    refine xt_zlt (tgt := 28) X r2 dX6_cell_12 (by decide) (fun hc => ?_) (fun hc => ?_)
    · have h := h.1 hc
      refine xt_ic X dX6_cell_28 ?_
      exact xt_iret X (i_rc (-1) rfl) h dX6_cell_29
    · have h := h.2 hc
      refine xt_il X dX6_cell_15 rfl 2 rfl ?_
      refine xt_al X dX6_cell_16 rfl 0 rfl ?_
      refine gfX6_39 X k0 dX6_cell_17 (fun k_3 => ?_)
      refine gfX6_134 X k_3 dX6_cell_20 ?_
      refine xt_il X dX6_cell_23 rfl 1 rfl ?_
      obtain ⟨g_4, h⟩ := h
      refine xt_iald X (kd_X2_1 hG k_3) g_4 (by decide) dX6_cell_24 (fun r_5 => ?_)
      refine xt_clt (tgt := 30) X r2 r_5 dX6_cell_25 (by decide) (fun hc => ?_) (fun hc => ?_)
      · have h := h.1 hc
        refine xt_il X dX6_cell_30 rfl 1 rfl ?_
        refine xt_bi X dX6_cell_31 (by decide) ?_
        refine xt_mul X dX6_cell_33 ?_
        refine xt_il X dX6_cell_34 rfl 2 rfl ?_
        refine xt_add X dX6_cell_35 ?_
        refine xt_isw (lv2 := [(4, iV ((v1 * 24) + v2)), (0, rV (v0)), (1, iV (v1)), (2, iV (v2)), (3, iV (v3))]) X dX6_cell_36 (by decide) rfl ?_
        refine xt_il X dX6_cell_38 rfl 4 rfl ?_
        rcases (show (v3 < 0 ∨ 6 < v3) ∨ v3 = 0 ∨ v3 = 1 ∨ v3 = 2 ∨ v3 = 3 ∨ v3 = 4 ∨ v3 = 5 ∨ v3 = 6 by omega) with hc | hc | hc | hc | hc | hc | hc | hc
        · have h := h.1 hc
          refine xt_tout (tgt := 161) X r3 dX6_cell_39 hc (by decide) ?_
          refine xt_ic X dX6_cell_161 ?_
          exact xt_iret X (i_rc (-1) rfl) h dX6_cell_162
        · have h := h.2.1 hc
          refine xt_tin (tgt := 80) X r3 dX6_cell_39 0 hc (by decide) (by decide) rfl (by decide) ?_
          refine xt_al X dX6_cell_80 rfl 1 rfl ?_
          refine gfX6_39 X k0 dX6_cell_81 (fun k_6 => ?_)
          refine gfX6_143 X k_6 dX6_cell_84 ?_
          refine xt_ilw X dX6_cell_87 0 rfl ?_
          obtain ⟨g_7, h⟩ := h
          refine xt_iald X (kd_X2_5 hG k_6) g_7 (by decide) dX6_cell_89 (fun r_8 => ?_)
          exact xt_iret X r_8 h dX6_cell_90
        · have h := h.2.2.1 hc
          refine xt_tin (tgt := 91) X r3 dX6_cell_39 1 hc (by decide) (by decide) rfl (by decide) ?_
          refine xt_al X dX6_cell_91 rfl 1 rfl ?_
          refine gfX6_39 X k0 dX6_cell_92 (fun k_9 => ?_)
          refine gfX6_144 X k_9 dX6_cell_95 ?_
          refine xt_ilw X dX6_cell_98 0 rfl ?_
          obtain ⟨g_10, h⟩ := h
          refine xt_iald X (kd_X2_6 hG k_9) g_10 (by decide) dX6_cell_100 (fun r_11 => ?_)
          exact xt_iret X r_11 h dX6_cell_101
        · have h := h.2.2.2.1 hc
          refine xt_tin (tgt := 102) X r3 dX6_cell_39 2 hc (by decide) (by decide) rfl (by decide) ?_
          refine xt_al X dX6_cell_102 rfl 1 rfl ?_
          refine gfX6_39 X k0 dX6_cell_103 (fun k_12 => ?_)
          refine gfX6_147 X k_12 dX6_cell_106 ?_
          refine xt_ilw X dX6_cell_109 0 rfl ?_
          obtain ⟨g_13, h⟩ := h
          refine xt_iald X (kd_X2_7 hG k_12) g_13 (by decide) dX6_cell_111 (fun r_14 => ?_)
          exact xt_iret X r_14 h dX6_cell_112
        · have h := h.2.2.2.2.1 hc
          refine xt_tin (tgt := 113) X r3 dX6_cell_39 3 hc (by decide) (by decide) rfl (by decide) ?_
          refine xt_al X dX6_cell_113 rfl 1 rfl ?_
          refine gfX6_39 X k0 dX6_cell_114 (fun k_15 => ?_)
          refine xt_il X dX6_cell_117 rfl 2 rfl ?_
          refine xt_il X dX6_cell_118 rfl 3 rfl ?_
          refine xt_cVI X [iV (v1), iV (v2)] [] (ctX2_firstOfBlock hG k_15 r1 r2 h) gdX6_150 pdX2_firstOfBlock ⟨rfl, rfl⟩ ⟨Nat.le_of_ble_eq_true rfl, Nat.le_of_ble_eq_true rfl⟩ rfl (k_lt k_15 (by decide)) (by rw [k_15]; rfl) rfl (Nat.le_of_ble_eq_true rfl) dX6_cell_119 (fun z_16 M_17 z_16r h => ?_)
          exact xt_iret X z_16r h dX6_cell_122
        · have h := h.2.2.2.2.2.1 hc
          refine xt_tin (tgt := 123) X r3 dX6_cell_39 4 hc (by decide) (by decide) rfl (by decide) ?_
          refine xt_al X dX6_cell_123 rfl 1 rfl ?_
          refine gfX6_39 X k0 dX6_cell_124 (fun k_18 => ?_)
          refine xt_il X dX6_cell_127 rfl 2 rfl ?_
          refine xt_il X dX6_cell_128 rfl 3 rfl ?_
          refine xt_cVI X [iV (v1), iV (v2)] [] (ctX2_lastOfBlock hG k_18 r1 r2 h) gdX6_153 pdX2_lastOfBlock ⟨rfl, rfl⟩ ⟨Nat.le_of_ble_eq_true rfl, Nat.le_of_ble_eq_true rfl⟩ rfl (k_lt k_18 (by decide)) (by rw [k_18]; rfl) rfl (Nat.le_of_ble_eq_true rfl) dX6_cell_129 (fun z_19 M_20 z_19r h => ?_)
          exact xt_iret X z_19r h dX6_cell_132
        · have h := h.2.2.2.2.2.2.1 hc
          refine xt_tin (tgt := 133) X r3 dX6_cell_39 5 hc (by decide) (by decide) rfl (by decide) ?_
          refine xt_al X dX6_cell_133 rfl 1 rfl ?_
          refine gfX6_39 X k0 dX6_cell_134 (fun k_21 => ?_)
          refine xt_al X dX6_cell_137 rfl 1 rfl ?_
          refine gfX6_10 X k0 dX6_cell_138 ?_
          refine xt_il X dX6_cell_141 rfl 2 rfl ?_
          refine xt_il X dX6_cell_142 rfl 3 rfl ?_
          refine xt_cVI X [rV (v0 + 1), iV (v1), iV (v2)] [] (ctX2_widest hG k_21 (kd_X6_0 hG k0) r1 r2 h) gdX6_156 pdX2_widest ⟨rfl, rfl⟩ ⟨Nat.le_of_ble_eq_true rfl, Nat.le_of_ble_eq_true rfl⟩ rfl (k_lt k_21 (by decide)) (by rw [k_21]; rfl) rfl (Nat.le_of_ble_eq_true rfl) dX6_cell_143 (fun z_22 M_23 z_22r h => ?_)
          exact xt_iret X z_22r h dX6_cell_146
        · have h := h.2.2.2.2.2.2.2 hc
          refine xt_tin (tgt := 147) X r3 dX6_cell_39 6 hc (by decide) (by decide) rfl (by decide) ?_
          refine xt_al X dX6_cell_147 rfl 1 rfl ?_
          refine gfX6_39 X k0 dX6_cell_148 (fun k_24 => ?_)
          refine xt_al X dX6_cell_151 rfl 1 rfl ?_
          refine gfX6_10 X k0 dX6_cell_152 ?_
          refine xt_il X dX6_cell_155 rfl 2 rfl ?_
          refine xt_il X dX6_cell_156 rfl 3 rfl ?_
          refine xt_cVI X [rV (v0 + 1), iV (v1), iV (v2)] [] (ctX2_saves hG k_24 (kd_X6_0 hG k0) r1 r2 h) gdX6_160 pdX2_saves ⟨rfl, rfl⟩ ⟨Nat.le_of_ble_eq_true rfl, Nat.le_of_ble_eq_true rfl⟩ rfl (k_lt k_24 (by decide)) (by rw [k_24]; rfl) rfl (Nat.le_of_ble_eq_true rfl) dX6_cell_157 (fun z_25 M_26 z_25r h => ?_)
          exact xt_iret X z_25r h dX6_cell_160
      · have h := h.2 hc
        refine xt_ic X dX6_cell_28 ?_
        exact xt_iret X (i_rc (-1) rfl) h dX6_cell_29
abbrev rmX6_shown : Room := { frames := 2, cells := 0, slots := 0, locals := 50 }
def PX6_shown (v0 : Int) (v1 : Int) (v2 : Int) (M : Mm) (Q : Int → Mm → Prop) : Prop :=
  (PX3_hasLine (v0 + 1) v1 M (fun z_1 M_2 =>
  ((z_1 = 0 → Q ((-1)) M_2) ∧
  (¬ z_1 = 0 → ((v2 < 0 → Q ((-1)) M_2) ∧
  (¬ v2 < 0 → ((0 ≤ v1 ∧ v1 < 12) ∧
  ((v2 < (M_2 ((v0 + M_2 v0 4) + 4) v1) → ((0 ≤ v1 ∧ v1 < 12) ∧
  ((v2 < (M_2 ((v0 + M_2 v0 4) + 3) v1) → (PX2_cellAt (v0 + M_2 v0 4) v1 v2 M_2 (fun z_10 M_11 =>
  ((0 ≤ ((v1 * 24) + z_10) ∧ ((v1 * 24) + z_10) < 288) ∧
  (inR (v2 - (M_11 ((v0 + M_11 v0 4) + 7) ((v1 * 24) + z_10))) ∧
  (PX2_shownInCell (v0 + M_11 v0 4) (v0 + 1) v1 z_10 (v2 - (M_11 ((v0 + M_11 v0 4) + 7) ((v1 * 24) + z_10))) M_11 (fun z_17 M_18 =>
  Q z_17 M_18))))))) ∧
  (¬ v2 < (M_2 ((v0 + M_2 v0 4) + 3) v1) → ((0 ≤ v1 ∧ v1 < 12) ∧
  ((0 ≤ v1 ∧ v1 < 12) ∧
  (inR (((M_2 ((v0 + M_2 v0 4) + 2) v1) + v2) - (M_2 ((v0 + M_2 v0 4) + 3) v1)) ∧
  (PX3_signAt (v0 + 1) v1 (((M_2 ((v0 + M_2 v0 4) + 2) v1) + v2) - (M_2 ((v0 + M_2 v0 4) + 3) v1)) M_2 (fun z_26 M_27 =>
  Q z_26 M_27))))))))) ∧
  (¬ v2 < (M_2 ((v0 + M_2 v0 4) + 4) v1) → Q ((-1)) M_2)))))))))
set_option maxHeartbeats 4000000 in
set_option maxRecDepth 100000 in
theorem ctX6_shown {l : Launch} {G : GG} (hG : Gd G) {v0 : Int} {v1 : Int} {v2 : Int} {M : Mm} {Q : Int → Mm → Prop} (k0 : gK G v0 = (6, 0)) (r1 : inR v1) (r2 : inR v2) (h : PX6_shown v0 v1 v2 M Q) : Met l yX6_shown (Cond.code yX6_shown cX6_shown 4 ((some FieldType.int)) :: tw) rmX6_shown (Pre G M [rV (v0), iV (v1), iV (v2)]) (PostI G Q) 0 0 (gA G) := by
  refine met_of (own := RX6) (by decide) rfl hG (Nat.le_of_ble_eq_true rfl) (fun p e s m below meth c X => ?_)
  generalize hargs : ([rV (v0), iV (v1), iV (v2)] : List Value).toArray = args at X ⊢
  show Wt p l e rmX6_shown s m args below meth c G (MQ below (PostI G Q) args s 0 0 (gA G)) 4 M [(0, rV (v0)), (1, iV (v1)), (2, iV (v2))] 0 []
  unfold PX6_shown at h
  refine xt_al X dX6_shown_0 rfl 0 rfl ?_
  refine gfX6_10 X k0 dX6_shown_1 ?_
  refine xt_il X dX6_shown_4 rfl 1 rfl ?_
  refine xt_cVI X [iV (v1)] [] (ctX3_hasLine hG (kd_X6_0 hG k0) r1 h) gdX6_69 pdX3_hasLine ⟨rfl, rfl⟩ ⟨Nat.le_of_ble_eq_true rfl, Nat.le_of_ble_eq_true rfl⟩ rfl (k_lt (kd_X6_0 hG k0) (by decide)) (by rw [(kd_X6_0 hG k0)]; rfl) rfl (Nat.le_of_ble_eq_true rfl) dX6_shown_5 (fun z_1 M_2 z_1r h => ?_)
  refine xt_zeq (tgt := 28) X z_1r dX6_shown_8 (by decide) (fun hc => ?_) (fun hc => ?_)
  · have h := h.1 hc
    refine xt_ic X dX6_shown_28 ?_
    exact xt_iret X (i_rc (-1) rfl) h dX6_shown_29
  · have h := h.2 hc
    refine xt_il X dX6_shown_11 rfl 2 rfl ?_
    refine xt_zlt (tgt := 28) X r2 dX6_shown_12 (by decide) (fun hc => ?_) (fun hc => ?_)
    · have h := h.1 hc
      refine xt_ic X dX6_shown_28 ?_
      exact xt_iret X (i_rc (-1) rfl) h dX6_shown_29
    · have h := h.2 hc
      refine xt_il X dX6_shown_15 rfl 2 rfl ?_
      refine xt_al X dX6_shown_16 rfl 0 rfl ?_
      refine gfX6_39 X k0 dX6_shown_17 (fun k_3 => ?_)
      refine gfX6_137 X k_3 dX6_shown_20 ?_
      refine xt_il X dX6_shown_23 rfl 1 rfl ?_
      obtain ⟨g_4, h⟩ := h
      refine xt_iald X (kd_X2_4 hG k_3) g_4 (by decide) dX6_shown_24 (fun r_5 => ?_)
      refine xt_clt (tgt := 30) X r2 r_5 dX6_shown_25 (by decide) (fun hc => ?_) (fun hc => ?_)
      · have h := h.1 hc
        refine xt_il X dX6_shown_30 rfl 2 rfl ?_
        refine xt_al X dX6_shown_31 rfl 0 rfl ?_
        refine gfX6_39 X k0 dX6_shown_32 (fun k_6 => ?_)
        refine gfX6_140 X k_6 dX6_shown_35 ?_
        refine xt_il X dX6_shown_38 rfl 1 rfl ?_
        obtain ⟨g_7, h⟩ := h
        refine xt_iald X (kd_X2_3 hG k_6) g_7 (by decide) dX6_shown_39 (fun r_8 => ?_)
        refine xt_clt (tgt := 73) X r2 r_8 dX6_shown_40 (by decide) (fun hc => ?_) (fun hc => ?_)
        · have h := h.1 hc
          refine xt_al X dX6_shown_73 rfl 0 rfl ?_
          refine gfX6_39 X k0 dX6_shown_74 (fun k_9 => ?_)
          refine xt_il X dX6_shown_77 rfl 1 rfl ?_
          refine xt_il X dX6_shown_78 rfl 2 rfl ?_
          refine xt_cVI X [iV (v1), iV (v2)] [] (ctX2_cellAt hG k_9 r1 r2 h) gdX6_166 pdX2_cellAt ⟨rfl, rfl⟩ ⟨Nat.le_of_ble_eq_true rfl, Nat.le_of_ble_eq_true rfl⟩ rfl (k_lt k_9 (by decide)) (by rw [k_9]; rfl) rfl (Nat.le_of_ble_eq_true rfl) dX6_shown_79 (fun z_10 M_11 z_10r h => ?_)
          refine xt_is (lv2 := [(3, iV (z_10)), (0, rV (v0)), (1, iV (v1)), (2, iV (v2))]) X dX6_shown_82 rfl (by decide) rfl ?_
          refine xt_al X dX6_shown_83 rfl 1 rfl ?_
          refine gfX6_39 X k0 dX6_shown_84 (fun k_12 => ?_)
          refine xt_al X dX6_shown_87 rfl 1 rfl ?_
          refine gfX6_10 X k0 dX6_shown_88 ?_
          refine xt_il X dX6_shown_91 rfl 2 rfl ?_
          refine xt_il X dX6_shown_92 rfl 0 rfl ?_
          refine xt_il X dX6_shown_93 rfl 3 rfl ?_
          refine xt_al X dX6_shown_94 rfl 1 rfl ?_
          refine gfX6_39 X k0 dX6_shown_95 (fun k_13 => ?_)
          refine gfX6_147 X k_13 dX6_shown_98 ?_
          refine xt_il X dX6_shown_101 rfl 2 rfl ?_
          refine xt_bi X dX6_shown_102 (by decide) ?_
          refine xt_mul X dX6_shown_104 ?_
          refine xt_il X dX6_shown_105 rfl 0 rfl ?_
          refine xt_add X dX6_shown_106 ?_
          obtain ⟨g_14, h⟩ := h
          refine xt_iald X (kd_X2_7 hG k_13) g_14 (by decide) dX6_shown_107 (fun r_15 => ?_)
          refine xt_sub X dX6_shown_108 ?_
          obtain ⟨g_16, h⟩ := h
          refine xt_cVI X [rV (v0 + 1), iV (v1), iV (z_10), iV (v2 - (M_11 ((v0 + M_11 v0 4) + 7) ((v1 * 24) + z_10)))] [] (ctX2_shownInCell hG k_12 (kd_X6_0 hG k0) r1 z_10r g_16 h) gdX6_169 pdX2_shownInCell ⟨rfl, rfl⟩ ⟨Nat.le_of_ble_eq_true rfl, Nat.le_of_ble_eq_true rfl⟩ rfl (k_lt k_12 (by decide)) (by rw [k_12]; rfl) rfl (Nat.le_of_ble_eq_true rfl) dX6_shown_109 (fun z_17 M_18 z_17r h => ?_)
          exact xt_iret X z_17r h dX6_shown_112
        · have h := h.2 hc
          refine xt_al X dX6_shown_43 rfl 0 rfl ?_
          refine gfX6_10 X k0 dX6_shown_44 ?_
          refine xt_il X dX6_shown_47 rfl 1 rfl ?_
          refine xt_al X dX6_shown_48 rfl 0 rfl ?_
          refine gfX6_39 X k0 dX6_shown_49 (fun k_19 => ?_)
          refine gfX6_163 X k_19 dX6_shown_52 ?_
          refine xt_il X dX6_shown_55 rfl 1 rfl ?_
          obtain ⟨g_20, h⟩ := h
          refine xt_iald X (kd_X2_2 hG k_19) g_20 (by decide) dX6_shown_56 (fun r_21 => ?_)
          refine xt_il X dX6_shown_57 rfl 2 rfl ?_
          refine xt_add X dX6_shown_58 ?_
          refine xt_al X dX6_shown_59 rfl 0 rfl ?_
          refine gfX6_39 X k0 dX6_shown_60 (fun k_22 => ?_)
          refine gfX6_140 X k_22 dX6_shown_63 ?_
          refine xt_il X dX6_shown_66 rfl 1 rfl ?_
          obtain ⟨g_23, h⟩ := h
          refine xt_iald X (kd_X2_3 hG k_22) g_23 (by decide) dX6_shown_67 (fun r_24 => ?_)
          refine xt_sub X dX6_shown_68 ?_
          obtain ⟨g_25, h⟩ := h
          refine xt_cVI X [iV (v1), iV (((M_2 ((v0 + M_2 v0 4) + 2) v1) + v2) - (M_2 ((v0 + M_2 v0 4) + 3) v1))] [] (ctX3_signAt hG (kd_X6_0 hG k0) r1 g_25 h) gdX6_95 pdX3_signAt ⟨rfl, rfl⟩ ⟨Nat.le_of_ble_eq_true rfl, Nat.le_of_ble_eq_true rfl⟩ rfl (k_lt (kd_X6_0 hG k0) (by decide)) (by rw [(kd_X6_0 hG k0)]; rfl) rfl (Nat.le_of_ble_eq_true rfl) dX6_shown_69 (fun z_26 M_27 z_26r h => ?_)
          exact xt_iret X z_26r h dX6_shown_72
      · have h := h.2 hc
        refine xt_ic X dX6_shown_28 ?_
        exact xt_iret X (i_rc (-1) rfl) h dX6_shown_29
abbrev rmX6_align : Room := { frames := 0, cells := 0, slots := 0, locals := 0 }
def JX6_align_22  (Q : Int → Mm → Prop)  (M : Mm) : Prop :=
  Q ((-1)) M
def PX6_align (v0 : Int) (v1 : Int) (M : Mm) (Q : Int → Mm → Prop) : Prop :=
  ((v1 < 0 → JX6_align_22  Q M) ∧
  (¬ v1 < 0 → ((24 ≤ v1 → JX6_align_22  Q M) ∧
  (¬ 24 ≤ v1 → ((0 ≤ v1 ∧ v1 < 24) ∧
  Q (M ((v0 + 1) + 3) v1) M)))))
set_option maxHeartbeats 4000000 in
set_option maxRecDepth 100000 in
theorem jX6_align_22 {p : Program} {l : Launch} {e : Env} {s : State} {m : MethodId} {args : Array Value} {below : List Frame} {meth : Method} {c : Code} {G : GG} (X : Cx p s m args meth c cX6_align 2 ((some FieldType.int)) RX6 G) {Q : Int → Mm → Prop}     {M : Mm} (h : JX6_align_22  Q  M) : Wt p l e rmX6_align s m args below meth c G (MQ below (PostI G Q) args s 0 0 (gA G)) 2 M [] 22 [] := by
  have hG := X.2.2.2.2.2.2.2.2
  unfold JX6_align_22 at h
  refine xt_ic X dX6_align_22 ?_
  exact xt_iret X (i_rc (-1) rfl) h dX6_align_23
set_option maxHeartbeats 4000000 in
set_option maxRecDepth 100000 in
theorem ctX6_align {l : Launch} {G : GG} (hG : Gd G) {v0 : Int} {v1 : Int} {M : Mm} {Q : Int → Mm → Prop} (k0 : gK G v0 = (6, 0)) (r1 : inR v1) (h : PX6_align v0 v1 M Q) : Met l yX6_align (Cond.code yX6_align cX6_align 2 ((some FieldType.int)) :: tw) rmX6_align (Pre G M [rV (v0), iV (v1)]) (PostI G Q) 0 0 (gA G) := by
  refine met_of (own := RX6) (by decide) rfl hG (Nat.le_of_ble_eq_true rfl) (fun p e s m below meth c X => ?_)
  generalize hargs : ([rV (v0), iV (v1)] : List Value).toArray = args at X ⊢
  show Wt p l e rmX6_align s m args below meth c G (MQ below (PostI G Q) args s 0 0 (gA G)) 2 M [(0, rV (v0)), (1, iV (v1))] 0 []
  unfold PX6_align at h
  refine xt_il X dX6_align_0 rfl 1 rfl ?_
  refine xt_zlt (tgt := 22) X r1 dX6_align_1 (by decide) (fun hc => ?_) (fun hc => ?_)
  · have h := h.1 hc
    refine xt_perm (lv2 := []) [] rfl ?_
    exact jX6_align_22 X   h
  · have h := h.2 hc
    refine xt_il X dX6_align_4 rfl 1 rfl ?_
    refine xt_bi X dX6_align_5 (by decide) ?_
    refine xt_cge (tgt := 22) X r1 (i_rc 24 rfl) dX6_align_7 (by decide) (fun hc => ?_) (fun hc => ?_)
    · have h := h.1 hc
      refine xt_perm (lv2 := []) [] rfl ?_
      exact jX6_align_22 X   h
    · have h := h.2 hc
      refine xt_al X dX6_align_10 rfl 0 rfl ?_
      refine gfX6_10 X k0 dX6_align_11 ?_
      refine gfX6_173 X (kd_X6_0 hG k0) dX6_align_14 ?_
      refine xt_il X dX6_align_17 rfl 1 rfl ?_
      obtain ⟨g_1, h⟩ := h
      refine xt_iald X (kd_X3_5 hG (kd_X6_0 hG k0)) g_1 (by decide) dX6_align_18 (fun r_2 => ?_)
      refine xt_goto (tgt := 23) X dX6_align_19 (by decide) ?_
      exact xt_iret X r_2 h dX6_align_23
abbrev rmX6_count : Room := { frames := 2, cells := 0, slots := 0, locals := 62 }
def PX6_count (v0 : Int) (v1 : Int) (M : Mm) (Q : Int → Mm → Prop) : Prop :=
  (((v1 < 0 ∨ 8 < v1) → Q ((-1)) M) ∧
  (v1 = 0 → Q (M (v0 + 1) 0) M) ∧
  (v1 = 1 → Q (M (v0 + 1) 1) M) ∧
  (v1 = 2 → Q (M (v0 + 1) 2) M) ∧
  (v1 = 3 → Q (M v0 6) M) ∧
  (v1 = 4 → Q (M (v0 + M v0 4) 0) M) ∧
  (v1 = 5 → (PX2_widestLine (v0 + M v0 4) M (fun z_8 M_9 =>
  Q z_8 M_9))) ∧
  (v1 = 6 → (PX2_allTogether (v0 + M v0 4) M (fun z_11 M_12 =>
  Q z_11 M_12))) ∧
  (v1 = 7 → Q (M (v0 + 5) 0) M) ∧
  (v1 = 8 → Q (M (v0 + 47) 1) M))
set_option maxHeartbeats 4000000 in
set_option maxRecDepth 100000 in
theorem ctX6_count {l : Launch} {G : GG} (hG : Gd G) {v0 : Int} {v1 : Int} {M : Mm} {Q : Int → Mm → Prop} (k0 : gK G v0 = (6, 0)) (r1 : inR v1) (h : PX6_count v0 v1 M Q) : Met l yX6_count (Cond.code yX6_count cX6_count 2 ((some FieldType.int)) :: tw) rmX6_count (Pre G M [rV (v0), iV (v1)]) (PostI G Q) 0 0 (gA G) := by
  refine met_of (own := RX6) (by decide) rfl hG (Nat.le_of_ble_eq_true rfl) (fun p e s m below meth c X => ?_)
  generalize hargs : ([rV (v0), iV (v1)] : List Value).toArray = args at X ⊢
  show Wt p l e rmX6_count s m args below meth c G (MQ below (PostI G Q) args s 0 0 (gA G)) 2 M [(0, rV (v0)), (1, iV (v1))] 0 []
  unfold PX6_count at h
  refine xt_il X dX6_count_0 rfl 1 rfl ?_
  rcases (show (v1 < 0 ∨ 8 < v1) ∨ v1 = 0 ∨ v1 = 1 ∨ v1 = 2 ∨ v1 = 3 ∨ v1 = 4 ∨ v1 = 5 ∨ v1 = 6 ∨ v1 = 7 ∨ v1 = 8 by omega) with hc | hc | hc | hc | hc | hc | hc | hc | hc | hc
  · have h := h.1 hc
    refine xt_tout (tgt := 121) X r1 dX6_count_1 hc (by decide) ?_
    refine xt_ic X dX6_count_121 ?_
    exact xt_iret X (i_rc (-1) rfl) h dX6_count_122
  · have h := h.2.1 hc
    refine xt_tin (tgt := 52) X r1 dX6_count_1 0 hc (by decide) (by decide) rfl (by decide) ?_
    refine xt_al X dX6_count_52 rfl 0 rfl ?_
    refine gfX6_10 X k0 dX6_count_53 ?_
    refine gfX6_102 X (kd_X6_0 hG k0) dX6_count_56 (fun r_1 => ?_)
    exact xt_iret X r_1 h dX6_count_59
  · have h := h.2.2.1 hc
    refine xt_tin (tgt := 60) X r1 dX6_count_1 1 hc (by decide) (by decide) rfl (by decide) ?_
    refine xt_al X dX6_count_60 rfl 0 rfl ?_
    refine gfX6_10 X k0 dX6_count_61 ?_
    refine gfX6_176 X (kd_X6_0 hG k0) dX6_count_64 (fun r_2 => ?_)
    exact xt_iret X r_2 h dX6_count_67
  · have h := h.2.2.2.1 hc
    refine xt_tin (tgt := 68) X r1 dX6_count_1 2 hc (by decide) (by decide) rfl (by decide) ?_
    refine xt_al X dX6_count_68 rfl 0 rfl ?_
    refine gfX6_10 X k0 dX6_count_69 ?_
    refine gfX6_179 X (kd_X6_0 hG k0) dX6_count_72 (fun r_3 => ?_)
    exact xt_iret X r_3 h dX6_count_75
  · have h := h.2.2.2.2.1 hc
    refine xt_tin (tgt := 76) X r1 dX6_count_1 3 hc (by decide) (by decide) rfl (by decide) ?_
    refine xt_al X dX6_count_76 rfl 0 rfl ?_
    refine gfX6_131 X k0 dX6_count_77 (fun r_4 => ?_)
    exact xt_iret X r_4 h dX6_count_80
  · have h := h.2.2.2.2.2.1 hc
    refine xt_tin (tgt := 81) X r1 dX6_count_1 4 hc (by decide) (by decide) rfl (by decide) ?_
    refine xt_al X dX6_count_81 rfl 0 rfl ?_
    refine gfX6_39 X k0 dX6_count_82 (fun k_5 => ?_)
    refine gfX6_182 X k_5 dX6_count_85 (fun r_6 => ?_)
    exact xt_iret X r_6 h dX6_count_88
  · have h := h.2.2.2.2.2.2.1 hc
    refine xt_tin (tgt := 89) X r1 dX6_count_1 5 hc (by decide) (by decide) rfl (by decide) ?_
    refine xt_al X dX6_count_89 rfl 0 rfl ?_
    refine gfX6_39 X k0 dX6_count_90 (fun k_7 => ?_)
    refine xt_cVI X [] [] (ctX2_widestLine hG k_7 h) gdX6_185 pdX2_widestLine ⟨rfl, rfl⟩ ⟨Nat.le_of_ble_eq_true rfl, Nat.le_of_ble_eq_true rfl⟩ rfl (k_lt k_7 (by decide)) (by rw [k_7]; rfl) rfl (Nat.le_of_ble_eq_true rfl) dX6_count_93 (fun z_8 M_9 z_8r h => ?_)
    exact xt_iret X z_8r h dX6_count_96
  · have h := h.2.2.2.2.2.2.2.1 hc
    refine xt_tin (tgt := 97) X r1 dX6_count_1 6 hc (by decide) (by decide) rfl (by decide) ?_
    refine xt_al X dX6_count_97 rfl 0 rfl ?_
    refine gfX6_39 X k0 dX6_count_98 (fun k_10 => ?_)
    refine xt_cVI X [] [] (ctX2_allTogether hG k_10 h) gdX6_188 pdX2_allTogether ⟨rfl, rfl⟩ ⟨Nat.le_of_ble_eq_true rfl, Nat.le_of_ble_eq_true rfl⟩ rfl (k_lt k_10 (by decide)) (by rw [k_10]; rfl) rfl (Nat.le_of_ble_eq_true rfl) dX6_count_101 (fun z_11 M_12 z_11r h => ?_)
    exact xt_iret X z_11r h dX6_count_104
  · have h := h.2.2.2.2.2.2.2.2.1 hc
    refine xt_tin (tgt := 105) X r1 dX6_count_1 7 hc (by decide) (by decide) rfl (by decide) ?_
    refine xt_al X dX6_count_105 rfl 0 rfl ?_
    refine gfX6_19 X k0 dX6_count_106 ?_
    refine gfX6_115 X (kd_X6_1 hG k0) dX6_count_109 (fun r_13 => ?_)
    exact xt_iret X r_13 h dX6_count_112
  · have h := h.2.2.2.2.2.2.2.2.2 hc
    refine xt_tin (tgt := 113) X r1 dX6_count_1 8 hc (by decide) (by decide) rfl (by decide) ?_
    refine xt_al X dX6_count_113 rfl 0 rfl ?_
    refine gfX6_26 X k0 dX6_count_114 ?_
    refine gfX6_47 X (kd_X6_2 hG k0) dX6_count_117 (fun r_14 => ?_)
    exact xt_iret X r_14 h dX6_count_120
abbrev rmX6_digest : Room := { frames := 2, cells := 0, slots := 0, locals := 50 }
def BX6_digest_71 (ke108 : Int64 → Mm → Prop) (Q : Int64 → Mm → Prop) (v0 : Int) (v3 : Int) (v4 : Int) (v5 : Int) (rec : Int64 → Int → Mm → Prop) (v1 : Int64) (v6 : Int) (M : Mm) : Prop :=
  ((v5 ≤ v6 → ke108 v1 M) ∧
  (¬ v5 ≤ v6 → (PX2_shownInCell (v0 + M v0 4) (v0 + 1) v3 v4 v6 M (fun z_12 M_13 =>
  (inR (v6 + 1) ∧
  rec ((31 * v1) + ((Int32.ofInt z_12).toInt64)) (v6 + 1) M_13)))))
def BX6_digest_37 (ke114 : Int64 → Mm → Prop) (Q : Int64 → Mm → Prop) (v0 : Int) (v3 : Int) (rec : Int64 → Int → Mm → Prop) (v1 : Int64) (v4 : Int) (M : Mm) : Prop :=
  ((0 ≤ v3 ∧ v3 < 12) ∧
  (((M ((v0 + M v0 4) + 1) v3) ≤ v4 → ke114 v1 M) ∧
  (¬ (M ((v0 + M v0 4) + 1) v3) ≤ v4 → ((0 ≤ ((v3 * 24) + v4) ∧ ((v3 * 24) + v4) < 288) ∧
  ∃ n_15 : Nat, lp_LI (BX6_digest_71 (fun w1_16 M_16 => (inR (v4 + 1) ∧
  rec w1_16 (v4 + 1) M_16)) Q v0 v3 v4 (M ((v0 + M v0 4) + 6) ((v3 * 24) + v4))) n_15 v1 0 M))))
def BX6_digest_125 (ke163 : Int64 → Mm → Prop) (Q : Int64 → Mm → Prop) (v0 : Int) (v3 : Int) (rec : Int64 → Int → Mm → Prop) (v1 : Int64) (v4 : Int) (M : Mm) : Prop :=
  ((0 ≤ v3 ∧ v3 < 12) ∧
  (((M ((v0 + 1) + 1) v3) ≤ v4 → ke163 v1 M) ∧
  (¬ (M ((v0 + 1) + 1) v3) ≤ v4 → (PX3_signAt (v0 + 1) v3 v4 M (fun z_25 M_26 =>
  (inR (v4 + 1) ∧
  rec ((31 * v1) + ((Int32.ofInt z_25).toInt64)) (v4 + 1) M_26))))))
def BX6_digest_6  (Q : Int64 → Mm → Prop) (v0 : Int) (rec : Int64 → Int → Mm → Prop) (v1 : Int64) (v3 : Int) (M : Mm) : Prop :=
  (((M (v0 + 1) 0) ≤ v3 → Q v1 M) ∧
  (¬ (M (v0 + 1) 0) ≤ v3 → ((0 ≤ v3 ∧ v3 < 12) ∧
  ∃ n_18 : Nat, lp_LI (BX6_digest_37 (fun w1_19 M_19 => ((0 ≤ v3 ∧ v3 < 12) ∧
  ∃ n_28 : Nat, lp_LI (BX6_digest_125 (fun w1_29 M_29 => (inR (v3 + 1) ∧
  rec w1_29 (v3 + 1) M_29)) Q v0 v3) n_28 w1_19 (M_19 ((v0 + M_19 v0 4) + 2) v3) M_19)) Q v0 v3) n_18 ((31 * v1) + ((Int32.ofInt (M ((v0 + M v0 4) + 4) v3)).toInt64)) 0 M)))
def PX6_digest (v0 : Int) (M : Mm) (Q : Int64 → Mm → Prop) : Prop :=
  ∃ n_31 : Nat, lp_LI (BX6_digest_6  Q v0) n_31 17 0 M
set_option maxHeartbeats 4000000 in
set_option maxRecDepth 100000 in
theorem wX6_digest_71 {p : Program} {l : Launch} {e : Env} {s : State} {m : MethodId} {args : Array Value} {below : List Frame} {meth : Method} {c : Code} {G : GG} (X : Cx p s m args meth c cX6_digest 7 ((some FieldType.long)) RX6 G) {Q : Int64 → Mm → Prop} {ke108 : Int64 → Mm → Prop} {v0 : Int} {v3 : Int} {v4 : Int} {v5 : Int} (k0 : gK G v0 = (6, 0)) (r3 : inR v3) (r4 : inR v4) (r5 : inR v5) (hke108 : ∀ (v1 : Int64) (M : Mm), ke108 v1 M → Wt p l e rmX6_digest s m args below meth c G (MQ below (PostL G Q) args s 0 0 (gA G)) 7 M [(0, rV (v0)), (1, .long (v1)), (3, iV (v3)), (4, iV (v4))] 108 []) : ∀ (n : Nat) (v1 : Int64) (v6 : Int) (M : Mm), inR v6 → lp_LI (BX6_digest_71 ke108 Q v0 v3 v4 v5) n v1 v6 M → Wt p l e rmX6_digest s m args below meth c G (MQ below (PostL G Q) args s 0 0 (gA G)) 7 M [(0, rV (v0)), (1, .long (v1)), (3, iV (v3)), (4, iV (v4)), (5, iV (v5)), (6, iV (v6))] 71 [] := by
  have hG := X.2.2.2.2.2.2.2.2
  intro n
  induction n with
  | zero => intro v1 v6 M r6 h; exact h.elim
  | succ n ih =>
    intro v1 v6 M r6 h
    have h : BX6_digest_71 ke108 Q v0 v3 v4 v5 (lp_LI (BX6_digest_71 ke108 Q v0 v3 v4 v5) n) v1 v6 M := h
    unfold BX6_digest_71 at h
    refine xt_ilw X dX6_digest_71 5 rfl ?_
    refine xt_ilw X dX6_digest_73 4 rfl ?_
    refine xt_cge (tgt := 108) X r6 r5 dX6_digest_75 (by decide) (fun hc => ?_) (fun hc => ?_)
    · have h := h.1 hc
      refine xt_perm (lv2 := [(0, rV (v0)), (1, .long (v1)), (3, iV (v3)), (4, iV (v4))]) [0, 1, 2, 3] rfl ?_
      exact hke108 v1 M  h
    · have h := h.2 hc
      refine xt_ldc2 X klX6_193 dX6_digest_78 ?_
      refine xt_ll X dX6_digest_81 rfl 1 rfl ?_
      refine xt_lmul X dX6_digest_82 ?_
      refine xt_al X dX6_digest_83 rfl 0 rfl ?_
      refine gfX6_39 X k0 dX6_digest_84 (fun k_11 => ?_)
      refine xt_al X dX6_digest_87 rfl 0 rfl ?_
      refine gfX6_10 X k0 dX6_digest_88 ?_
      refine xt_il X dX6_digest_91 rfl 2 rfl ?_
      refine xt_ilw X dX6_digest_92 3 rfl ?_
      refine xt_ilw X dX6_digest_94 5 rfl ?_
      refine xt_cVI X [rV (v0 + 1), iV (v3), iV (v4), iV (v6)] [.long (31 * v1)] (ctX2_shownInCell hG k_11 (kd_X6_0 hG k0) r3 r4 r6 h) gdX6_169 pdX2_shownInCell ⟨rfl, rfl⟩ ⟨Nat.le_of_ble_eq_true rfl, Nat.le_of_ble_eq_true rfl⟩ rfl (k_lt k_11 (by decide)) (by rw [k_11]; rfl) rfl (Nat.le_of_ble_eq_true rfl) dX6_digest_96 (fun z_12 M_13 z_12r h => ?_)
      refine xt_i2l X dX6_digest_99 ?_
      refine xt_ladd X dX6_digest_100 ?_
      refine xt_ls (lv2 := [(1, .long ((31 * v1) + ((Int32.ofInt z_12).toInt64))), (0, rV (v0)), (3, iV (v3)), (4, iV (v4)), (5, iV (v5)), (6, iV (v6))]) X dX6_digest_101 rfl (by decide) rfl ?_
      refine xt_inc (lv2 := [(6, iV (v6 + 1)), (1, .long ((31 * v1) + ((Int32.ofInt z_12).toInt64))), (0, rV (v0)), (3, iV (v3)), (4, iV (v4)), (5, iV (v5))]) X dX6_digest_102 5 rfl (by decide) rfl ?_
      refine xt_goto (tgt := 71) X dX6_digest_105 (by decide) ?_
      obtain ⟨g_14, h⟩ := h
      refine xt_perm (lv2 := [(0, rV (v0)), (1, .long ((31 * v1) + ((Int32.ofInt z_12).toInt64))), (3, iV (v3)), (4, iV (v4)), (5, iV (v5)), (6, iV (v6 + 1))]) [2, 1, 3, 4, 5, 0] rfl ?_
      exact ih ((31 * v1) + ((Int32.ofInt z_12).toInt64)) (v6 + 1) M_13 g_14 h
set_option maxHeartbeats 4000000 in
set_option maxRecDepth 100000 in
theorem wX6_digest_37 {p : Program} {l : Launch} {e : Env} {s : State} {m : MethodId} {args : Array Value} {below : List Frame} {meth : Method} {c : Code} {G : GG} (X : Cx p s m args meth c cX6_digest 7 ((some FieldType.long)) RX6 G) {Q : Int64 → Mm → Prop} {ke114 : Int64 → Mm → Prop} {v0 : Int} {v3 : Int} (k0 : gK G v0 = (6, 0)) (r3 : inR v3) (hke114 : ∀ (v1 : Int64) (M : Mm), ke114 v1 M → Wt p l e rmX6_digest s m args below meth c G (MQ below (PostL G Q) args s 0 0 (gA G)) 7 M [(0, rV (v0)), (1, .long (v1)), (3, iV (v3))] 114 []) : ∀ (n : Nat) (v1 : Int64) (v4 : Int) (M : Mm), inR v4 → lp_LI (BX6_digest_37 ke114 Q v0 v3) n v1 v4 M → Wt p l e rmX6_digest s m args below meth c G (MQ below (PostL G Q) args s 0 0 (gA G)) 7 M [(0, rV (v0)), (1, .long (v1)), (3, iV (v3)), (4, iV (v4))] 37 [] := by
  have hG := X.2.2.2.2.2.2.2.2
  intro n
  induction n with
  | zero => intro v1 v4 M r4 h; exact h.elim
  | succ n ih =>
    intro v1 v4 M r4 h
    have h : BX6_digest_37 ke114 Q v0 v3 (lp_LI (BX6_digest_37 ke114 Q v0 v3) n) v1 v4 M := h
    unfold BX6_digest_37 at h
    refine xt_ilw X dX6_digest_37 3 rfl ?_
    refine xt_al X dX6_digest_39 rfl 0 rfl ?_
    refine gfX6_39 X k0 dX6_digest_40 (fun k_5 => ?_)
    refine gfX6_134 X k_5 dX6_digest_43 ?_
    refine xt_il X dX6_digest_46 rfl 2 rfl ?_
    obtain ⟨g_6, h⟩ := h
    refine xt_iald X (kd_X2_1 hG k_5) g_6 (by decide) dX6_digest_47 (fun r_7 => ?_)
    refine xt_cge (tgt := 114) X r4 r_7 dX6_digest_48 (by decide) (fun hc => ?_) (fun hc => ?_)
    · have h := h.1 hc
      refine xt_perm (lv2 := [(0, rV (v0)), (1, .long (v1)), (3, iV (v3))]) [0, 1, 2] rfl ?_
      exact hke114 v1 M  h
    · have h := h.2 hc
      refine xt_al X dX6_digest_51 rfl 0 rfl ?_
      refine gfX6_39 X k0 dX6_digest_52 (fun k_8 => ?_)
      refine gfX6_144 X k_8 dX6_digest_55 ?_
      refine xt_il X dX6_digest_58 rfl 2 rfl ?_
      refine xt_bi X dX6_digest_59 (by decide) ?_
      refine xt_mul X dX6_digest_61 ?_
      refine xt_ilw X dX6_digest_62 3 rfl ?_
      refine xt_add X dX6_digest_64 ?_
      obtain ⟨g_9, h⟩ := h
      refine xt_iald X (kd_X2_6 hG k_8) g_9 (by decide) dX6_digest_65 (fun r_10 => ?_)
      refine xt_isw (lv2 := [(5, iV (M ((v0 + M v0 4) + 6) ((v3 * 24) + v4))), (0, rV (v0)), (1, .long (v1)), (3, iV (v3)), (4, iV (v4))]) X dX6_digest_66 (by decide) rfl ?_
      refine xt_ic X dX6_digest_68 ?_
      refine xt_isw (lv2 := [(6, iV (0)), (5, iV (M ((v0 + M v0 4) + 6) ((v3 * 24) + v4))), (0, rV (v0)), (1, .long (v1)), (3, iV (v3)), (4, iV (v4))]) X dX6_digest_69 (by decide) rfl ?_
      obtain ⟨n_15, h⟩ := h
      refine xt_perm (lv2 := [(0, rV (v0)), (1, .long (v1)), (3, iV (v3)), (4, iV (v4)), (5, iV (M ((v0 + M v0 4) + 6) ((v3 * 24) + v4))), (6, iV (0))]) [2, 3, 4, 5, 1, 0] rfl ?_
      refine wX6_digest_71 X k0 r3 r4 r_10 (fun w1_16 M_16 h => ?_) n_15 v1 0 M (i_rc 0 rfl) h
      refine xt_inc (lv2 := [(4, iV (v4 + 1)), (0, rV (v0)), (1, .long (w1_16)), (3, iV (v3))]) X dX6_digest_108 3 rfl (by decide) rfl ?_
      refine xt_goto (tgt := 37) X dX6_digest_111 (by decide) ?_
      obtain ⟨g_17, h⟩ := h
      refine xt_perm (lv2 := [(0, rV (v0)), (1, .long (w1_16)), (3, iV (v3)), (4, iV (v4 + 1))]) [1, 2, 3, 0] rfl ?_
      exact ih w1_16 (v4 + 1) M_16 g_17 h
set_option maxHeartbeats 4000000 in
set_option maxRecDepth 100000 in
theorem wX6_digest_125 {p : Program} {l : Launch} {e : Env} {s : State} {m : MethodId} {args : Array Value} {below : List Frame} {meth : Method} {c : Code} {G : GG} (X : Cx p s m args meth c cX6_digest 7 ((some FieldType.long)) RX6 G) {Q : Int64 → Mm → Prop} {ke163 : Int64 → Mm → Prop} {v0 : Int} {v3 : Int} (k0 : gK G v0 = (6, 0)) (r3 : inR v3) (hke163 : ∀ (v1 : Int64) (M : Mm), ke163 v1 M → Wt p l e rmX6_digest s m args below meth c G (MQ below (PostL G Q) args s 0 0 (gA G)) 7 M [(0, rV (v0)), (1, .long (v1)), (3, iV (v3))] 163 []) : ∀ (n : Nat) (v1 : Int64) (v4 : Int) (M : Mm), inR v4 → lp_LI (BX6_digest_125 ke163 Q v0 v3) n v1 v4 M → Wt p l e rmX6_digest s m args below meth c G (MQ below (PostL G Q) args s 0 0 (gA G)) 7 M [(0, rV (v0)), (1, .long (v1)), (3, iV (v3)), (4, iV (v4))] 125 [] := by
  have hG := X.2.2.2.2.2.2.2.2
  intro n
  induction n with
  | zero => intro v1 v4 M r4 h; exact h.elim
  | succ n ih =>
    intro v1 v4 M r4 h
    have h : BX6_digest_125 ke163 Q v0 v3 (lp_LI (BX6_digest_125 ke163 Q v0 v3) n) v1 v4 M := h
    unfold BX6_digest_125 at h
    refine xt_ilw X dX6_digest_125 3 rfl ?_
    refine xt_al X dX6_digest_127 rfl 0 rfl ?_
    refine gfX6_10 X k0 dX6_digest_128 ?_
    refine gfX6_73 X (kd_X6_0 hG k0) dX6_digest_131 ?_
    refine xt_il X dX6_digest_134 rfl 2 rfl ?_
    obtain ⟨g_23, h⟩ := h
    refine xt_iald X (kd_X3_3 hG (kd_X6_0 hG k0)) g_23 (by decide) dX6_digest_135 (fun r_24 => ?_)
    refine xt_cge (tgt := 163) X r4 r_24 dX6_digest_136 (by decide) (fun hc => ?_) (fun hc => ?_)
    · have h := h.1 hc
      refine xt_perm (lv2 := [(0, rV (v0)), (1, .long (v1)), (3, iV (v3))]) [0, 1, 2] rfl ?_
      exact hke163 v1 M  h
    · have h := h.2 hc
      refine xt_ldc2 X klX6_193 dX6_digest_139 ?_
      refine xt_ll X dX6_digest_142 rfl 1 rfl ?_
      refine xt_lmul X dX6_digest_143 ?_
      refine xt_al X dX6_digest_144 rfl 0 rfl ?_
      refine gfX6_10 X k0 dX6_digest_145 ?_
      refine xt_il X dX6_digest_148 rfl 2 rfl ?_
      refine xt_ilw X dX6_digest_149 3 rfl ?_
      refine xt_cVI X [iV (v3), iV (v4)] [.long (31 * v1)] (ctX3_signAt hG (kd_X6_0 hG k0) r3 r4 h) gdX6_95 pdX3_signAt ⟨rfl, rfl⟩ ⟨Nat.le_of_ble_eq_true rfl, Nat.le_of_ble_eq_true rfl⟩ rfl (k_lt (kd_X6_0 hG k0) (by decide)) (by rw [(kd_X6_0 hG k0)]; rfl) rfl (Nat.le_of_ble_eq_true rfl) dX6_digest_151 (fun z_25 M_26 z_25r h => ?_)
      refine xt_i2l X dX6_digest_154 ?_
      refine xt_ladd X dX6_digest_155 ?_
      refine xt_ls (lv2 := [(1, .long ((31 * v1) + ((Int32.ofInt z_25).toInt64))), (0, rV (v0)), (3, iV (v3)), (4, iV (v4))]) X dX6_digest_156 rfl (by decide) rfl ?_
      refine xt_inc (lv2 := [(4, iV (v4 + 1)), (1, .long ((31 * v1) + ((Int32.ofInt z_25).toInt64))), (0, rV (v0)), (3, iV (v3))]) X dX6_digest_157 3 rfl (by decide) rfl ?_
      refine xt_goto (tgt := 125) X dX6_digest_160 (by decide) ?_
      obtain ⟨g_27, h⟩ := h
      refine xt_perm (lv2 := [(0, rV (v0)), (1, .long ((31 * v1) + ((Int32.ofInt z_25).toInt64))), (3, iV (v3)), (4, iV (v4 + 1))]) [2, 1, 3, 0] rfl ?_
      exact ih ((31 * v1) + ((Int32.ofInt z_25).toInt64)) (v4 + 1) M_26 g_27 h
set_option maxHeartbeats 4000000 in
set_option maxRecDepth 100000 in
theorem wX6_digest_6 {p : Program} {l : Launch} {e : Env} {s : State} {m : MethodId} {args : Array Value} {below : List Frame} {meth : Method} {c : Code} {G : GG} (X : Cx p s m args meth c cX6_digest 7 ((some FieldType.long)) RX6 G) {Q : Int64 → Mm → Prop}  {v0 : Int} (k0 : gK G v0 = (6, 0))  : ∀ (n : Nat) (v1 : Int64) (v3 : Int) (M : Mm), inR v3 → lp_LI (BX6_digest_6  Q v0) n v1 v3 M → Wt p l e rmX6_digest s m args below meth c G (MQ below (PostL G Q) args s 0 0 (gA G)) 7 M [(0, rV (v0)), (1, .long (v1)), (3, iV (v3))] 6 [] := by
  have hG := X.2.2.2.2.2.2.2.2
  intro n
  induction n with
  | zero => intro v1 v3 M r3 h; exact h.elim
  | succ n ih =>
    intro v1 v3 M r3 h
    have h : BX6_digest_6  Q v0 (lp_LI (BX6_digest_6  Q v0) n) v1 v3 M := h
    unfold BX6_digest_6 at h
    refine xt_il X dX6_digest_6 rfl 2 rfl ?_
    refine xt_al X dX6_digest_7 rfl 0 rfl ?_
    refine gfX6_10 X k0 dX6_digest_8 ?_
    refine gfX6_102 X (kd_X6_0 hG k0) dX6_digest_11 (fun r_1 => ?_)
    refine xt_cge (tgt := 169) X r3 r_1 dX6_digest_14 (by decide) (fun hc => ?_) (fun hc => ?_)
    · have h := h.1 hc
      refine xt_ll X dX6_digest_169 rfl 1 rfl ?_
      exact xt_lret X h dX6_digest_170
    · have h := h.2 hc
      refine xt_ldc2 X klX6_193 dX6_digest_17 ?_
      refine xt_ll X dX6_digest_20 rfl 1 rfl ?_
      refine xt_lmul X dX6_digest_21 ?_
      refine xt_al X dX6_digest_22 rfl 0 rfl ?_
      refine gfX6_39 X k0 dX6_digest_23 (fun k_2 => ?_)
      refine gfX6_137 X k_2 dX6_digest_26 ?_
      refine xt_il X dX6_digest_29 rfl 2 rfl ?_
      obtain ⟨g_3, h⟩ := h
      refine xt_iald X (kd_X2_4 hG k_2) g_3 (by decide) dX6_digest_30 (fun r_4 => ?_)
      refine xt_i2l X dX6_digest_31 ?_
      refine xt_ladd X dX6_digest_32 ?_
      refine xt_ls (lv2 := [(1, .long ((31 * v1) + ((Int32.ofInt (M ((v0 + M v0 4) + 4) v3)).toInt64))), (0, rV (v0)), (3, iV (v3))]) X dX6_digest_33 rfl (by decide) rfl ?_
      refine xt_ic X dX6_digest_34 ?_
      refine xt_isw (lv2 := [(4, iV (0)), (1, .long ((31 * v1) + ((Int32.ofInt (M ((v0 + M v0 4) + 4) v3)).toInt64))), (0, rV (v0)), (3, iV (v3))]) X dX6_digest_35 (by decide) rfl ?_
      obtain ⟨n_18, h⟩ := h
      refine xt_perm (lv2 := [(0, rV (v0)), (1, .long ((31 * v1) + ((Int32.ofInt (M ((v0 + M v0 4) + 4) v3)).toInt64))), (3, iV (v3)), (4, iV (0))]) [2, 1, 3, 0] rfl ?_
      refine wX6_digest_37 X k0 r3 (fun w1_19 M_19 h => ?_) n_18 ((31 * v1) + ((Int32.ofInt (M ((v0 + M v0 4) + 4) v3)).toInt64)) 0 M (i_rc 0 rfl) h
      refine xt_al X dX6_digest_114 rfl 0 rfl ?_
      refine gfX6_39 X k0 dX6_digest_115 (fun k_20 => ?_)
      refine gfX6_163 X k_20 dX6_digest_118 ?_
      refine xt_il X dX6_digest_121 rfl 2 rfl ?_
      obtain ⟨g_21, h⟩ := h
      refine xt_iald X (kd_X2_2 hG k_20) g_21 (by decide) dX6_digest_122 (fun r_22 => ?_)
      refine xt_isw (lv2 := [(4, iV (M_19 ((v0 + M_19 v0 4) + 2) v3)), (0, rV (v0)), (1, .long (w1_19)), (3, iV (v3))]) X dX6_digest_123 (by decide) rfl ?_
      obtain ⟨n_28, h⟩ := h
      refine xt_perm (lv2 := [(0, rV (v0)), (1, .long (w1_19)), (3, iV (v3)), (4, iV (M_19 ((v0 + M_19 v0 4) + 2) v3))]) [1, 2, 3, 0] rfl ?_
      refine wX6_digest_125 X k0 r3 (fun w1_29 M_29 h => ?_) n_28 w1_19 (M_19 ((v0 + M_19 v0 4) + 2) v3) M_19 r_22 h
      refine xt_inc (lv2 := [(3, iV (v3 + 1)), (0, rV (v0)), (1, .long (w1_29))]) X dX6_digest_163 2 rfl (by decide) rfl ?_
      refine xt_goto (tgt := 6) X dX6_digest_166 (by decide) ?_
      obtain ⟨g_30, h⟩ := h
      refine xt_perm (lv2 := [(0, rV (v0)), (1, .long (w1_29)), (3, iV (v3 + 1))]) [1, 2, 0] rfl ?_
      exact ih w1_29 (v3 + 1) M_29 g_30 h
set_option maxHeartbeats 4000000 in
set_option maxRecDepth 100000 in
theorem ctX6_digest {l : Launch} {G : GG} (hG : Gd G) {v0 : Int} {M : Mm} {Q : Int64 → Mm → Prop} (k0 : gK G v0 = (6, 0)) (h : PX6_digest v0 M Q) : Met l yX6_digest (Cond.code yX6_digest cX6_digest 7 ((some FieldType.long)) :: tw) rmX6_digest (Pre G M [rV (v0)]) (PostL G Q) 0 0 (gA G) := by
  refine met_of (own := RX6) (by decide) rfl hG (Nat.le_of_ble_eq_true rfl) (fun p e s m below meth c X => ?_)
  generalize hargs : ([rV (v0)] : List Value).toArray = args at X ⊢
  show Wt p l e rmX6_digest s m args below meth c G (MQ below (PostL G Q) args s 0 0 (gA G)) 7 M [(0, rV (v0))] 0 []
  unfold PX6_digest at h
  refine xt_ldc2 X klX6_191 dX6_digest_0 ?_
  refine xt_ls (lv2 := [(1, .long (17)), (0, rV (v0))]) X dX6_digest_3 rfl (by decide) rfl ?_
  refine xt_ic X dX6_digest_4 ?_
  refine xt_is (lv2 := [(3, iV (0)), (1, .long (17)), (0, rV (v0))]) X dX6_digest_5 rfl (by decide) rfl ?_
  obtain ⟨n_31, h⟩ := h
  refine xt_perm (lv2 := [(0, rV (v0)), (1, .long (17)), (3, iV (0))]) [2, 1, 0] rfl ?_
  refine wX6_digest_6 X k0  n_31 17 0 M (i_rc 0 rfl) h
abbrev rmX6_keep : Room := { frames := 3, cells := 0, slots := 0, locals := 83 }
def PX6_keep (v0 : Int) (v1 : Int) (M : Mm) (Q : Int → Mm → Prop) : Prop :=
  ((v1 < 0 → Q ((-1)) M) ∧
  (¬ v1 < 0 → ((v1 < 2 → ((0 ≤ v1 ∧ v1 < 2) ∧
  (PX3_copyFrom (((v0 + 49) + 25 + 47 * v1) + 1) (v0 + 1) M (fun M_3 =>
  (PX4_copyFrom (((v0 + 49) + 25 + 47 * v1) + 5) (v0 + 5) M_3 (fun M_5 =>
  (∀ M_6 : Mm, M_6 = um M_5 ((v0 + 49) + 25 + 47 * v1) 0 1 →
  Q (M_6 (v0 + 1) 0) M_6))))))) ∧
  (¬ v1 < 2 → Q ((-1)) M))))
set_option maxHeartbeats 4000000 in
set_option maxRecDepth 100000 in
theorem ctX6_keep {l : Launch} {G : GG} (hG : Gd G) {v0 : Int} {v1 : Int} {M : Mm} {Q : Int → Mm → Prop} (k0 : gK G v0 = (6, 0)) (r1 : inR v1) (h : PX6_keep v0 v1 M Q) : Met l yX6_keep (Cond.code yX6_keep cX6_keep 3 ((some FieldType.int)) :: tw) rmX6_keep (Pre G M [rV (v0), iV (v1)]) (PostI G Q) 0 0 (gA G) := by
  refine met_of (own := RX6) (by decide) rfl hG (Nat.le_of_ble_eq_true rfl) (fun p e s m below meth c X => ?_)
  generalize hargs : ([rV (v0), iV (v1)] : List Value).toArray = args at X ⊢
  show Wt p l e rmX6_keep s m args below meth c G (MQ below (PostI G Q) args s 0 0 (gA G)) 3 M [(0, rV (v0)), (1, iV (v1))] 0 []
  unfold PX6_keep at h
  refine xt_il X dX6_keep_0 rfl 1 rfl ?_
  refine xt_zlt (tgt := 9) X r1 dX6_keep_1 (by decide) (fun hc => ?_) (fun hc => ?_)
  · have h := h.1 hc
    refine xt_ic X dX6_keep_9 ?_
    exact xt_iret X (i_rc (-1) rfl) h dX6_keep_10
  · have h := h.2 hc
    refine xt_il X dX6_keep_4 rfl 1 rfl ?_
    refine xt_ic X dX6_keep_5 ?_
    refine xt_clt (tgt := 11) X r1 (i_rc 2 rfl) dX6_keep_6 (by decide) (fun hc => ?_) (fun hc => ?_)
    · have h := h.1 hc
      refine xt_al X dX6_keep_11 rfl 0 rfl ?_
      refine gfX6_32 X k0 dX6_keep_12 ?_
      refine xt_il X dX6_keep_15 rfl 1 rfl ?_
      obtain ⟨g_1, h⟩ := h
      refine xt_ald10 X (kd_X6_3 hG k0) g_1 dX6_keep_16 ?_
      refine xt_as (lv2 := [(2, rV ((v0 + 49) + 25 + 47 * v1)), (0, rV (v0)), (1, iV (v1))]) X dX6_keep_17 rfl (by decide) rfl ?_
      refine xt_al X dX6_keep_18 rfl 0 rfl ?_
      refine gfX6_195 X (kd_a10 hG (kd_X6_3 hG k0) g_1) dX6_keep_19 ?_
      refine xt_al X dX6_keep_22 rfl 1 rfl ?_
      refine gfX6_10 X k0 dX6_keep_23 ?_
      refine xt_cVV X [rV (v0 + 1)] [] (ctX3_copyFrom hG (kd_X1_1 hG (kd_a10 hG (kd_X6_3 hG k0) g_1)) (kd_X6_0 hG k0) h) gdX6_122 pdX3_copyFrom ⟨rfl, rfl⟩ ⟨Nat.le_of_ble_eq_true rfl, Nat.le_of_ble_eq_true rfl⟩ rfl (k_lt (kd_X1_1 hG (kd_a10 hG (kd_X6_3 hG k0) g_1)) (by decide)) (by rw [(kd_X1_1 hG (kd_a10 hG (kd_X6_3 hG k0) g_1))]; rfl) rfl (Nat.le_of_ble_eq_true rfl) dX6_keep_26 (fun M_3 h => ?_)
      refine xt_al X dX6_keep_29 rfl 0 rfl ?_
      refine gfX6_196 X (kd_a10 hG (kd_X6_3 hG k0) g_1) dX6_keep_30 ?_
      refine xt_al X dX6_keep_33 rfl 1 rfl ?_
      refine gfX6_19 X k0 dX6_keep_34 ?_
      refine xt_cVV X [rV (v0 + 5)] [] (ctX4_copyFrom hG (kd_X1_2 hG (kd_a10 hG (kd_X6_3 hG k0) g_1)) (kd_X6_1 hG k0) h) gdX6_197 pdX4_copyFrom ⟨rfl, rfl⟩ ⟨Nat.le_of_ble_eq_true rfl, Nat.le_of_ble_eq_true rfl⟩ rfl (k_lt (kd_X1_2 hG (kd_a10 hG (kd_X6_3 hG k0) g_1)) (by decide)) (by rw [(kd_X1_2 hG (kd_a10 hG (kd_X6_3 hG k0) g_1))]; rfl) rfl (Nat.le_of_ble_eq_true rfl) dX6_keep_37 (fun M_5 h => ?_)
      refine xt_al X dX6_keep_40 rfl 0 rfl ?_
      refine xt_ic X dX6_keep_41 ?_
      refine pfX6_200 X (kd_a10 hG (kd_X6_3 hG k0) g_1) (i_rc 1 rfl) (Or.inr rfl) dX6_keep_42 (fun M_6 hm => ?_)
      have h := h M_6 hm
      refine xt_al X dX6_keep_45 rfl 1 rfl ?_
      refine gfX6_10 X k0 dX6_keep_46 ?_
      refine gfX6_102 X (kd_X6_0 hG k0) dX6_keep_49 (fun r_7 => ?_)
      exact xt_iret X r_7 h dX6_keep_52
    · have h := h.2 hc
      refine xt_ic X dX6_keep_9 ?_
      exact xt_iret X (i_rc (-1) rfl) h dX6_keep_10
abbrev rmX6_back : Room := { frames := 3, cells := 0, slots := 0, locals := 94 }
def PX6_back (v0 : Int) (v1 : Int) (M : Mm) (Q : Int → Mm → Prop) : Prop :=
  ((v1 < 0 → Q ((-1)) M) ∧
  (¬ v1 < 0 → ((v1 < 2 → ((0 ≤ v1 ∧ v1 < 2) ∧
  (((M ((v0 + 49) + 25 + 47 * v1) 0) = 0 → Q ((-2)) M) ∧
  (¬ (M ((v0 + 49) + 25 + 47 * v1) 0) = 0 → (PX3_copyFrom (v0 + 1) (((v0 + 49) + 25 + 47 * v1) + 1) M (fun M_4 =>
  (PX4_copyFrom (v0 + 5) (((v0 + 49) + 25 + 47 * v1) + 5) M_4 (fun M_6 =>
  (PX2_lay (v0 + M_6 v0 4) (v0 + 1) M_6 (fun M_9 =>
  (∀ M_10 : Mm, M_10 = um M_9 v0 6 0 →
  Q (M_10 (v0 + 1) 0) M_10))))))))))) ∧
  (¬ v1 < 2 → Q ((-1)) M))))
set_option maxHeartbeats 4000000 in
set_option maxRecDepth 100000 in
theorem ctX6_back {l : Launch} {G : GG} (hG : Gd G) {v0 : Int} {v1 : Int} {M : Mm} {Q : Int → Mm → Prop} (k0 : gK G v0 = (6, 0)) (r1 : inR v1) (h : PX6_back v0 v1 M Q) : Met l yX6_back (Cond.code yX6_back cX6_back 3 ((some FieldType.int)) :: tw) rmX6_back (Pre G M [rV (v0), iV (v1)]) (PostI G Q) 0 0 (gA G) := by
  refine met_of (own := RX6) (by decide) rfl hG (Nat.le_of_ble_eq_true rfl) (fun p e s m below meth c X => ?_)
  generalize hargs : ([rV (v0), iV (v1)] : List Value).toArray = args at X ⊢
  show Wt p l e rmX6_back s m args below meth c G (MQ below (PostI G Q) args s 0 0 (gA G)) 3 M [(0, rV (v0)), (1, iV (v1))] 0 []
  unfold PX6_back at h
  refine xt_il X dX6_back_0 rfl 1 rfl ?_
  refine xt_zlt (tgt := 9) X r1 dX6_back_1 (by decide) (fun hc => ?_) (fun hc => ?_)
  · have h := h.1 hc
    refine xt_ic X dX6_back_9 ?_
    exact xt_iret X (i_rc (-1) rfl) h dX6_back_10
  · have h := h.2 hc
    refine xt_il X dX6_back_4 rfl 1 rfl ?_
    refine xt_ic X dX6_back_5 ?_
    refine xt_clt (tgt := 11) X r1 (i_rc 2 rfl) dX6_back_6 (by decide) (fun hc => ?_) (fun hc => ?_)
    · have h := h.1 hc
      refine xt_al X dX6_back_11 rfl 0 rfl ?_
      refine gfX6_32 X k0 dX6_back_12 ?_
      refine xt_il X dX6_back_15 rfl 1 rfl ?_
      obtain ⟨g_1, h⟩ := h
      refine xt_ald10 X (kd_X6_3 hG k0) g_1 dX6_back_16 ?_
      refine xt_as (lv2 := [(2, rV ((v0 + 49) + 25 + 47 * v1)), (0, rV (v0)), (1, iV (v1))]) X dX6_back_17 rfl (by decide) rfl ?_
      refine xt_al X dX6_back_18 rfl 0 rfl ?_
      refine gfX6_200 X (kd_a10 hG (kd_X6_3 hG k0) g_1) dX6_back_19 (fun r_2 => ?_)
      refine xt_zne (tgt := 28) X r_2 dX6_back_22 (by decide) (fun hc => ?_) (fun hc => ?_)
      · have h := h.2 hc
        refine xt_al X dX6_back_28 rfl 1 rfl ?_
        refine gfX6_10 X k0 dX6_back_29 ?_
        refine xt_al X dX6_back_32 rfl 0 rfl ?_
        refine gfX6_195 X (kd_a10 hG (kd_X6_3 hG k0) g_1) dX6_back_33 ?_
        refine xt_cVV X [rV (((v0 + 49) + 25 + 47 * v1) + 1)] [] (ctX3_copyFrom hG (kd_X6_0 hG k0) (kd_X1_1 hG (kd_a10 hG (kd_X6_3 hG k0) g_1)) h) gdX6_122 pdX3_copyFrom ⟨rfl, rfl⟩ ⟨Nat.le_of_ble_eq_true rfl, Nat.le_of_ble_eq_true rfl⟩ rfl (k_lt (kd_X6_0 hG k0) (by decide)) (by rw [(kd_X6_0 hG k0)]; rfl) rfl (Nat.le_of_ble_eq_true rfl) dX6_back_36 (fun M_4 h => ?_)
        refine xt_al X dX6_back_39 rfl 1 rfl ?_
        refine gfX6_19 X k0 dX6_back_40 ?_
        refine xt_al X dX6_back_43 rfl 0 rfl ?_
        refine gfX6_196 X (kd_a10 hG (kd_X6_3 hG k0) g_1) dX6_back_44 ?_
        refine xt_cVV X [rV (((v0 + 49) + 25 + 47 * v1) + 5)] [] (ctX4_copyFrom hG (kd_X6_1 hG k0) (kd_X1_2 hG (kd_a10 hG (kd_X6_3 hG k0) g_1)) h) gdX6_197 pdX4_copyFrom ⟨rfl, rfl⟩ ⟨Nat.le_of_ble_eq_true rfl, Nat.le_of_ble_eq_true rfl⟩ rfl (k_lt (kd_X6_1 hG k0) (by decide)) (by rw [(kd_X6_1 hG k0)]; rfl) rfl (Nat.le_of_ble_eq_true rfl) dX6_back_47 (fun M_6 h => ?_)
        refine xt_al X dX6_back_50 rfl 1 rfl ?_
        refine gfX6_39 X k0 dX6_back_51 (fun k_7 => ?_)
        refine xt_al X dX6_back_54 rfl 1 rfl ?_
        refine gfX6_10 X k0 dX6_back_55 ?_
        refine xt_cVV X [rV (v0 + 1)] [] (ctX2_lay hG k_7 (kd_X6_0 hG k0) h) gdX6_128 pdX2_lay ⟨rfl, rfl⟩ ⟨Nat.le_of_ble_eq_true rfl, Nat.le_of_ble_eq_true rfl⟩ rfl (k_lt k_7 (by decide)) (by rw [k_7]; rfl) rfl (Nat.le_of_ble_eq_true rfl) dX6_back_58 (fun M_9 h => ?_)
        refine xt_al X dX6_back_61 rfl 1 rfl ?_
        refine xt_ic X dX6_back_62 ?_
        refine pfX6_131 X k0 (i_rc 0 rfl) dX6_back_63 (fun M_10 hm => ?_)
        have h := h M_10 hm
        refine xt_al X dX6_back_66 rfl 1 rfl ?_
        refine gfX6_10 X k0 dX6_back_67 ?_
        refine gfX6_102 X (kd_X6_0 hG k0) dX6_back_70 (fun r_11 => ?_)
        exact xt_iret X r_11 h dX6_back_73
      · have h := h.1 hc
        refine xt_bi X dX6_back_25 (by decide) ?_
        exact xt_iret X (i_rc (-2) rfl) h dX6_back_27
    · have h := h.2 hc
      refine xt_ic X dX6_back_9 ?_
      exact xt_iret X (i_rc (-1) rfl) h dX6_back_10
