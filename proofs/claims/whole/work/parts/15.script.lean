abbrev rmX5_rewind : Room := { frames := 0, cells := 0, slots := 0, locals := 0 }
def PX5_rewind (v0 : Int) (M : Mm) (Q : Mm → Prop) : Prop :=
  (∀ M_1 : Mm, M_1 = um M v0 7 0 →
  (∀ M_2 : Mm, M_2 = um M_1 v0 8 ((-9)) →
  Q M_2))
set_option maxHeartbeats 4000000 in
set_option maxRecDepth 100000 in
theorem ctX5_rewind {l : Launch} {G : GG} (hG : Gd G) {v0 : Int} {M : Mm} {Q : Mm → Prop} (k0 : gK G v0 = (5, 0)) (h : PX5_rewind v0 M Q) : Met l yX5_rewind (Cond.code yX5_rewind cX5_rewind 1 (none) :: tw) rmX5_rewind (Pre G M [rV (v0)]) (PostV G Q) 0 0 (gA G) := by
  refine met_of (own := RX5) (by decide) rfl hG (Nat.le_of_ble_eq_true rfl) (fun p e s m below meth c X => ?_)
  generalize hargs : ([rV (v0)] : List Value).toArray = args at X ⊢
  show Wt p l e rmX5_rewind s m args below meth c G (MQ below (PostV G Q) args s 0 0 (gA G)) 1 M [(0, rV (v0))] 0 []
  unfold PX5_rewind at h
  refine xt_al X dX5_rewind_0 rfl 0 rfl ?_
  refine xt_ic X dX5_rewind_1 ?_
  refine pfX5_15 X k0 (i_rc 0 rfl) dX5_rewind_2 (fun M_1 hm => ?_)
  have h := h M_1 hm
  refine xt_al X dX5_rewind_5 rfl 0 rfl ?_
  refine xt_bi X dX5_rewind_6 (by decide) ?_
  refine pfX5_19 X k0 (i_rc (-9) rfl) dX5_rewind_8 (fun M_2 hm => ?_)
  have h := h M_2 hm
  exact xt_vret X h dX5_rewind_11
abbrev rmX5_skipBlanks : Room := { frames := 0, cells := 0, slots := 0, locals := 0 }
def BX5_skipBlanks_0  (Q : Mm → Prop) (v0 : Int) (rec : Mm → Prop)  (M : Mm) : Prop :=
  (((M v0 1) ≤ (M v0 7) → Q M) ∧
  (¬ (M v0 1) ≤ (M v0 7) → ((0 ≤ (M v0 7) ∧ (M v0 7) < 150) ∧
  (((M (v0 + 1) (M v0 7)) = 32 → (inR ((M v0 7) + 1) ∧
  (∀ M_7 : Mm, M_7 = um M v0 7 ((M v0 7) + 1) →
  rec M_7))) ∧
  (¬ (M (v0 + 1) (M v0 7)) = 32 → Q M)))))
def PX5_skipBlanks (v0 : Int) (M : Mm) (Q : Mm → Prop) : Prop :=
  ∃ n_9 : Nat, lp_o (BX5_skipBlanks_0  Q v0) n_9 M
set_option maxHeartbeats 4000000 in
set_option maxRecDepth 100000 in
theorem wX5_skipBlanks_0 {p : Program} {l : Launch} {e : Env} {s : State} {m : MethodId} {args : Array Value} {below : List Frame} {meth : Method} {c : Code} {G : GG} (X : Cx p s m args meth c cX5_skipBlanks 1 (none) RX5 G) {Q : Mm → Prop}  {v0 : Int} (k0 : gK G v0 = (5, 0))  : ∀ (n : Nat)  (M : Mm), lp_o (BX5_skipBlanks_0  Q v0) n  M → Wt p l e rmX5_skipBlanks s m args below meth c G (MQ below (PostV G Q) args s 0 0 (gA G)) 1 M [(0, rV (v0))] 0 [] := by
  have hG := X.2.2.2.2.2.2.2.2
  intro n
  induction n with
  | zero => intro  M  h; exact h.elim
  | succ n ih =>
    intro  M  h
    have h : BX5_skipBlanks_0  Q v0 (lp_o (BX5_skipBlanks_0  Q v0) n)  M := h
    unfold BX5_skipBlanks_0 at h
    refine xt_al X dX5_skipBlanks_0 rfl 0 rfl ?_
    refine gfX5_15 X k0 dX5_skipBlanks_1 (fun r_1 => ?_)
    refine xt_al X dX5_skipBlanks_4 rfl 0 rfl ?_
    refine gfX5_32 X k0 dX5_skipBlanks_5 (fun r_2 => ?_)
    refine xt_cge (tgt := 38) X r_1 r_2 dX5_skipBlanks_8 (by decide) (fun hc => ?_) (fun hc => ?_)
    · have h := h.1 hc
      exact xt_vret X h dX5_skipBlanks_38
    · have h := h.2 hc
      refine xt_al X dX5_skipBlanks_11 rfl 0 rfl ?_
      refine gfX5_9 X k0 dX5_skipBlanks_12 ?_
      refine xt_al X dX5_skipBlanks_15 rfl 0 rfl ?_
      refine gfX5_15 X k0 dX5_skipBlanks_16 (fun r_3 => ?_)
      obtain ⟨g_4, h⟩ := h
      refine xt_iald X (kd_X5_0 hG k0) g_4 (by decide) dX5_skipBlanks_19 (fun r_5 => ?_)
      refine xt_bi X dX5_skipBlanks_20 (by decide) ?_
      refine xt_cne (tgt := 38) X r_5 (i_rc 32 rfl) dX5_skipBlanks_22 (by decide) (fun hc => ?_) (fun hc => ?_)
      · have h := h.2 hc
        exact xt_vret X h dX5_skipBlanks_38
      · have h := h.1 hc
        refine xt_al X dX5_skipBlanks_25 rfl 0 rfl ?_
        refine xt_dup X rfl dX5_skipBlanks_26 ?_
        refine gfX5_15 X k0 dX5_skipBlanks_27 (fun r_6 => ?_)
        refine xt_ic X dX5_skipBlanks_30 ?_
        refine xt_add X dX5_skipBlanks_31 ?_
        obtain ⟨g_8, h⟩ := h
        refine pfX5_15 X k0 g_8 dX5_skipBlanks_32 (fun M_7 hm => ?_)
        have h := h M_7 hm
        refine xt_goto (tgt := 0) X dX5_skipBlanks_35 (by decide) ?_
        exact ih M_7  h
set_option maxHeartbeats 4000000 in
set_option maxRecDepth 100000 in
theorem ctX5_skipBlanks {l : Launch} {G : GG} (hG : Gd G) {v0 : Int} {M : Mm} {Q : Mm → Prop} (k0 : gK G v0 = (5, 0)) (h : PX5_skipBlanks v0 M Q) : Met l yX5_skipBlanks (Cond.code yX5_skipBlanks cX5_skipBlanks 1 (none) :: tw) rmX5_skipBlanks (Pre G M [rV (v0)]) (PostV G Q) 0 0 (gA G) := by
  refine met_of (own := RX5) (by decide) rfl hG (Nat.le_of_ble_eq_true rfl) (fun p e s m below meth c X => ?_)
  generalize hargs : ([rV (v0)] : List Value).toArray = args at X ⊢
  show Wt p l e rmX5_skipBlanks s m args below meth c G (MQ below (PostV G Q) args s 0 0 (gA G)) 1 M [(0, rV (v0))] 0 []
  unfold PX5_skipBlanks at h
  obtain ⟨n_9, h⟩ := h
  refine wX5_skipBlanks_0 X k0  n_9 M  h
abbrev rmX5_isFigure : Room := { frames := 0, cells := 0, slots := 0, locals := 0 }
def JX5_isFigure_16  (Q : Int → Mm → Prop)  (M : Mm) : Prop :=
  Q 0 M
def PX5_isFigure (v0 : Int) (M : Mm) (Q : Int → Mm → Prop) : Prop :=
  ((v0 < 48 → JX5_isFigure_16  Q M) ∧
  (¬ v0 < 48 → ((57 < v0 → JX5_isFigure_16  Q M) ∧
  (¬ 57 < v0 → Q 1 M))))
set_option maxHeartbeats 4000000 in
set_option maxRecDepth 100000 in
theorem jX5_isFigure_16 {p : Program} {l : Launch} {e : Env} {s : State} {m : MethodId} {args : Array Value} {below : List Frame} {meth : Method} {c : Code} {G : GG} (X : Cx p s m args meth c cX5_isFigure 1 ((some FieldType.boolean)) RX5 G) {Q : Int → Mm → Prop}     {M : Mm} (h : JX5_isFigure_16  Q  M) : Wt p l e rmX5_isFigure s m args below meth c G (MQ below (PostI G Q) args s 0 0 (gA G)) 1 M [] 16 [] := by
  have hG := X.2.2.2.2.2.2.2.2
  unfold JX5_isFigure_16 at h
  refine xt_ic X dX5_isFigure_16 ?_
  exact xt_zret X (Or.inl rfl) h dX5_isFigure_17
set_option maxHeartbeats 4000000 in
set_option maxRecDepth 100000 in
theorem ctX5_isFigure {l : Launch} {G : GG} (hG : Gd G) {v0 : Int} {M : Mm} {Q : Int → Mm → Prop} (r0 : inR v0) (h : PX5_isFigure v0 M Q) : Met l yX5_isFigure (Cond.code yX5_isFigure cX5_isFigure 1 ((some FieldType.boolean)) :: tw) rmX5_isFigure (Pre G M [iV (v0)]) (PostI G Q) 0 0 (gA G) := by
  refine met_of (own := RX5) (by decide) rfl hG (Nat.le_of_ble_eq_true rfl) (fun p e s m below meth c X => ?_)
  generalize hargs : ([iV (v0)] : List Value).toArray = args at X ⊢
  show Wt p l e rmX5_isFigure s m args below meth c G (MQ below (PostI G Q) args s 0 0 (gA G)) 1 M [(0, iV (v0))] 0 []
  unfold PX5_isFigure at h
  refine xt_il X dX5_isFigure_0 rfl 0 rfl ?_
  refine xt_bi X dX5_isFigure_1 (by decide) ?_
  refine xt_clt (tgt := 16) X r0 (i_rc 48 rfl) dX5_isFigure_3 (by decide) (fun hc => ?_) (fun hc => ?_)
  · have h := h.1 hc
    refine xt_perm (lv2 := []) [] rfl ?_
    exact jX5_isFigure_16 X   h
  · have h := h.2 hc
    refine xt_il X dX5_isFigure_6 rfl 0 rfl ?_
    refine xt_bi X dX5_isFigure_7 (by decide) ?_
    refine xt_cgt (tgt := 16) X r0 (i_rc 57 rfl) dX5_isFigure_9 (by decide) (fun hc => ?_) (fun hc => ?_)
    · have h := h.1 hc
      refine xt_perm (lv2 := []) [] rfl ?_
      exact jX5_isFigure_16 X   h
    · have h := h.2 hc
      refine xt_ic X dX5_isFigure_12 ?_
      refine xt_goto (tgt := 17) X dX5_isFigure_13 (by decide) ?_
      exact xt_zret X (Or.inr rfl) h dX5_isFigure_17
abbrev rmX5_isSign : Room := { frames := 1, cells := 0, slots := 0, locals := 20 }
def JX5_isSign_12  (Q : Int → Mm → Prop) (v0 : Int) (M : Mm) : Prop :=
  (PX5_isFigure v0 M (fun z_1 M_2 =>
  ((z_1 = 0 → ((v0 = 46 → Q 1 M_2) ∧
  (¬ v0 = 46 → ((v0 = 45 → Q 1 M_2) ∧
  (¬ v0 = 45 → ((v0 = 124 → Q 1 M_2) ∧
  (¬ v0 = 124 → Q 0 M_2))))))) ∧
  (¬ z_1 = 0 → Q 1 M_2))))
def PX5_isSign (v0 : Int) (M : Mm) (Q : Int → Mm → Prop) : Prop :=
  ((v0 < 97 → JX5_isSign_12  Q v0 M) ∧
  (¬ v0 < 97 → ((v0 ≤ 122 → Q 1 M) ∧
  (¬ v0 ≤ 122 → JX5_isSign_12  Q v0 M))))
set_option maxHeartbeats 4000000 in
set_option maxRecDepth 100000 in
theorem jX5_isSign_12 {p : Program} {l : Launch} {e : Env} {s : State} {m : MethodId} {args : Array Value} {below : List Frame} {meth : Method} {c : Code} {G : GG} (X : Cx p s m args meth c cX5_isSign 1 ((some FieldType.boolean)) RX5 G) {Q : Int → Mm → Prop}  {v0 : Int}  (r0 : inR v0) {M : Mm} (h : JX5_isSign_12  Q v0 M) : Wt p l e rmX5_isSign s m args below meth c G (MQ below (PostI G Q) args s 0 0 (gA G)) 1 M [(0, iV (v0))] 12 [] := by
  have hG := X.2.2.2.2.2.2.2.2
  unfold JX5_isSign_12 at h
  refine xt_il X dX5_isSign_12 rfl 0 rfl ?_
  refine xt_cSI X [iV (v0)] [] (ctX5_isFigure hG r0 h) gdX5_85 pdX5_isFigure ⟨rfl, rfl⟩ ⟨Nat.le_of_ble_eq_true rfl, Nat.le_of_ble_eq_true rfl⟩ rfl (Nat.le_of_ble_eq_true rfl) dX5_isSign_13 (fun z_1 M_2 z_1r h => ?_)
  refine xt_zne (tgt := 37) X z_1r dX5_isSign_16 (by decide) (fun hc => ?_) (fun hc => ?_)
  · have h := h.2 hc
    refine xt_ic X dX5_isSign_37 ?_
    refine xt_goto (tgt := 42) X dX5_isSign_38 (by decide) ?_
    exact xt_zret X (Or.inr rfl) h dX5_isSign_42
  · have h := h.1 hc
    refine xt_il X dX5_isSign_19 rfl 0 rfl ?_
    refine xt_bi X dX5_isSign_20 (by decide) ?_
    refine xt_ceq (tgt := 37) X r0 (i_rc 46 rfl) dX5_isSign_22 (by decide) (fun hc => ?_) (fun hc => ?_)
    · have h := h.1 hc
      refine xt_ic X dX5_isSign_37 ?_
      refine xt_goto (tgt := 42) X dX5_isSign_38 (by decide) ?_
      exact xt_zret X (Or.inr rfl) h dX5_isSign_42
    · have h := h.2 hc
      refine xt_il X dX5_isSign_25 rfl 0 rfl ?_
      refine xt_bi X dX5_isSign_26 (by decide) ?_
      refine xt_ceq (tgt := 37) X r0 (i_rc 45 rfl) dX5_isSign_28 (by decide) (fun hc => ?_) (fun hc => ?_)
      · have h := h.1 hc
        refine xt_ic X dX5_isSign_37 ?_
        refine xt_goto (tgt := 42) X dX5_isSign_38 (by decide) ?_
        exact xt_zret X (Or.inr rfl) h dX5_isSign_42
      · have h := h.2 hc
        refine xt_il X dX5_isSign_31 rfl 0 rfl ?_
        refine xt_bi X dX5_isSign_32 (by decide) ?_
        refine xt_cne (tgt := 41) X r0 (i_rc 124 rfl) dX5_isSign_34 (by decide) (fun hc => ?_) (fun hc => ?_)
        · have h := h.2 hc
          refine xt_ic X dX5_isSign_41 ?_
          exact xt_zret X (Or.inl rfl) h dX5_isSign_42
        · have h := h.1 hc
          refine xt_ic X dX5_isSign_37 ?_
          refine xt_goto (tgt := 42) X dX5_isSign_38 (by decide) ?_
          exact xt_zret X (Or.inr rfl) h dX5_isSign_42
set_option maxHeartbeats 4000000 in
set_option maxRecDepth 100000 in
theorem ctX5_isSign {l : Launch} {G : GG} (hG : Gd G) {v0 : Int} {M : Mm} {Q : Int → Mm → Prop} (r0 : inR v0) (h : PX5_isSign v0 M Q) : Met l yX5_isSign (Cond.code yX5_isSign cX5_isSign 1 ((some FieldType.boolean)) :: tw) rmX5_isSign (Pre G M [iV (v0)]) (PostI G Q) 0 0 (gA G) := by
  refine met_of (own := RX5) (by decide) rfl hG (Nat.le_of_ble_eq_true rfl) (fun p e s m below meth c X => ?_)
  generalize hargs : ([iV (v0)] : List Value).toArray = args at X ⊢
  show Wt p l e rmX5_isSign s m args below meth c G (MQ below (PostI G Q) args s 0 0 (gA G)) 1 M [(0, iV (v0))] 0 []
  unfold PX5_isSign at h
  refine xt_il X dX5_isSign_0 rfl 0 rfl ?_
  refine xt_bi X dX5_isSign_1 (by decide) ?_
  refine xt_clt (tgt := 12) X r0 (i_rc 97 rfl) dX5_isSign_3 (by decide) (fun hc => ?_) (fun hc => ?_)
  · have h := h.1 hc
    exact jX5_isSign_12 X  r0 h
  · have h := h.2 hc
    refine xt_il X dX5_isSign_6 rfl 0 rfl ?_
    refine xt_bi X dX5_isSign_7 (by decide) ?_
    refine xt_cle (tgt := 37) X r0 (i_rc 122 rfl) dX5_isSign_9 (by decide) (fun hc => ?_) (fun hc => ?_)
    · have h := h.1 hc
      refine xt_ic X dX5_isSign_37 ?_
      refine xt_goto (tgt := 42) X dX5_isSign_38 (by decide) ?_
      exact xt_zret X (Or.inr rfl) h dX5_isSign_42
    · have h := h.2 hc
      exact jX5_isSign_12 X  r0 h
abbrev rmX5_failAt : Room := { frames := 0, cells := 0, slots := 0, locals := 0 }
def PX5_failAt (v0 : Int) (v1 : Int) (M : Mm) (Q : Int → Mm → Prop) : Prop :=
  (∀ M_1 : Mm, M_1 = um M v0 8 v1 →
  Q 0 M_1)
set_option maxHeartbeats 4000000 in
set_option maxRecDepth 100000 in
theorem ctX5_failAt {l : Launch} {G : GG} (hG : Gd G) {v0 : Int} {v1 : Int} {M : Mm} {Q : Int → Mm → Prop} (k0 : gK G v0 = (5, 0)) (r1 : inR v1) (h : PX5_failAt v0 v1 M Q) : Met l yX5_failAt (Cond.code yX5_failAt cX5_failAt 2 ((some FieldType.boolean)) :: tw) rmX5_failAt (Pre G M [rV (v0), iV (v1)]) (PostI G Q) 0 0 (gA G) := by
  refine met_of (own := RX5) (by decide) rfl hG (Nat.le_of_ble_eq_true rfl) (fun p e s m below meth c X => ?_)
  generalize hargs : ([rV (v0), iV (v1)] : List Value).toArray = args at X ⊢
  show Wt p l e rmX5_failAt s m args below meth c G (MQ below (PostI G Q) args s 0 0 (gA G)) 2 M [(0, rV (v0)), (1, iV (v1))] 0 []
  unfold PX5_failAt at h
  refine xt_al X dX5_failAt_0 rfl 0 rfl ?_
  refine xt_il X dX5_failAt_1 rfl 1 rfl ?_
  refine pfX5_19 X k0 r1 dX5_failAt_2 (fun M_1 hm => ?_)
  have h := h M_1 hm
  refine xt_ic X dX5_failAt_5 ?_
  exact xt_zret X (Or.inl rfl) h dX5_failAt_6
abbrev rmX5_readWord : Room := { frames := 2, cells := 0, slots := 0, locals := 40 }
def BX5_readWord_12 (ke51 : Mm → Prop) (Q : Int → Mm → Prop) (v0 : Int) (rec : Mm → Prop)  (M : Mm) : Prop :=
  (((M v0 1) ≤ (M v0 7) → ke51 M) ∧
  (¬ (M v0 1) ≤ (M v0 7) → ((0 ≤ (M v0 7) ∧ (M v0 7) < 150) ∧
  (PX5_isSign (M (v0 + 1) (M v0 7)) M (fun z_10 M_11 =>
  ((z_10 = 0 → ke51 M_11) ∧
  (¬ z_10 = 0 → (inR ((M_11 v0 7) + 1) ∧
  (∀ M_13 : Mm, M_13 = um M_11 v0 7 ((M_11 v0 7) + 1) →
  rec M_13)))))))))
def JX5_readWord_51  (Q : Int → Mm → Prop) (v0 : Int) (M : Mm) : Prop :=
  (∀ M_18 : Mm, M_18 = um M v0 6 (M v0 7) →
  (((M_18 v0 5) < (M_18 v0 6) → Q 1 M_18) ∧
  (¬ (M_18 v0 5) < (M_18 v0 6) → (PX5_failAt v0 (M_18 v0 7) M_18 (fun z_22 M_23 =>
  ((z_22 = 0 → Q 0 M_23) ∧
  (¬ z_22 = 0 → Q 1 M_23)))))))
def PX5_readWord (v0 : Int) (M : Mm) (Q : Int → Mm → Prop) : Prop :=
  (PX5_skipBlanks v0 M (fun M_2 =>
  (∀ M_4 : Mm, M_4 = um M_2 v0 5 (M_2 v0 7) →
  ∃ n_15 : Nat, lp_o (BX5_readWord_12 (fun M_16 => JX5_readWord_51  Q v0 M_16) Q v0) n_15 M_4)))
set_option maxHeartbeats 4000000 in
set_option maxRecDepth 100000 in
theorem wX5_readWord_12 {p : Program} {l : Launch} {e : Env} {s : State} {m : MethodId} {args : Array Value} {below : List Frame} {meth : Method} {c : Code} {G : GG} (X : Cx p s m args meth c cX5_readWord 1 ((some FieldType.boolean)) RX5 G) {Q : Int → Mm → Prop} {ke51 : Mm → Prop} {v0 : Int} (k0 : gK G v0 = (5, 0)) (hke51 : ∀ (M : Mm), ke51  M → Wt p l e rmX5_readWord s m args below meth c G (MQ below (PostI G Q) args s 0 0 (gA G)) 1 M [(0, rV (v0))] 51 []) : ∀ (n : Nat)  (M : Mm), lp_o (BX5_readWord_12 ke51 Q v0) n  M → Wt p l e rmX5_readWord s m args below meth c G (MQ below (PostI G Q) args s 0 0 (gA G)) 1 M [(0, rV (v0))] 12 [] := by
  have hG := X.2.2.2.2.2.2.2.2
  intro n
  induction n with
  | zero => intro  M  h; exact h.elim
  | succ n ih =>
    intro  M  h
    have h : BX5_readWord_12 ke51 Q v0 (lp_o (BX5_readWord_12 ke51 Q v0) n)  M := h
    unfold BX5_readWord_12 at h
    refine xt_al X dX5_readWord_12 rfl 0 rfl ?_
    refine gfX5_15 X k0 dX5_readWord_13 (fun r_5 => ?_)
    refine xt_al X dX5_readWord_16 rfl 0 rfl ?_
    refine gfX5_32 X k0 dX5_readWord_17 (fun r_6 => ?_)
    refine xt_cge (tgt := 51) X r_5 r_6 dX5_readWord_20 (by decide) (fun hc => ?_) (fun hc => ?_)
    · have h := h.1 hc
      exact hke51 M  h
    · have h := h.2 hc
      refine xt_al X dX5_readWord_23 rfl 0 rfl ?_
      refine gfX5_9 X k0 dX5_readWord_24 ?_
      refine xt_al X dX5_readWord_27 rfl 0 rfl ?_
      refine gfX5_15 X k0 dX5_readWord_28 (fun r_7 => ?_)
      obtain ⟨g_8, h⟩ := h
      refine xt_iald X (kd_X5_0 hG k0) g_8 (by decide) dX5_readWord_31 (fun r_9 => ?_)
      refine xt_cSI X [iV (M (v0 + 1) (M v0 7))] [] (ctX5_isSign hG r_9 h) gdX5_72 pdX5_isSign ⟨rfl, rfl⟩ ⟨Nat.le_of_ble_eq_true rfl, Nat.le_of_ble_eq_true rfl⟩ rfl (Nat.le_of_ble_eq_true rfl) dX5_readWord_32 (fun z_10 M_11 z_10r h => ?_)
      refine xt_zeq (tgt := 51) X z_10r dX5_readWord_35 (by decide) (fun hc => ?_) (fun hc => ?_)
      · have h := h.1 hc
        exact hke51 M_11  h
      · have h := h.2 hc
        refine xt_al X dX5_readWord_38 rfl 0 rfl ?_
        refine xt_dup X rfl dX5_readWord_39 ?_
        refine gfX5_15 X k0 dX5_readWord_40 (fun r_12 => ?_)
        refine xt_ic X dX5_readWord_43 ?_
        refine xt_add X dX5_readWord_44 ?_
        obtain ⟨g_14, h⟩ := h
        refine pfX5_15 X k0 g_14 dX5_readWord_45 (fun M_13 hm => ?_)
        have h := h M_13 hm
        refine xt_goto (tgt := 12) X dX5_readWord_48 (by decide) ?_
        exact ih M_13  h
set_option maxHeartbeats 4000000 in
set_option maxRecDepth 100000 in
theorem jX5_readWord_51 {p : Program} {l : Launch} {e : Env} {s : State} {m : MethodId} {args : Array Value} {below : List Frame} {meth : Method} {c : Code} {G : GG} (X : Cx p s m args meth c cX5_readWord 1 ((some FieldType.boolean)) RX5 G) {Q : Int → Mm → Prop}  {v0 : Int}  (k0 : gK G v0 = (5, 0)) {M : Mm} (h : JX5_readWord_51  Q v0 M) : Wt p l e rmX5_readWord s m args below meth c G (MQ below (PostI G Q) args s 0 0 (gA G)) 1 M [(0, rV (v0))] 51 [] := by
  have hG := X.2.2.2.2.2.2.2.2
  unfold JX5_readWord_51 at h
  refine xt_al X dX5_readWord_51 rfl 0 rfl ?_
  refine xt_al X dX5_readWord_52 rfl 0 rfl ?_
  refine gfX5_15 X k0 dX5_readWord_53 (fun r_17 => ?_)
  refine pfX5_75 X k0 r_17 dX5_readWord_56 (fun M_18 hm => ?_)
  have h := h M_18 hm
  refine xt_al X dX5_readWord_59 rfl 0 rfl ?_
  refine gfX5_75 X k0 dX5_readWord_60 (fun r_19 => ?_)
  refine xt_al X dX5_readWord_63 rfl 0 rfl ?_
  refine gfX5_45 X k0 dX5_readWord_64 (fun r_20 => ?_)
  refine xt_cgt (tgt := 81) X r_19 r_20 dX5_readWord_67 (by decide) (fun hc => ?_) (fun hc => ?_)
  · have h := h.1 hc
    refine xt_ic X dX5_readWord_81 ?_
    refine xt_goto (tgt := 86) X dX5_readWord_82 (by decide) ?_
    exact xt_zret X (Or.inr rfl) h dX5_readWord_86
  · have h := h.2 hc
    refine xt_al X dX5_readWord_70 rfl 0 rfl ?_
    refine xt_al X dX5_readWord_71 rfl 0 rfl ?_
    refine gfX5_15 X k0 dX5_readWord_72 (fun r_21 => ?_)
    refine xt_cVI X [iV (M_18 v0 7)] [] (ctX5_failAt hG k0 r_21 h) gdX5_48 pdX5_failAt ⟨rfl, rfl⟩ ⟨Nat.le_of_ble_eq_true rfl, Nat.le_of_ble_eq_true rfl⟩ rfl (k_lt k0 (by decide)) (by rw [k0]; rfl) rfl (Nat.le_of_ble_eq_true rfl) dX5_readWord_75 (fun z_22 M_23 z_22r h => ?_)
    refine xt_zeq (tgt := 85) X z_22r dX5_readWord_78 (by decide) (fun hc => ?_) (fun hc => ?_)
    · have h := h.1 hc
      refine xt_ic X dX5_readWord_85 ?_
      exact xt_zret X (Or.inl rfl) h dX5_readWord_86
    · have h := h.2 hc
      refine xt_ic X dX5_readWord_81 ?_
      refine xt_goto (tgt := 86) X dX5_readWord_82 (by decide) ?_
      exact xt_zret X (Or.inr rfl) h dX5_readWord_86
set_option maxHeartbeats 4000000 in
set_option maxRecDepth 100000 in
theorem ctX5_readWord {l : Launch} {G : GG} (hG : Gd G) {v0 : Int} {M : Mm} {Q : Int → Mm → Prop} (k0 : gK G v0 = (5, 0)) (h : PX5_readWord v0 M Q) : Met l yX5_readWord (Cond.code yX5_readWord cX5_readWord 1 ((some FieldType.boolean)) :: tw) rmX5_readWord (Pre G M [rV (v0)]) (PostI G Q) 0 0 (gA G) := by
  refine met_of (own := RX5) (by decide) rfl hG (Nat.le_of_ble_eq_true rfl) (fun p e s m below meth c X => ?_)
  generalize hargs : ([rV (v0)] : List Value).toArray = args at X ⊢
  show Wt p l e rmX5_readWord s m args below meth c G (MQ below (PostI G Q) args s 0 0 (gA G)) 1 M [(0, rV (v0))] 0 []
  unfold PX5_readWord at h
  refine xt_al X dX5_readWord_0 rfl 0 rfl ?_
  refine xt_cVV X [] [] (ctX5_skipBlanks hG k0 h) gdX5_29 pdX5_skipBlanks ⟨rfl, rfl⟩ ⟨Nat.le_of_ble_eq_true rfl, Nat.le_of_ble_eq_true rfl⟩ rfl (k_lt k0 (by decide)) (by rw [k0]; rfl) rfl (Nat.le_of_ble_eq_true rfl) dX5_readWord_1 (fun M_2 h => ?_)
  refine xt_al X dX5_readWord_4 rfl 0 rfl ?_
  refine xt_al X dX5_readWord_5 rfl 0 rfl ?_
  refine gfX5_15 X k0 dX5_readWord_6 (fun r_3 => ?_)
  refine pfX5_45 X k0 r_3 dX5_readWord_9 (fun M_4 hm => ?_)
  have h := h M_4 hm
  obtain ⟨n_15, h⟩ := h
  refine wX5_readWord_12 X k0 (fun M_16 h => ?_) n_15 M_4  h
  exact jX5_readWord_51 X  k0 h
abbrev rmX5_nameOfVerb : Room := { frames := 0, cells := 0, slots := 0, locals := 0 }
def PX5_nameOfVerb (v0 : Int) (M : Mm) (Q : Nat → Mm → Prop) : Prop :=
  (((v0 < 0 ∨ 7 < v0) → Q 12 M) ∧
  (v0 = 0 → Q 4 M) ∧
  (v0 = 1 → Q 5 M) ∧
  (v0 = 2 → Q 6 M) ∧
  (v0 = 3 → Q 7 M) ∧
  (v0 = 4 → Q 8 M) ∧
  (v0 = 5 → Q 9 M) ∧
  (v0 = 6 → Q 10 M) ∧
  (v0 = 7 → Q 11 M))
set_option maxHeartbeats 4000000 in
set_option maxRecDepth 100000 in
theorem ctX5_nameOfVerb {l : Launch} {G : GG} (hG : Gd G) {v0 : Int} {M : Mm} {Q : Nat → Mm → Prop} (r0 : inR v0) (h : PX5_nameOfVerb v0 M Q) : Met l yX5_nameOfVerb (Cond.code yX5_nameOfVerb cX5_nameOfVerb 1 ((some (FieldType.object "java/lang/String"))) :: tw) rmX5_nameOfVerb (Pre G M [iV (v0)]) (PostS G Q) 0 0 (gA G) := by
  refine met_of (own := RX5) (by decide) rfl hG (Nat.le_of_ble_eq_true rfl) (fun p e s m below meth c X => ?_)
  generalize hargs : ([iV (v0)] : List Value).toArray = args at X ⊢
  show Wt p l e rmX5_nameOfVerb s m args below meth c G (MQ below (PostS G Q) args s 0 0 (gA G)) 1 M [(0, iV (v0))] 0 []
  unfold PX5_nameOfVerb at h
  refine xt_il X dX5_nameOfVerb_0 rfl 0 rfl ?_
  rcases (show (v0 < 0 ∨ 7 < v0) ∨ v0 = 0 ∨ v0 = 1 ∨ v0 = 2 ∨ v0 = 3 ∨ v0 = 4 ∨ v0 = 5 ∨ v0 = 6 ∨ v0 = 7 by omega) with hc | hc | hc | hc | hc | hc | hc | hc | hc
  · have h := h.1 hc
    refine xt_tout (tgt := 72) X r0 dX5_nameOfVerb_1 hc (by decide) ?_
    refine xt_ldcS X 12 (by decide) dX5_nameOfVerb_72 ?_
    exact xt_sret X (by decide) h dX5_nameOfVerb_74
  · have h := h.2.1 hc
    refine xt_tin (tgt := 48) X r0 dX5_nameOfVerb_1 0 hc (by decide) (by decide) rfl (by decide) ?_
    refine xt_ldcS X 4 (by decide) dX5_nameOfVerb_48 ?_
    exact xt_sret X (by decide) h dX5_nameOfVerb_50
  · have h := h.2.2.1 hc
    refine xt_tin (tgt := 51) X r0 dX5_nameOfVerb_1 1 hc (by decide) (by decide) rfl (by decide) ?_
    refine xt_ldcS X 5 (by decide) dX5_nameOfVerb_51 ?_
    exact xt_sret X (by decide) h dX5_nameOfVerb_53
  · have h := h.2.2.2.1 hc
    refine xt_tin (tgt := 54) X r0 dX5_nameOfVerb_1 2 hc (by decide) (by decide) rfl (by decide) ?_
    refine xt_ldcS X 6 (by decide) dX5_nameOfVerb_54 ?_
    exact xt_sret X (by decide) h dX5_nameOfVerb_56
  · have h := h.2.2.2.2.1 hc
    refine xt_tin (tgt := 57) X r0 dX5_nameOfVerb_1 3 hc (by decide) (by decide) rfl (by decide) ?_
    refine xt_ldcS X 7 (by decide) dX5_nameOfVerb_57 ?_
    exact xt_sret X (by decide) h dX5_nameOfVerb_59
  · have h := h.2.2.2.2.2.1 hc
    refine xt_tin (tgt := 60) X r0 dX5_nameOfVerb_1 4 hc (by decide) (by decide) rfl (by decide) ?_
    refine xt_ldcS X 8 (by decide) dX5_nameOfVerb_60 ?_
    exact xt_sret X (by decide) h dX5_nameOfVerb_62
  · have h := h.2.2.2.2.2.2.1 hc
    refine xt_tin (tgt := 63) X r0 dX5_nameOfVerb_1 5 hc (by decide) (by decide) rfl (by decide) ?_
    refine xt_ldcS X 9 (by decide) dX5_nameOfVerb_63 ?_
    exact xt_sret X (by decide) h dX5_nameOfVerb_65
  · have h := h.2.2.2.2.2.2.2.1 hc
    refine xt_tin (tgt := 66) X r0 dX5_nameOfVerb_1 6 hc (by decide) (by decide) rfl (by decide) ?_
    refine xt_ldcS X 10 (by decide) dX5_nameOfVerb_66 ?_
    exact xt_sret X (by decide) h dX5_nameOfVerb_68
  · have h := h.2.2.2.2.2.2.2.2 hc
    refine xt_tin (tgt := 69) X r0 dX5_nameOfVerb_1 7 hc (by decide) (by decide) rfl (by decide) ?_
    refine xt_ldcS X 11 (by decide) dX5_nameOfVerb_69 ?_
    exact xt_sret X (by decide) h dX5_nameOfVerb_71
abbrev rmX5_isWord : Room := { frames := 6, cells := 0, slots := 0, locals := 160 }
def BX5_isWord_20  (Q : Int → Mm → Prop) (v0 : Int) (v1 : Nat) (rec : Int → Mm → Prop) (v2 : Int) (M : Mm) : Prop :=
  (((sLen v1) ≤ v2 → Q 1 M) ∧
  (¬ (sLen v1) ≤ v2 → ((0 ≤ v2 ∧ v2 < sLen v1) ∧
  ((0 ≤ ((M v0 5) + v2) ∧ ((M v0 5) + v2) < 150) ∧
  (((sCh v1 v2) = (M (v0 + 1) ((M v0 5) + v2)) → (inR (v2 + 1) ∧
  rec (v2 + 1) M)) ∧
  (¬ (sCh v1 v2) = (M (v0 + 1) ((M v0 5) + v2)) → Q 0 M))))))
def PX5_isWord (v0 : Int) (v1 : Nat) (M : Mm) (Q : Int → Mm → Prop) : Prop :=
  (inR ((M v0 6) - (M v0 5)) ∧
  (((sLen v1) = ((M v0 6) - (M v0 5)) → ∃ n_12 : Nat, lp_I (BX5_isWord_20  Q v0 v1) n_12 0 M) ∧
  (¬ (sLen v1) = ((M v0 6) - (M v0 5)) → Q 0 M)))
set_option maxHeartbeats 4000000 in
set_option maxRecDepth 100000 in
theorem wX5_isWord_20 {p : Program} {l : Launch} {e : Env} {s : State} {m : MethodId} {args : Array Value} {below : List Frame} {meth : Method} {c : Code} {G : GG} (X : Cx p s m args meth c cX5_isWord 3 ((some FieldType.boolean)) RX5 G) {Q : Int → Mm → Prop}  {v0 : Int} {v1 : Nat} (k0 : gK G v0 = (5, 0)) (l1 : v1 < 18)  : ∀ (n : Nat) (v2 : Int) (M : Mm), inR v2 → lp_I (BX5_isWord_20  Q v0 v1) n v2 M → Wt p l e rmX5_isWord s m args below meth c G (MQ below (PostI G Q) args s 0 0 (gA G)) 3 M [(0, rV (v0)), (1, .ref (gS G (v1))), (2, iV (v2))] 20 [] := by
  have hG := X.2.2.2.2.2.2.2.2
  intro n
  induction n with
  | zero => intro v2 M r2 h; exact h.elim
  | succ n ih =>
    intro v2 M r2 h
    have h : BX5_isWord_20  Q v0 v1 (lp_I (BX5_isWord_20  Q v0 v1) n) v2 M := h
    unfold BX5_isWord_20 at h
    refine xt_il X dX5_isWord_20 rfl 2 rfl ?_
    refine xt_als X dX5_isWord_21 rfl 1 rfl ?_
    refine xt_slen X l1 [iV (v2)] rfl (Nat.le_of_ble_eq_true rfl) mlX5_56 ⟨Nat.le_of_ble_eq_true rfl, Nat.le_of_ble_eq_true rfl⟩ dX5_isWord_22 (fun r_5 => ?_)
    refine xt_cge (tgt := 55) X r2 r_5 dX5_isWord_25 (by decide) (fun hc => ?_) (fun hc => ?_)
    · have h := h.1 hc
      refine xt_ic X dX5_isWord_55 ?_
      exact xt_zret X (Or.inr rfl) h dX5_isWord_56
    · have h := h.2 hc
      refine xt_als X dX5_isWord_28 rfl 1 rfl ?_
      refine xt_il X dX5_isWord_29 rfl 2 rfl ?_
      obtain ⟨g_6, h⟩ := h
      refine xt_schar X l1 g_6 [] rfl (Nat.le_of_ble_eq_true rfl) mlX5_61 ⟨Nat.le_of_ble_eq_true rfl, Nat.le_of_ble_eq_true rfl⟩ dX5_isWord_30 (fun r_7 => ?_)
      refine xt_al X dX5_isWord_33 rfl 0 rfl ?_
      refine gfX5_9 X k0 dX5_isWord_34 ?_
      refine xt_al X dX5_isWord_37 rfl 0 rfl ?_
      refine gfX5_45 X k0 dX5_isWord_38 (fun r_8 => ?_)
      refine xt_il X dX5_isWord_41 rfl 2 rfl ?_
      refine xt_add X dX5_isWord_42 ?_
      obtain ⟨g_9, h⟩ := h
      refine xt_iald X (kd_X5_0 hG k0) g_9 (by decide) dX5_isWord_43 (fun r_10 => ?_)
      refine xt_ceq (tgt := 49) X r_7 r_10 dX5_isWord_44 (by decide) (fun hc => ?_) (fun hc => ?_)
      · have h := h.1 hc
        refine xt_inc (lv2 := [(2, iV (v2 + 1)), (0, rV (v0)), (1, .ref (gS G (v1)))]) X dX5_isWord_49 2 rfl (by decide) rfl ?_
        refine xt_goto (tgt := 20) X dX5_isWord_52 (by decide) ?_
        obtain ⟨g_11, h⟩ := h
        refine xt_perm (lv2 := [(0, rV (v0)), (1, .ref (gS G (v1))), (2, iV (v2 + 1))]) [1, 2, 0] rfl ?_
        exact ih (v2 + 1) M g_11 h
      · have h := h.2 hc
        refine xt_ic X dX5_isWord_47 ?_
        exact xt_zret X (Or.inl rfl) h dX5_isWord_48
set_option maxHeartbeats 4000000 in
set_option maxRecDepth 100000 in
theorem ctX5_isWord {l : Launch} {G : GG} (hG : Gd G) {v0 : Int} {v1 : Nat} {M : Mm} {Q : Int → Mm → Prop} (k0 : gK G v0 = (5, 0)) (l1 : v1 < 18) (h : PX5_isWord v0 v1 M Q) : Met l yX5_isWord (Cond.code yX5_isWord cX5_isWord 3 ((some FieldType.boolean)) :: tw) rmX5_isWord (Pre G M [rV (v0), .ref (gS G (v1))]) (PostI G Q) 0 0 (gA G) := by
  refine met_of (own := RX5) (by decide) rfl hG (Nat.le_of_ble_eq_true rfl) (fun p e s m below meth c X => ?_)
  generalize hargs : ([rV (v0), .ref (gS G (v1))] : List Value).toArray = args at X ⊢
  show Wt p l e rmX5_isWord s m args below meth c G (MQ below (PostI G Q) args s 0 0 (gA G)) 3 M [(0, rV (v0)), (1, .ref (gS G (v1)))] 0 []
  unfold PX5_isWord at h
  refine xt_als X dX5_isWord_0 rfl 1 rfl ?_
  refine xt_slen X l1 [] rfl (Nat.le_of_ble_eq_true rfl) mlX5_56 ⟨Nat.le_of_ble_eq_true rfl, Nat.le_of_ble_eq_true rfl⟩ dX5_isWord_1 (fun r_1 => ?_)
  refine xt_al X dX5_isWord_4 rfl 0 rfl ?_
  refine gfX5_75 X k0 dX5_isWord_5 (fun r_2 => ?_)
  refine xt_al X dX5_isWord_8 rfl 0 rfl ?_
  refine gfX5_45 X k0 dX5_isWord_9 (fun r_3 => ?_)
  refine xt_sub X dX5_isWord_12 ?_
  obtain ⟨g_4, h⟩ := h
  refine xt_ceq (tgt := 18) X r_1 g_4 dX5_isWord_13 (by decide) (fun hc => ?_) (fun hc => ?_)
  · have h := h.1 hc
    refine xt_ic X dX5_isWord_18 ?_
    refine xt_is (lv2 := [(2, iV (0)), (0, rV (v0)), (1, .ref (gS G (v1)))]) X dX5_isWord_19 rfl (by decide) rfl ?_
    obtain ⟨n_12, h⟩ := h
    refine xt_perm (lv2 := [(0, rV (v0)), (1, .ref (gS G (v1))), (2, iV (0))]) [1, 2, 0] rfl ?_
    refine wX5_isWord_20 X k0 l1  n_12 0 M (i_rc 0 rfl) h
  · have h := h.2 hc
    refine xt_ic X dX5_isWord_16 ?_
    exact xt_zret X (Or.inl rfl) h dX5_isWord_17
abbrev rmX5_verbOfWord : Room := { frames := 7, cells := 0, slots := 0, locals := 182 }
def BX5_verbOfWord_2  (Q : Int → Mm → Prop) (v0 : Int) (rec : Int → Mm → Prop) (v1 : Int) (M : Mm) : Prop :=
  ((9 ≤ v1 → Q ((-9)) M) ∧
  (¬ 9 ≤ v1 → (PX5_nameOfVerb v1 M (fun z_1 M_2 =>
  (PX5_isWord v0 z_1 M_2 (fun z_3 M_4 =>
  ((z_3 = 0 → (inR (v1 + 1) ∧
  rec (v1 + 1) M_4)) ∧
  (¬ z_3 = 0 → Q v1 M_4))))))))
def PX5_verbOfWord (v0 : Int) (M : Mm) (Q : Int → Mm → Prop) : Prop :=
  ∃ n_6 : Nat, lp_I (BX5_verbOfWord_2  Q v0) n_6 0 M
set_option maxHeartbeats 4000000 in
set_option maxRecDepth 100000 in
theorem wX5_verbOfWord_2 {p : Program} {l : Launch} {e : Env} {s : State} {m : MethodId} {args : Array Value} {below : List Frame} {meth : Method} {c : Code} {G : GG} (X : Cx p s m args meth c cX5_verbOfWord 2 ((some FieldType.int)) RX5 G) {Q : Int → Mm → Prop}  {v0 : Int} (k0 : gK G v0 = (5, 0))  : ∀ (n : Nat) (v1 : Int) (M : Mm), inR v1 → lp_I (BX5_verbOfWord_2  Q v0) n v1 M → Wt p l e rmX5_verbOfWord s m args below meth c G (MQ below (PostI G Q) args s 0 0 (gA G)) 2 M [(0, rV (v0)), (1, iV (v1))] 2 [] := by
  have hG := X.2.2.2.2.2.2.2.2
  intro n
  induction n with
  | zero => intro v1 M r1 h; exact h.elim
  | succ n ih =>
    intro v1 M r1 h
    have h : BX5_verbOfWord_2  Q v0 (lp_I (BX5_verbOfWord_2  Q v0) n) v1 M := h
    unfold BX5_verbOfWord_2 at h
    refine xt_il X dX5_verbOfWord_2 rfl 1 rfl ?_
    refine xt_bi X dX5_verbOfWord_3 (by decide) ?_
    refine xt_cge (tgt := 27) X r1 (i_rc 9 rfl) dX5_verbOfWord_5 (by decide) (fun hc => ?_) (fun hc => ?_)
    · have h := h.1 hc
      refine xt_bi X dX5_verbOfWord_27 (by decide) ?_
      exact xt_iret X (i_rc (-9) rfl) h dX5_verbOfWord_29
    · have h := h.2 hc
      refine xt_al X dX5_verbOfWord_8 rfl 0 rfl ?_
      refine xt_il X dX5_verbOfWord_9 rfl 1 rfl ?_
      refine xt_cSS X [iV (v1)] [rV (v0)] (ctX5_nameOfVerb hG r1 h) gdX5_101 pdX5_nameOfVerb ⟨rfl, rfl⟩ ⟨Nat.le_of_ble_eq_true rfl, Nat.le_of_ble_eq_true rfl⟩ rfl (Nat.le_of_ble_eq_true rfl) dX5_verbOfWord_10 (fun z_1 M_2 z_1r h => ?_)
      refine xt_cVI X [.ref (gS G (z_1))] [] (ctX5_isWord hG k0 z_1r h) gdX5_97 pdX5_isWord ⟨rfl, rfl⟩ ⟨Nat.le_of_ble_eq_true rfl, Nat.le_of_ble_eq_true rfl⟩ rfl (k_lt k0 (by decide)) (by rw [k0]; rfl) rfl (Nat.le_of_ble_eq_true rfl) dX5_verbOfWord_13 (fun z_3 M_4 z_3r h => ?_)
      refine xt_zeq (tgt := 21) X z_3r dX5_verbOfWord_16 (by decide) (fun hc => ?_) (fun hc => ?_)
      · have h := h.1 hc
        refine xt_inc (lv2 := [(1, iV (v1 + 1)), (0, rV (v0))]) X dX5_verbOfWord_21 1 rfl (by decide) rfl ?_
        refine xt_goto (tgt := 2) X dX5_verbOfWord_24 (by decide) ?_
        obtain ⟨g_5, h⟩ := h
        refine xt_perm (lv2 := [(0, rV (v0)), (1, iV (v1 + 1))]) [1, 0] rfl ?_
        exact ih (v1 + 1) M_4 g_5 h
      · have h := h.2 hc
        refine xt_il X dX5_verbOfWord_19 rfl 1 rfl ?_
        exact xt_iret X r1 h dX5_verbOfWord_20
set_option maxHeartbeats 4000000 in
set_option maxRecDepth 100000 in
theorem ctX5_verbOfWord {l : Launch} {G : GG} (hG : Gd G) {v0 : Int} {M : Mm} {Q : Int → Mm → Prop} (k0 : gK G v0 = (5, 0)) (h : PX5_verbOfWord v0 M Q) : Met l yX5_verbOfWord (Cond.code yX5_verbOfWord cX5_verbOfWord 2 ((some FieldType.int)) :: tw) rmX5_verbOfWord (Pre G M [rV (v0)]) (PostI G Q) 0 0 (gA G) := by
  refine met_of (own := RX5) (by decide) rfl hG (Nat.le_of_ble_eq_true rfl) (fun p e s m below meth c X => ?_)
  generalize hargs : ([rV (v0)] : List Value).toArray = args at X ⊢
  show Wt p l e rmX5_verbOfWord s m args below meth c G (MQ below (PostI G Q) args s 0 0 (gA G)) 2 M [(0, rV (v0))] 0 []
  unfold PX5_verbOfWord at h
  refine xt_ic X dX5_verbOfWord_0 ?_
  refine xt_is (lv2 := [(1, iV (0)), (0, rV (v0))]) X dX5_verbOfWord_1 rfl (by decide) rfl ?_
  obtain ⟨n_6, h⟩ := h
  refine xt_perm (lv2 := [(0, rV (v0)), (1, iV (0))]) [1, 0] rfl ?_
  refine wX5_verbOfWord_2 X k0  n_6 0 M (i_rc 0 rfl) h
abbrev rmX5_shapeOf : Room := { frames := 0, cells := 0, slots := 0, locals := 0 }
def PX5_shapeOf (v0 : Int) (M : Mm) (Q : Nat → Mm → Prop) : Prop :=
  (((v0 < 0 ∨ 6 < v0) → Q 17 M) ∧
  (v0 = 0 → Q 13 M) ∧
  (v0 = 1 → Q 17 M) ∧
  (v0 = 2 → Q 14 M) ∧
  (v0 = 3 → Q 17 M) ∧
  (v0 = 4 → Q 15 M) ∧
  (v0 = 5 → Q 14 M) ∧
  (v0 = 6 → Q 16 M))
set_option maxHeartbeats 4000000 in
set_option maxRecDepth 100000 in
theorem ctX5_shapeOf {l : Launch} {G : GG} (hG : Gd G) {v0 : Int} {M : Mm} {Q : Nat → Mm → Prop} (r0 : inR v0) (h : PX5_shapeOf v0 M Q) : Met l yX5_shapeOf (Cond.code yX5_shapeOf cX5_shapeOf 1 ((some (FieldType.object "java/lang/String"))) :: tw) rmX5_shapeOf (Pre G M [iV (v0)]) (PostS G Q) 0 0 (gA G) := by
  refine met_of (own := RX5) (by decide) rfl hG (Nat.le_of_ble_eq_true rfl) (fun p e s m below meth c X => ?_)
  generalize hargs : ([iV (v0)] : List Value).toArray = args at X ⊢
  show Wt p l e rmX5_shapeOf s m args below meth c G (MQ below (PostS G Q) args s 0 0 (gA G)) 1 M [(0, iV (v0))] 0 []
  unfold PX5_shapeOf at h
  refine xt_il X dX5_shapeOf_0 rfl 0 rfl ?_
  rcases (show (v0 < 0 ∨ 6 < v0) ∨ v0 = 0 ∨ v0 = 1 ∨ v0 = 2 ∨ v0 = 3 ∨ v0 = 4 ∨ v0 = 5 ∨ v0 = 6 by omega) with hc | hc | hc | hc | hc | hc | hc | hc
  · have h := h.1 hc
    refine xt_tout (tgt := 59) X r0 dX5_shapeOf_1 hc (by decide) ?_
    refine xt_ldcS X 17 (by decide) dX5_shapeOf_59 ?_
    exact xt_sret X (by decide) h dX5_shapeOf_61
  · have h := h.2.1 hc
    refine xt_tin (tgt := 44) X r0 dX5_shapeOf_1 0 hc (by decide) (by decide) rfl (by decide) ?_
    refine xt_ldcS X 13 (by decide) dX5_shapeOf_44 ?_
    exact xt_sret X (by decide) h dX5_shapeOf_46
  · have h := h.2.2.1 hc
    refine xt_tin (tgt := 59) X r0 dX5_shapeOf_1 1 hc (by decide) (by decide) rfl (by decide) ?_
    refine xt_ldcS X 17 (by decide) dX5_shapeOf_59 ?_
    exact xt_sret X (by decide) h dX5_shapeOf_61
  · have h := h.2.2.2.1 hc
    refine xt_tin (tgt := 47) X r0 dX5_shapeOf_1 2 hc (by decide) (by decide) rfl (by decide) ?_
    refine xt_ldcS X 14 (by decide) dX5_shapeOf_47 ?_
    exact xt_sret X (by decide) h dX5_shapeOf_49
  · have h := h.2.2.2.2.1 hc
    refine xt_tin (tgt := 59) X r0 dX5_shapeOf_1 3 hc (by decide) (by decide) rfl (by decide) ?_
    refine xt_ldcS X 17 (by decide) dX5_shapeOf_59 ?_
    exact xt_sret X (by decide) h dX5_shapeOf_61
  · have h := h.2.2.2.2.2.1 hc
    refine xt_tin (tgt := 50) X r0 dX5_shapeOf_1 4 hc (by decide) (by decide) rfl (by decide) ?_
    refine xt_ldcS X 15 (by decide) dX5_shapeOf_50 ?_
    exact xt_sret X (by decide) h dX5_shapeOf_52
  · have h := h.2.2.2.2.2.2.1 hc
    refine xt_tin (tgt := 53) X r0 dX5_shapeOf_1 5 hc (by decide) (by decide) rfl (by decide) ?_
    refine xt_ldcS X 14 (by decide) dX5_shapeOf_53 ?_
    exact xt_sret X (by decide) h dX5_shapeOf_55
  · have h := h.2.2.2.2.2.2.2 hc
    refine xt_tin (tgt := 56) X r0 dX5_shapeOf_1 6 hc (by decide) (by decide) rfl (by decide) ?_
    refine xt_ldcS X 16 (by decide) dX5_shapeOf_56 ?_
    exact xt_sret X (by decide) h dX5_shapeOf_58
abbrev rmX5_takeNumber : Room := { frames := 1, cells := 0, slots := 0, locals := 20 }
def BX5_takeNumber_44 (ke90 : Int → Mm → Prop) (Q : Int → Mm → Prop) (v0 : Int) (v1 : Int) (rec : Int → Int → Mm → Prop) (v3 : Int) (v4 : Int) (M : Mm) : Prop :=
  (((M v0 6) ≤ v4 → ke90 v3 M) ∧
  (¬ (M v0 6) ≤ v4 → ((0 ≤ v4 ∧ v4 < 150) ∧
  (PX5_isFigure (M (v0 + 1) v4) M (fun z_8 M_9 =>
  ((z_8 = 0 → Q 0 M_9) ∧
  (¬ z_8 = 0 → ((0 ≤ v4 ∧ v4 < 150) ∧
  (inR (((10 * v3) + (M_9 (v0 + 1) v4)) - 48) ∧
  (inR (v4 + 1) ∧
  rec (((10 * v3) + (M_9 (v0 + 1) v4)) - 48) (v4 + 1) M_9))))))))))
def JX5_takeNumber_36  (Q : Int → Mm → Prop) (v0 : Int) (v1 : Int) (M : Mm) : Prop :=
  ∃ n_14 : Nat, lp_II (BX5_takeNumber_44 (fun w3_15 M_15 => ((v1 = 0 → (∀ M_16 : Mm, M_16 = um M_15 v0 4 w3_15 →
  Q 1 M_16)) ∧
  (¬ v1 = 0 → (∀ M_17 : Mm, M_17 = um M_15 v0 3 w3_15 →
  Q 1 M_17)))) Q v0 v1) n_14 0 (M v0 5) M
def PX5_takeNumber (v0 : Int) (v1 : Int) (M : Mm) (Q : Int → Mm → Prop) : Prop :=
  (inR ((M v0 6) - (M v0 5)) ∧
  ((3 < ((M v0 6) - (M v0 5)) → Q 0 M) ∧
  (¬ 3 < ((M v0 6) - (M v0 5)) → ((((M v0 6) - (M v0 5)) ≤ 1 → JX5_takeNumber_36  Q v0 v1 M) ∧
  (¬ ((M v0 6) - (M v0 5)) ≤ 1 → ((0 ≤ (M v0 5) ∧ (M v0 5) < 150) ∧
  (((M (v0 + 1) (M v0 5)) = 48 → Q 0 M) ∧
  (¬ (M (v0 + 1) (M v0 5)) = 48 → JX5_takeNumber_36  Q v0 v1 M))))))))
set_option maxHeartbeats 4000000 in
set_option maxRecDepth 100000 in
theorem wX5_takeNumber_44 {p : Program} {l : Launch} {e : Env} {s : State} {m : MethodId} {args : Array Value} {below : List Frame} {meth : Method} {c : Code} {G : GG} (X : Cx p s m args meth c cX5_takeNumber 5 ((some FieldType.boolean)) RX5 G) {Q : Int → Mm → Prop} {ke90 : Int → Mm → Prop} {v0 : Int} {v1 : Int} (k0 : gK G v0 = (5, 0)) (r1 : inR v1) (hke90 : ∀ (v3 : Int) (M : Mm), inR v3 → ke90 v3 M → Wt p l e rmX5_takeNumber s m args below meth c G (MQ below (PostI G Q) args s 0 0 (gA G)) 5 M [(0, rV (v0)), (1, iV (v1)), (3, iV (v3))] 90 []) : ∀ (n : Nat) (v3 : Int) (v4 : Int) (M : Mm), inR v3 → inR v4 → lp_II (BX5_takeNumber_44 ke90 Q v0 v1) n v3 v4 M → Wt p l e rmX5_takeNumber s m args below meth c G (MQ below (PostI G Q) args s 0 0 (gA G)) 5 M [(0, rV (v0)), (1, iV (v1)), (3, iV (v3)), (4, iV (v4))] 44 [] := by
  have hG := X.2.2.2.2.2.2.2.2
  intro n
  induction n with
  | zero => intro v3 v4 M r3 r4 h; exact h.elim
  | succ n ih =>
    intro v3 v4 M r3 r4 h
    have h : BX5_takeNumber_44 ke90 Q v0 v1 (lp_II (BX5_takeNumber_44 ke90 Q v0 v1) n) v3 v4 M := h
    unfold BX5_takeNumber_44 at h
    refine xt_ilw X dX5_takeNumber_44 3 rfl ?_
    refine xt_al X dX5_takeNumber_46 rfl 0 rfl ?_
    refine gfX5_75 X k0 dX5_takeNumber_47 (fun r_5 => ?_)
    refine xt_cge (tgt := 90) X r4 r_5 dX5_takeNumber_50 (by decide) (fun hc => ?_) (fun hc => ?_)
    · have h := h.1 hc
      refine xt_perm (lv2 := [(0, rV (v0)), (1, iV (v1)), (3, iV (v3))]) [0, 1, 2] rfl ?_
      exact hke90 v3 M r3 h
    · have h := h.2 hc
      refine xt_al X dX5_takeNumber_53 rfl 0 rfl ?_
      refine gfX5_9 X k0 dX5_takeNumber_54 ?_
      refine xt_ilw X dX5_takeNumber_57 3 rfl ?_
      obtain ⟨g_6, h⟩ := h
      refine xt_iald X (kd_X5_0 hG k0) g_6 (by decide) dX5_takeNumber_59 (fun r_7 => ?_)
      refine xt_cSI X [iV (M (v0 + 1) v4)] [] (ctX5_isFigure hG r_7 h) gdX5_85 pdX5_isFigure ⟨rfl, rfl⟩ ⟨Nat.le_of_ble_eq_true rfl, Nat.le_of_ble_eq_true rfl⟩ rfl (Nat.le_of_ble_eq_true rfl) dX5_takeNumber_60 (fun z_8 M_9 z_8r h => ?_)
      refine xt_zne (tgt := 68) X z_8r dX5_takeNumber_63 (by decide) (fun hc => ?_) (fun hc => ?_)
      · have h := h.2 hc
        refine xt_bi X dX5_takeNumber_68 (by decide) ?_
        refine xt_il X dX5_takeNumber_70 rfl 2 rfl ?_
        refine xt_mul X dX5_takeNumber_71 ?_
        refine xt_al X dX5_takeNumber_72 rfl 0 rfl ?_
        refine gfX5_9 X k0 dX5_takeNumber_73 ?_
        refine xt_ilw X dX5_takeNumber_76 3 rfl ?_
        obtain ⟨g_10, h⟩ := h
        refine xt_iald X (kd_X5_0 hG k0) g_10 (by decide) dX5_takeNumber_78 (fun r_11 => ?_)
        refine xt_add X dX5_takeNumber_79 ?_
        refine xt_bi X dX5_takeNumber_80 (by decide) ?_
        refine xt_sub X dX5_takeNumber_82 ?_
        refine xt_is (lv2 := [(3, iV (((10 * v3) + (M_9 (v0 + 1) v4)) - 48)), (0, rV (v0)), (1, iV (v1)), (4, iV (v4))]) X dX5_takeNumber_83 rfl (by decide) rfl ?_
        refine xt_inc (lv2 := [(4, iV (v4 + 1)), (3, iV (((10 * v3) + (M_9 (v0 + 1) v4)) - 48)), (0, rV (v0)), (1, iV (v1))]) X dX5_takeNumber_84 3 rfl (by decide) rfl ?_
        refine xt_goto (tgt := 44) X dX5_takeNumber_87 (by decide) ?_
        obtain ⟨g_12, h⟩ := h
        obtain ⟨g_13, h⟩ := h
        refine xt_perm (lv2 := [(0, rV (v0)), (1, iV (v1)), (3, iV (((10 * v3) + (M_9 (v0 + 1) v4)) - 48)), (4, iV (v4 + 1))]) [2, 3, 1, 0] rfl ?_
        exact ih (((10 * v3) + (M_9 (v0 + 1) v4)) - 48) (v4 + 1) M_9 g_12 g_13 h
      · have h := h.1 hc
        refine xt_ic X dX5_takeNumber_66 ?_
        exact xt_zret X (Or.inl rfl) h dX5_takeNumber_67
set_option maxHeartbeats 4000000 in
set_option maxRecDepth 100000 in
theorem jX5_takeNumber_36 {p : Program} {l : Launch} {e : Env} {s : State} {m : MethodId} {args : Array Value} {below : List Frame} {meth : Method} {c : Code} {G : GG} (X : Cx p s m args meth c cX5_takeNumber 5 ((some FieldType.boolean)) RX5 G) {Q : Int → Mm → Prop}  {v0 : Int} {v1 : Int}  (k0 : gK G v0 = (5, 0)) (r1 : inR v1) {M : Mm} (h : JX5_takeNumber_36  Q v0 v1 M) : Wt p l e rmX5_takeNumber s m args below meth c G (MQ below (PostI G Q) args s 0 0 (gA G)) 5 M [(0, rV (v0)), (1, iV (v1))] 36 [] := by
  have hG := X.2.2.2.2.2.2.2.2
  unfold JX5_takeNumber_36 at h
  refine xt_ic X dX5_takeNumber_36 ?_
  refine xt_is (lv2 := [(3, iV (0)), (0, rV (v0)), (1, iV (v1))]) X dX5_takeNumber_37 rfl (by decide) rfl ?_
  refine xt_al X dX5_takeNumber_38 rfl 1 rfl ?_
  refine gfX5_45 X k0 dX5_takeNumber_39 (fun r_4 => ?_)
  refine xt_isw (lv2 := [(4, iV (M v0 5)), (3, iV (0)), (0, rV (v0)), (1, iV (v1))]) X dX5_takeNumber_42 (by decide) rfl ?_
  obtain ⟨n_14, h⟩ := h
  refine xt_perm (lv2 := [(0, rV (v0)), (1, iV (v1)), (3, iV (0)), (4, iV (M v0 5))]) [2, 3, 1, 0] rfl ?_
  refine wX5_takeNumber_44 X k0 r1 (fun w3_15 M_15 r3_15 h => ?_) n_14 0 (M v0 5) M (i_rc 0 rfl) r_4 h
  refine xt_il X dX5_takeNumber_90 rfl 1 rfl ?_
  refine xt_zeq (tgt := 102) X r1 dX5_takeNumber_91 (by decide) (fun hc => ?_) (fun hc => ?_)
  · have h := h.1 hc
    refine xt_al X dX5_takeNumber_102 rfl 0 rfl ?_
    refine xt_il X dX5_takeNumber_103 rfl 2 rfl ?_
    refine pfX5_91 X k0 r3_15 dX5_takeNumber_104 (fun M_16 hm => ?_)
    have h := h M_16 hm
    refine xt_ic X dX5_takeNumber_107 ?_
    exact xt_zret X (Or.inr rfl) h dX5_takeNumber_108
  · have h := h.2 hc
    refine xt_al X dX5_takeNumber_94 rfl 0 rfl ?_
    refine xt_il X dX5_takeNumber_95 rfl 2 rfl ?_
    refine pfX5_88 X k0 r3_15 dX5_takeNumber_96 (fun M_17 hm => ?_)
    have h := h M_17 hm
    refine xt_goto (tgt := 107) X dX5_takeNumber_99 (by decide) ?_
    refine xt_ic X dX5_takeNumber_107 ?_
    exact xt_zret X (Or.inr rfl) h dX5_takeNumber_108
set_option maxHeartbeats 4000000 in
set_option maxRecDepth 100000 in
theorem ctX5_takeNumber {l : Launch} {G : GG} (hG : Gd G) {v0 : Int} {v1 : Int} {M : Mm} {Q : Int → Mm → Prop} (k0 : gK G v0 = (5, 0)) (r1 : inR v1) (h : PX5_takeNumber v0 v1 M Q) : Met l yX5_takeNumber (Cond.code yX5_takeNumber cX5_takeNumber 5 ((some FieldType.boolean)) :: tw) rmX5_takeNumber (Pre G M [rV (v0), iV (v1)]) (PostI G Q) 0 0 (gA G) := by
  refine met_of (own := RX5) (by decide) rfl hG (Nat.le_of_ble_eq_true rfl) (fun p e s m below meth c X => ?_)
  generalize hargs : ([rV (v0), iV (v1)] : List Value).toArray = args at X ⊢
  show Wt p l e rmX5_takeNumber s m args below meth c G (MQ below (PostI G Q) args s 0 0 (gA G)) 5 M [(0, rV (v0)), (1, iV (v1))] 0 []
  unfold PX5_takeNumber at h
  refine xt_al X dX5_takeNumber_0 rfl 0 rfl ?_
  refine gfX5_75 X k0 dX5_takeNumber_1 (fun r_1 => ?_)
  refine xt_al X dX5_takeNumber_4 rfl 0 rfl ?_
  refine gfX5_45 X k0 dX5_takeNumber_5 (fun r_2 => ?_)
  refine xt_sub X dX5_takeNumber_8 ?_
  refine xt_is (lv2 := [(2, iV ((M v0 6) - (M v0 5))), (0, rV (v0)), (1, iV (v1))]) X dX5_takeNumber_9 rfl (by decide) rfl ?_
  refine xt_il X dX5_takeNumber_10 rfl 0 rfl ?_
  refine xt_ic X dX5_takeNumber_11 ?_
  obtain ⟨g_3, h⟩ := h
  refine xt_cgt (tgt := 34) X g_3 (i_rc 3 rfl) dX5_takeNumber_12 (by decide) (fun hc => ?_) (fun hc => ?_)
  · have h := h.1 hc
    refine xt_ic X dX5_takeNumber_34 ?_
    exact xt_zret X (Or.inl rfl) h dX5_takeNumber_35
  · have h := h.2 hc
    refine xt_il X dX5_takeNumber_15 rfl 0 rfl ?_
    refine xt_ic X dX5_takeNumber_16 ?_
    refine xt_cle (tgt := 36) X g_3 (i_rc 1 rfl) dX5_takeNumber_17 (by decide) (fun hc => ?_) (fun hc => ?_)
    · have h := h.1 hc
      refine xt_perm (lv2 := [(0, rV (v0)), (1, iV (v1))]) [1, 2] rfl ?_
      exact jX5_takeNumber_36 X  k0 r1 h
    · have h := h.2 hc
      refine xt_al X dX5_takeNumber_20 rfl 1 rfl ?_
      refine gfX5_9 X k0 dX5_takeNumber_21 ?_
      refine xt_al X dX5_takeNumber_24 rfl 1 rfl ?_
      refine gfX5_45 X k0 dX5_takeNumber_25 (fun r_18 => ?_)
      obtain ⟨g_19, h⟩ := h
      refine xt_iald X (kd_X5_0 hG k0) g_19 (by decide) dX5_takeNumber_28 (fun r_20 => ?_)
      refine xt_bi X dX5_takeNumber_29 (by decide) ?_
      refine xt_cne (tgt := 36) X r_20 (i_rc 48 rfl) dX5_takeNumber_31 (by decide) (fun hc => ?_) (fun hc => ?_)
      · have h := h.2 hc
        refine xt_perm (lv2 := [(0, rV (v0)), (1, iV (v1))]) [1, 2] rfl ?_
        exact jX5_takeNumber_36 X  k0 r1 h
      · have h := h.1 hc
        refine xt_ic X dX5_takeNumber_34 ?_
        exact xt_zret X (Or.inl rfl) h dX5_takeNumber_35
abbrev rmX5_nameOfAlign : Room := { frames := 0, cells := 0, slots := 0, locals := 0 }
def PX5_nameOfAlign (v0 : Int) (M : Mm) (Q : Nat → Mm → Prop) : Prop :=
  (((v0 < 0 ∨ 2 < v0) → Q 3 M) ∧
  (v0 = 0 → Q 0 M) ∧
  (v0 = 1 → Q 1 M) ∧
  (v0 = 2 → Q 2 M))
set_option maxHeartbeats 4000000 in
set_option maxRecDepth 100000 in
theorem ctX5_nameOfAlign {l : Launch} {G : GG} (hG : Gd G) {v0 : Int} {M : Mm} {Q : Nat → Mm → Prop} (r0 : inR v0) (h : PX5_nameOfAlign v0 M Q) : Met l yX5_nameOfAlign (Cond.code yX5_nameOfAlign cX5_nameOfAlign 1 ((some (FieldType.object "java/lang/String"))) :: tw) rmX5_nameOfAlign (Pre G M [iV (v0)]) (PostS G Q) 0 0 (gA G) := by
  refine met_of (own := RX5) (by decide) rfl hG (Nat.le_of_ble_eq_true rfl) (fun p e s m below meth c X => ?_)
  generalize hargs : ([iV (v0)] : List Value).toArray = args at X ⊢
  show Wt p l e rmX5_nameOfAlign s m args below meth c G (MQ below (PostS G Q) args s 0 0 (gA G)) 1 M [(0, iV (v0))] 0 []
  unfold PX5_nameOfAlign at h
  refine xt_il X dX5_nameOfAlign_0 rfl 0 rfl ?_
  rcases (show (v0 < 0 ∨ 2 < v0) ∨ v0 = 0 ∨ v0 = 1 ∨ v0 = 2 by omega) with hc | hc | hc | hc
  · have h := h.1 hc
    refine xt_tout (tgt := 37) X r0 dX5_nameOfAlign_1 hc (by decide) ?_
    refine xt_ldcS X 3 (by decide) dX5_nameOfAlign_37 ?_
    exact xt_sret X (by decide) h dX5_nameOfAlign_39
  · have h := h.2.1 hc
    refine xt_tin (tgt := 28) X r0 dX5_nameOfAlign_1 0 hc (by decide) (by decide) rfl (by decide) ?_
    refine xt_ldcS X 0 (by decide) dX5_nameOfAlign_28 ?_
    exact xt_sret X (by decide) h dX5_nameOfAlign_30
  · have h := h.2.2.1 hc
    refine xt_tin (tgt := 31) X r0 dX5_nameOfAlign_1 1 hc (by decide) (by decide) rfl (by decide) ?_
    refine xt_ldcS X 1 (by decide) dX5_nameOfAlign_31 ?_
    exact xt_sret X (by decide) h dX5_nameOfAlign_33
  · have h := h.2.2.2 hc
    refine xt_tin (tgt := 34) X r0 dX5_nameOfAlign_1 2 hc (by decide) (by decide) rfl (by decide) ?_
    refine xt_ldcS X 2 (by decide) dX5_nameOfAlign_34 ?_
    exact xt_sret X (by decide) h dX5_nameOfAlign_36
abbrev rmX5_takeAlign : Room := { frames := 7, cells := 0, slots := 0, locals := 182 }
def BX5_takeAlign_2 (ke18 : Int → Mm → Prop) (Q : Int → Mm → Prop) (v0 : Int) (rec : Int → Mm → Prop) (v1 : Int) (M : Mm) : Prop :=
  ((4 ≤ v1 → Q 0 M) ∧
  (¬ 4 ≤ v1 → (PX5_nameOfAlign v1 M (fun z_1 M_2 =>
  (PX5_isWord v0 z_1 M_2 (fun z_3 M_4 =>
  ((z_3 = 0 → (inR (v1 + 1) ∧
  rec (v1 + 1) M_4)) ∧
  (¬ z_3 = 0 → ke18 v1 M_4))))))))
def PX5_takeAlign (v0 : Int) (M : Mm) (Q : Int → Mm → Prop) : Prop :=
  ∃ n_6 : Nat, lp_I (BX5_takeAlign_2 (fun w1_7 M_7 => (∀ M_8 : Mm, M_8 = um M_7 v0 4 w1_7 →
  Q 1 M_8)) Q v0) n_6 0 M
set_option maxHeartbeats 4000000 in
set_option maxRecDepth 100000 in
theorem wX5_takeAlign_2 {p : Program} {l : Launch} {e : Env} {s : State} {m : MethodId} {args : Array Value} {below : List Frame} {meth : Method} {c : Code} {G : GG} (X : Cx p s m args meth c cX5_takeAlign 2 ((some FieldType.boolean)) RX5 G) {Q : Int → Mm → Prop} {ke18 : Int → Mm → Prop} {v0 : Int} (k0 : gK G v0 = (5, 0)) (hke18 : ∀ (v1 : Int) (M : Mm), inR v1 → ke18 v1 M → Wt p l e rmX5_takeAlign s m args below meth c G (MQ below (PostI G Q) args s 0 0 (gA G)) 2 M [(0, rV (v0)), (1, iV (v1))] 18 []) : ∀ (n : Nat) (v1 : Int) (M : Mm), inR v1 → lp_I (BX5_takeAlign_2 ke18 Q v0) n v1 M → Wt p l e rmX5_takeAlign s m args below meth c G (MQ below (PostI G Q) args s 0 0 (gA G)) 2 M [(0, rV (v0)), (1, iV (v1))] 2 [] := by
  have hG := X.2.2.2.2.2.2.2.2
  intro n
  induction n with
  | zero => intro v1 M r1 h; exact h.elim
  | succ n ih =>
    intro v1 M r1 h
    have h : BX5_takeAlign_2 ke18 Q v0 (lp_I (BX5_takeAlign_2 ke18 Q v0) n) v1 M := h
    unfold BX5_takeAlign_2 at h
    refine xt_il X dX5_takeAlign_2 rfl 1 rfl ?_
    refine xt_ic X dX5_takeAlign_3 ?_
    refine xt_cge (tgt := 31) X r1 (i_rc 4 rfl) dX5_takeAlign_4 (by decide) (fun hc => ?_) (fun hc => ?_)
    · have h := h.1 hc
      refine xt_ic X dX5_takeAlign_31 ?_
      exact xt_zret X (Or.inl rfl) h dX5_takeAlign_32
    · have h := h.2 hc
      refine xt_al X dX5_takeAlign_7 rfl 0 rfl ?_
      refine xt_il X dX5_takeAlign_8 rfl 1 rfl ?_
      refine xt_cSS X [iV (v1)] [rV (v0)] (ctX5_nameOfAlign hG r1 h) gdX5_94 pdX5_nameOfAlign ⟨rfl, rfl⟩ ⟨Nat.le_of_ble_eq_true rfl, Nat.le_of_ble_eq_true rfl⟩ rfl (Nat.le_of_ble_eq_true rfl) dX5_takeAlign_9 (fun z_1 M_2 z_1r h => ?_)
      refine xt_cVI X [.ref (gS G (z_1))] [] (ctX5_isWord hG k0 z_1r h) gdX5_97 pdX5_isWord ⟨rfl, rfl⟩ ⟨Nat.le_of_ble_eq_true rfl, Nat.le_of_ble_eq_true rfl⟩ rfl (k_lt k0 (by decide)) (by rw [k0]; rfl) rfl (Nat.le_of_ble_eq_true rfl) dX5_takeAlign_12 (fun z_3 M_4 z_3r h => ?_)
      refine xt_zeq (tgt := 25) X z_3r dX5_takeAlign_15 (by decide) (fun hc => ?_) (fun hc => ?_)
      · have h := h.1 hc
        refine xt_inc (lv2 := [(1, iV (v1 + 1)), (0, rV (v0))]) X dX5_takeAlign_25 1 rfl (by decide) rfl ?_
        refine xt_goto (tgt := 2) X dX5_takeAlign_28 (by decide) ?_
        obtain ⟨g_5, h⟩ := h
        refine xt_perm (lv2 := [(0, rV (v0)), (1, iV (v1 + 1))]) [1, 0] rfl ?_
        exact ih (v1 + 1) M_4 g_5 h
      · have h := h.2 hc
        exact hke18 v1 M_4 r1 h
set_option maxHeartbeats 4000000 in
set_option maxRecDepth 100000 in
theorem ctX5_takeAlign {l : Launch} {G : GG} (hG : Gd G) {v0 : Int} {M : Mm} {Q : Int → Mm → Prop} (k0 : gK G v0 = (5, 0)) (h : PX5_takeAlign v0 M Q) : Met l yX5_takeAlign (Cond.code yX5_takeAlign cX5_takeAlign 2 ((some FieldType.boolean)) :: tw) rmX5_takeAlign (Pre G M [rV (v0)]) (PostI G Q) 0 0 (gA G) := by
  refine met_of (own := RX5) (by decide) rfl hG (Nat.le_of_ble_eq_true rfl) (fun p e s m below meth c X => ?_)
  generalize hargs : ([rV (v0)] : List Value).toArray = args at X ⊢
  show Wt p l e rmX5_takeAlign s m args below meth c G (MQ below (PostI G Q) args s 0 0 (gA G)) 2 M [(0, rV (v0))] 0 []
  unfold PX5_takeAlign at h
  refine xt_ic X dX5_takeAlign_0 ?_
  refine xt_is (lv2 := [(1, iV (0)), (0, rV (v0))]) X dX5_takeAlign_1 rfl (by decide) rfl ?_
  obtain ⟨n_6, h⟩ := h
  refine xt_perm (lv2 := [(0, rV (v0)), (1, iV (0))]) [1, 0] rfl ?_
  refine wX5_takeAlign_2 X k0 (fun w1_7 M_7 r1_7 h => ?_) n_6 0 M (i_rc 0 rfl) h
  refine xt_al X dX5_takeAlign_18 rfl 0 rfl ?_
  refine xt_il X dX5_takeAlign_19 rfl 1 rfl ?_
  refine pfX5_91 X k0 r1_7 dX5_takeAlign_20 (fun M_8 hm => ?_)
  have h := h M_8 hm
  refine xt_ic X dX5_takeAlign_23 ?_
  exact xt_zret X (Or.inr rfl) h dX5_takeAlign_24
abbrev rmX5_takeWord : Room := { frames := 8, cells := 0, slots := 0, locals := 203 }
def PX5_takeWord (v0 : Int) (v1 : Int) (v2 : Int) (M : Mm) (Q : Int → Mm → Prop) : Prop :=
  (((v1 < 110 ∨ 119 < v1) → Q 0 M) ∧
  (v1 = 110 → ((v2 = 0 → (PX5_takeNumber v0 1 M (fun z_4 M_5 =>
  ((z_4 = 0 ∨ z_4 = 1) ∧
  Q z_4 M_5)))) ∧
  (¬ v2 = 0 → (PX5_takeNumber v0 0 M (fun z_1 M_2 =>
  ((z_1 = 0 ∨ z_1 = 1) ∧
  Q z_1 M_2)))))) ∧
  (v1 = 111 → Q 0 M) ∧
  (v1 = 112 → Q 0 M) ∧
  (v1 = 113 → Q 0 M) ∧
  (v1 = 114 → Q 0 M) ∧
  (v1 = 115 → (inR ((M v0 6) - (M v0 5)) ∧
  ((((M v0 6) - (M v0 5)) = 1 → Q 1 M) ∧
  (¬ ((M v0 6) - (M v0 5)) = 1 → Q 0 M)))) ∧
  (v1 = 116 → (inR ((M v0 6) - (M v0 5)) ∧
  ((24 < ((M v0 6) - (M v0 5)) → Q 0 M) ∧
  (¬ 24 < ((M v0 6) - (M v0 5)) → Q 1 M)))) ∧
  (v1 = 117 → Q 0 M) ∧
  (v1 = 118 → Q 0 M) ∧
  (v1 = 119 → (PX5_takeAlign v0 M (fun z_13 M_14 =>
  ((z_13 = 0 ∨ z_13 = 1) ∧
  Q z_13 M_14)))))
set_option maxHeartbeats 4000000 in
set_option maxRecDepth 100000 in
theorem ctX5_takeWord {l : Launch} {G : GG} (hG : Gd G) {v0 : Int} {v1 : Int} {v2 : Int} {M : Mm} {Q : Int → Mm → Prop} (k0 : gK G v0 = (5, 0)) (r1 : inR v1) (r2 : inR v2) (h : PX5_takeWord v0 v1 v2 M Q) : Met l yX5_takeWord (Cond.code yX5_takeWord cX5_takeWord 3 ((some FieldType.boolean)) :: tw) rmX5_takeWord (Pre G M [rV (v0), iV (v1), iV (v2)]) (PostI G Q) 0 0 (gA G) := by
  refine met_of (own := RX5) (by decide) rfl hG (Nat.le_of_ble_eq_true rfl) (fun p e s m below meth c X => ?_)
  generalize hargs : ([rV (v0), iV (v1), iV (v2)] : List Value).toArray = args at X ⊢
  show Wt p l e rmX5_takeWord s m args below meth c G (MQ below (PostI G Q) args s 0 0 (gA G)) 3 M [(0, rV (v0)), (1, iV (v1)), (2, iV (v2))] 0 []
  unfold PX5_takeWord at h
  refine xt_il X dX5_takeWord_0 rfl 1 rfl ?_
  rcases (show (v1 < 110 ∨ 119 < v1) ∨ v1 = 110 ∨ v1 = 111 ∨ v1 = 112 ∨ v1 = 113 ∨ v1 = 114 ∨ v1 = 115 ∨ v1 = 116 ∨ v1 = 117 ∨ v1 = 118 ∨ v1 = 119 by omega) with hc | hc | hc | hc | hc | hc | hc | hc | hc | hc | hc
  · have h := h.1 hc
    refine xt_tout (tgt := 114) X r1 dX5_takeWord_1 hc (by decide) ?_
    refine xt_ic X dX5_takeWord_114 ?_
    exact xt_zret X (Or.inl rfl) h dX5_takeWord_115
  · have h := h.2.1 hc
    refine xt_tin (tgt := 56) X r1 dX5_takeWord_1 110 hc (by decide) (by decide) rfl (by decide) ?_
    refine xt_al X dX5_takeWord_56 rfl 0 rfl ?_
    refine xt_il X dX5_takeWord_57 rfl 2 rfl ?_
    refine xt_zne (tgt := 65) X r2 dX5_takeWord_58 (by decide) (fun hc => ?_) (fun hc => ?_)
    · have h := h.2 hc
      refine xt_ic X dX5_takeWord_65 ?_
      refine xt_cVI X [iV (0)] [] (ctX5_takeNumber hG k0 (i_rc 0 rfl) h) gdX5_78 pdX5_takeNumber ⟨rfl, rfl⟩ ⟨Nat.le_of_ble_eq_true rfl, Nat.le_of_ble_eq_true rfl⟩ rfl (k_lt k0 (by decide)) (by rw [k0]; rfl) rfl (Nat.le_of_ble_eq_true rfl) dX5_takeWord_66 (fun z_1 M_2 z_1r h => ?_)
      obtain ⟨g_3, h⟩ := h
      exact xt_zret X g_3 h dX5_takeWord_69
    · have h := h.1 hc
      refine xt_ic X dX5_takeWord_61 ?_
      refine xt_goto (tgt := 66) X dX5_takeWord_62 (by decide) ?_
      refine xt_cVI X [iV (1)] [] (ctX5_takeNumber hG k0 (i_rc 1 rfl) h) gdX5_78 pdX5_takeNumber ⟨rfl, rfl⟩ ⟨Nat.le_of_ble_eq_true rfl, Nat.le_of_ble_eq_true rfl⟩ rfl (k_lt k0 (by decide)) (by rw [k0]; rfl) rfl (Nat.le_of_ble_eq_true rfl) dX5_takeWord_66 (fun z_4 M_5 z_4r h => ?_)
      obtain ⟨g_6, h⟩ := h
      exact xt_zret X g_6 h dX5_takeWord_69
  · have h := h.2.2.1 hc
    refine xt_tin (tgt := 114) X r1 dX5_takeWord_1 111 hc (by decide) (by decide) rfl (by decide) ?_
    refine xt_ic X dX5_takeWord_114 ?_
    exact xt_zret X (Or.inl rfl) h dX5_takeWord_115
  · have h := h.2.2.2.1 hc
    refine xt_tin (tgt := 114) X r1 dX5_takeWord_1 112 hc (by decide) (by decide) rfl (by decide) ?_
    refine xt_ic X dX5_takeWord_114 ?_
    exact xt_zret X (Or.inl rfl) h dX5_takeWord_115
  · have h := h.2.2.2.2.1 hc
    refine xt_tin (tgt := 114) X r1 dX5_takeWord_1 113 hc (by decide) (by decide) rfl (by decide) ?_
    refine xt_ic X dX5_takeWord_114 ?_
    exact xt_zret X (Or.inl rfl) h dX5_takeWord_115
  · have h := h.2.2.2.2.2.1 hc
    refine xt_tin (tgt := 114) X r1 dX5_takeWord_1 114 hc (by decide) (by decide) rfl (by decide) ?_
    refine xt_ic X dX5_takeWord_114 ?_
    exact xt_zret X (Or.inl rfl) h dX5_takeWord_115
  · have h := h.2.2.2.2.2.2.1 hc
    refine xt_tin (tgt := 75) X r1 dX5_takeWord_1 115 hc (by decide) (by decide) rfl (by decide) ?_
    refine xt_al X dX5_takeWord_75 rfl 0 rfl ?_
    refine gfX5_75 X k0 dX5_takeWord_76 (fun r_7 => ?_)
    refine xt_al X dX5_takeWord_79 rfl 0 rfl ?_
    refine gfX5_45 X k0 dX5_takeWord_80 (fun r_8 => ?_)
    refine xt_sub X dX5_takeWord_83 ?_
    refine xt_ic X dX5_takeWord_84 ?_
    obtain ⟨g_9, h⟩ := h
    refine xt_cne (tgt := 92) X g_9 (i_rc 1 rfl) dX5_takeWord_85 (by decide) (fun hc => ?_) (fun hc => ?_)
    · have h := h.2 hc
      refine xt_ic X dX5_takeWord_92 ?_
      exact xt_zret X (Or.inl rfl) h dX5_takeWord_93
    · have h := h.1 hc
      refine xt_ic X dX5_takeWord_88 ?_
      refine xt_goto (tgt := 93) X dX5_takeWord_89 (by decide) ?_
      exact xt_zret X (Or.inr rfl) h dX5_takeWord_93
  · have h := h.2.2.2.2.2.2.2.1 hc
    refine xt_tin (tgt := 94) X r1 dX5_takeWord_1 116 hc (by decide) (by decide) rfl (by decide) ?_
    refine xt_al X dX5_takeWord_94 rfl 0 rfl ?_
    refine gfX5_75 X k0 dX5_takeWord_95 (fun r_10 => ?_)
    refine xt_al X dX5_takeWord_98 rfl 0 rfl ?_
    refine gfX5_45 X k0 dX5_takeWord_99 (fun r_11 => ?_)
    refine xt_sub X dX5_takeWord_102 ?_
    refine xt_bi X dX5_takeWord_103 (by decide) ?_
    obtain ⟨g_12, h⟩ := h
    refine xt_cgt (tgt := 112) X g_12 (i_rc 24 rfl) dX5_takeWord_105 (by decide) (fun hc => ?_) (fun hc => ?_)
    · have h := h.1 hc
      refine xt_ic X dX5_takeWord_112 ?_
      exact xt_zret X (Or.inl rfl) h dX5_takeWord_113
    · have h := h.2 hc
      refine xt_ic X dX5_takeWord_108 ?_
      refine xt_goto (tgt := 113) X dX5_takeWord_109 (by decide) ?_
      exact xt_zret X (Or.inr rfl) h dX5_takeWord_113
  · have h := h.2.2.2.2.2.2.2.2.1 hc
    refine xt_tin (tgt := 114) X r1 dX5_takeWord_1 117 hc (by decide) (by decide) rfl (by decide) ?_
    refine xt_ic X dX5_takeWord_114 ?_
    exact xt_zret X (Or.inl rfl) h dX5_takeWord_115
  · have h := h.2.2.2.2.2.2.2.2.2.1 hc
    refine xt_tin (tgt := 114) X r1 dX5_takeWord_1 118 hc (by decide) (by decide) rfl (by decide) ?_
    refine xt_ic X dX5_takeWord_114 ?_
    exact xt_zret X (Or.inl rfl) h dX5_takeWord_115
  · have h := h.2.2.2.2.2.2.2.2.2.2 hc
    refine xt_tin (tgt := 70) X r1 dX5_takeWord_1 119 hc (by decide) (by decide) rfl (by decide) ?_
    refine xt_al X dX5_takeWord_70 rfl 0 rfl ?_
    refine xt_cVI X [] [] (ctX5_takeAlign hG k0 h) gdX5_82 pdX5_takeAlign ⟨rfl, rfl⟩ ⟨Nat.le_of_ble_eq_true rfl, Nat.le_of_ble_eq_true rfl⟩ rfl (k_lt k0 (by decide)) (by rw [k0]; rfl) rfl (Nat.le_of_ble_eq_true rfl) dX5_takeWord_71 (fun z_13 M_14 z_13r h => ?_)
    obtain ⟨g_15, h⟩ := h
    exact xt_zret X g_15 h dX5_takeWord_74
abbrev rmX5_readEnd : Room := { frames := 1, cells := 0, slots := 0, locals := 21 }
def JX5_readEnd_29  (Q : Int → Mm → Prop) (v0 : Int) (M : Mm) : Prop :=
  (PX5_failAt v0 (M v0 7) M (fun z_6 M_7 =>
  ((z_6 = 0 ∨ z_6 = 1) ∧
  Q z_6 M_7)))
def PX5_readEnd (v0 : Int) (M : Mm) (Q : Int → Mm → Prop) : Prop :=
  (PX5_skipBlanks v0 M (fun M_2 =>
  (((M_2 v0 1) ≤ (M_2 v0 7) → JX5_readEnd_29  Q v0 M_2) ∧
  (¬ (M_2 v0 1) ≤ (M_2 v0 7) → ((0 ≤ (M_2 v0 7) ∧ (M_2 v0 7) < 150) ∧
  (((M_2 (v0 + 1) (M_2 v0 7)) = 59 → (inR ((M_2 v0 7) + 1) ∧
  (∀ M_13 : Mm, M_13 = um M_2 v0 7 ((M_2 v0 7) + 1) →
  Q 1 M_13))) ∧
  (¬ (M_2 (v0 + 1) (M_2 v0 7)) = 59 → JX5_readEnd_29  Q v0 M_2)))))))
set_option maxHeartbeats 4000000 in
set_option maxRecDepth 100000 in
theorem jX5_readEnd_29 {p : Program} {l : Launch} {e : Env} {s : State} {m : MethodId} {args : Array Value} {below : List Frame} {meth : Method} {c : Code} {G : GG} (X : Cx p s m args meth c cX5_readEnd 1 ((some FieldType.boolean)) RX5 G) {Q : Int → Mm → Prop}  {v0 : Int}  (k0 : gK G v0 = (5, 0)) {M : Mm} (h : JX5_readEnd_29  Q v0 M) : Wt p l e rmX5_readEnd s m args below meth c G (MQ below (PostI G Q) args s 0 0 (gA G)) 1 M [(0, rV (v0))] 29 [] := by
  have hG := X.2.2.2.2.2.2.2.2
  unfold JX5_readEnd_29 at h
  refine xt_al X dX5_readEnd_29 rfl 0 rfl ?_
  refine xt_al X dX5_readEnd_30 rfl 0 rfl ?_
  refine gfX5_15 X k0 dX5_readEnd_31 (fun r_5 => ?_)
  refine xt_cVI X [iV (M v0 7)] [] (ctX5_failAt hG k0 r_5 h) gdX5_48 pdX5_failAt ⟨rfl, rfl⟩ ⟨Nat.le_of_ble_eq_true rfl, Nat.le_of_ble_eq_true rfl⟩ rfl (k_lt k0 (by decide)) (by rw [k0]; rfl) rfl (Nat.le_of_ble_eq_true rfl) dX5_readEnd_34 (fun z_6 M_7 z_6r h => ?_)
  obtain ⟨g_8, h⟩ := h
  exact xt_zret X g_8 h dX5_readEnd_37
set_option maxHeartbeats 4000000 in
set_option maxRecDepth 100000 in
theorem ctX5_readEnd {l : Launch} {G : GG} (hG : Gd G) {v0 : Int} {M : Mm} {Q : Int → Mm → Prop} (k0 : gK G v0 = (5, 0)) (h : PX5_readEnd v0 M Q) : Met l yX5_readEnd (Cond.code yX5_readEnd cX5_readEnd 1 ((some FieldType.boolean)) :: tw) rmX5_readEnd (Pre G M [rV (v0)]) (PostI G Q) 0 0 (gA G) := by
  refine met_of (own := RX5) (by decide) rfl hG (Nat.le_of_ble_eq_true rfl) (fun p e s m below meth c X => ?_)
  generalize hargs : ([rV (v0)] : List Value).toArray = args at X ⊢
  show Wt p l e rmX5_readEnd s m args below meth c G (MQ below (PostI G Q) args s 0 0 (gA G)) 1 M [(0, rV (v0))] 0 []
  unfold PX5_readEnd at h
  refine xt_al X dX5_readEnd_0 rfl 0 rfl ?_
  refine xt_cVV X [] [] (ctX5_skipBlanks hG k0 h) gdX5_29 pdX5_skipBlanks ⟨rfl, rfl⟩ ⟨Nat.le_of_ble_eq_true rfl, Nat.le_of_ble_eq_true rfl⟩ rfl (k_lt k0 (by decide)) (by rw [k0]; rfl) rfl (Nat.le_of_ble_eq_true rfl) dX5_readEnd_1 (fun M_2 h => ?_)
  refine xt_al X dX5_readEnd_4 rfl 0 rfl ?_
  refine gfX5_15 X k0 dX5_readEnd_5 (fun r_3 => ?_)
  refine xt_al X dX5_readEnd_8 rfl 0 rfl ?_
  refine gfX5_32 X k0 dX5_readEnd_9 (fun r_4 => ?_)
  refine xt_cge (tgt := 29) X r_3 r_4 dX5_readEnd_12 (by decide) (fun hc => ?_) (fun hc => ?_)
  · have h := h.1 hc
    exact jX5_readEnd_29 X  k0 h
  · have h := h.2 hc
    refine xt_al X dX5_readEnd_15 rfl 0 rfl ?_
    refine gfX5_9 X k0 dX5_readEnd_16 ?_
    refine xt_al X dX5_readEnd_19 rfl 0 rfl ?_
    refine gfX5_15 X k0 dX5_readEnd_20 (fun r_9 => ?_)
    obtain ⟨g_10, h⟩ := h
    refine xt_iald X (kd_X5_0 hG k0) g_10 (by decide) dX5_readEnd_23 (fun r_11 => ?_)
    refine xt_bi X dX5_readEnd_24 (by decide) ?_
    refine xt_ceq (tgt := 38) X r_11 (i_rc 59 rfl) dX5_readEnd_26 (by decide) (fun hc => ?_) (fun hc => ?_)
    · have h := h.1 hc
      refine xt_al X dX5_readEnd_38 rfl 0 rfl ?_
      refine xt_dup X rfl dX5_readEnd_39 ?_
      refine gfX5_15 X k0 dX5_readEnd_40 (fun r_12 => ?_)
      refine xt_ic X dX5_readEnd_43 ?_
      refine xt_add X dX5_readEnd_44 ?_
      obtain ⟨g_14, h⟩ := h
      refine pfX5_15 X k0 g_14 dX5_readEnd_45 (fun M_13 hm => ?_)
      have h := h M_13 hm
      refine xt_ic X dX5_readEnd_48 ?_
      exact xt_zret X (Or.inr rfl) h dX5_readEnd_49
    · have h := h.2 hc
      exact jX5_readEnd_29 X  k0 h
abbrev rmX5_readCommand : Room := { frames := 9, cells := 0, slots := 0, locals := 225 }
def BX5_readCommand_58 (ke88 : Mm → Prop) (Q : Int → Mm → Prop) (v0 : Int) (v1 : Nat) (rec : Int → Mm → Prop) (v2 : Int) (M : Mm) : Prop :=
  (((sLen v1) ≤ v2 → (PX5_readEnd v0 M (fun z_15 M_16 =>
  ((z_15 = 0 ∨ z_15 = 1) ∧
  Q z_15 M_16)))) ∧
  (¬ (sLen v1) ≤ v2 → (PX5_readWord v0 M (fun z_18 M_19 =>
  ((z_18 = 0 → Q 0 M_19) ∧
  (¬ z_18 = 0 → ((0 ≤ v2 ∧ v2 < sLen v1) ∧
  (PX5_takeWord v0 (sCh v1 v2) v2 M_19 (fun z_22 M_23 =>
  ((z_22 = 0 → ke88 M_23) ∧
  (¬ z_22 = 0 → (inR (v2 + 1) ∧
  rec (v2 + 1) M_23))))))))))))
def PX5_readCommand (v0 : Int) (M : Mm) (Q : Int → Mm → Prop) : Prop :=
  (PX5_skipBlanks v0 M (fun M_2 =>
  (((M_2 v0 1) ≤ (M_2 v0 7) → Q 0 M_2) ∧
  (¬ (M_2 v0 1) ≤ (M_2 v0 7) → (PX5_readWord v0 M_2 (fun z_5 M_6 =>
  ((z_5 = 0 → Q 0 M_6) ∧
  (¬ z_5 = 0 → (PX5_verbOfWord v0 M_6 (fun z_7 M_8 =>
  (∀ M_9 : Mm, M_9 = um M_8 v0 2 z_7 →
  ((0 ≤ (M_9 v0 2) → (PX5_shapeOf (M_9 v0 2) M_9 (fun z_12 M_13 =>
  ∃ n_25 : Nat, lp_I (BX5_readCommand_58 (fun M_26 => (PX5_failAt v0 (M_26 v0 5) M_26 (fun z_28 M_29 =>
  ((z_28 = 0 ∨ z_28 = 1) ∧
  Q z_28 M_29)))) Q v0 z_12) n_25 0 M_13))) ∧
  (¬ 0 ≤ (M_9 v0 2) → (PX5_failAt v0 (M_9 v0 5) M_9 (fun z_32 M_33 =>
  ((z_32 = 0 ∨ z_32 = 1) ∧
  Q z_32 M_33))))))))))))))))
set_option maxHeartbeats 4000000 in
set_option maxRecDepth 100000 in
theorem wX5_readCommand_58 {p : Program} {l : Launch} {e : Env} {s : State} {m : MethodId} {args : Array Value} {below : List Frame} {meth : Method} {c : Code} {G : GG} (X : Cx p s m args meth c cX5_readCommand 3 ((some FieldType.boolean)) RX5 G) {Q : Int → Mm → Prop} {ke88 : Mm → Prop} {v0 : Int} {v1 : Nat} (k0 : gK G v0 = (5, 0)) (l1 : v1 < 18) (hke88 : ∀ (M : Mm), ke88  M → Wt p l e rmX5_readCommand s m args below meth c G (MQ below (PostI G Q) args s 0 0 (gA G)) 3 M [(0, rV (v0))] 88 []) : ∀ (n : Nat) (v2 : Int) (M : Mm), inR v2 → lp_I (BX5_readCommand_58 ke88 Q v0 v1) n v2 M → Wt p l e rmX5_readCommand s m args below meth c G (MQ below (PostI G Q) args s 0 0 (gA G)) 3 M [(0, rV (v0)), (1, .ref (gS G (v1))), (2, iV (v2))] 58 [] := by
  have hG := X.2.2.2.2.2.2.2.2
  intro n
  induction n with
  | zero => intro v2 M r2 h; exact h.elim
  | succ n ih =>
    intro v2 M r2 h
    have h : BX5_readCommand_58 ke88 Q v0 v1 (lp_I (BX5_readCommand_58 ke88 Q v0 v1) n) v2 M := h
    unfold BX5_readCommand_58 at h
    refine xt_il X dX5_readCommand_58 rfl 2 rfl ?_
    refine xt_als X dX5_readCommand_59 rfl 1 rfl ?_
    refine xt_slen X l1 [iV (v2)] rfl (Nat.le_of_ble_eq_true rfl) mlX5_56 ⟨Nat.le_of_ble_eq_true rfl, Nat.le_of_ble_eq_true rfl⟩ dX5_readCommand_60 (fun r_14 => ?_)
    refine xt_cge (tgt := 103) X r2 r_14 dX5_readCommand_63 (by decide) (fun hc => ?_) (fun hc => ?_)
    · have h := h.1 hc
      refine xt_al X dX5_readCommand_103 rfl 0 rfl ?_
      refine xt_cVI X [] [] (ctX5_readEnd hG k0 h) gdX5_69 pdX5_readEnd ⟨rfl, rfl⟩ ⟨Nat.le_of_ble_eq_true rfl, Nat.le_of_ble_eq_true rfl⟩ rfl (k_lt k0 (by decide)) (by rw [k0]; rfl) rfl (Nat.le_of_ble_eq_true rfl) dX5_readCommand_104 (fun z_15 M_16 z_15r h => ?_)
      obtain ⟨g_17, h⟩ := h
      exact xt_zret X g_17 h dX5_readCommand_107
    · have h := h.2 hc
      refine xt_al X dX5_readCommand_66 rfl 0 rfl ?_
      refine xt_cVI X [] [] (ctX5_readWord hG k0 h) gdX5_35 pdX5_readWord ⟨rfl, rfl⟩ ⟨Nat.le_of_ble_eq_true rfl, Nat.le_of_ble_eq_true rfl⟩ rfl (k_lt k0 (by decide)) (by rw [k0]; rfl) rfl (Nat.le_of_ble_eq_true rfl) dX5_readCommand_67 (fun z_18 M_19 z_18r h => ?_)
      refine xt_zne (tgt := 75) X z_18r dX5_readCommand_70 (by decide) (fun hc => ?_) (fun hc => ?_)
      · have h := h.2 hc
        refine xt_al X dX5_readCommand_75 rfl 0 rfl ?_
        refine xt_als X dX5_readCommand_76 rfl 1 rfl ?_
        refine xt_il X dX5_readCommand_77 rfl 2 rfl ?_
        obtain ⟨g_20, h⟩ := h
        refine xt_schar X l1 g_20 [rV (v0)] rfl (Nat.le_of_ble_eq_true rfl) mlX5_61 ⟨Nat.le_of_ble_eq_true rfl, Nat.le_of_ble_eq_true rfl⟩ dX5_readCommand_78 (fun r_21 => ?_)
        refine xt_il X dX5_readCommand_81 rfl 2 rfl ?_
        refine xt_cVI X [iV (sCh v1 v2), iV (v2)] [] (ctX5_takeWord hG k0 r_21 r2 h) gdX5_65 pdX5_takeWord ⟨rfl, rfl⟩ ⟨Nat.le_of_ble_eq_true rfl, Nat.le_of_ble_eq_true rfl⟩ rfl (k_lt k0 (by decide)) (by rw [k0]; rfl) rfl (Nat.le_of_ble_eq_true rfl) dX5_readCommand_82 (fun z_22 M_23 z_22r h => ?_)
        refine xt_zne (tgt := 97) X z_22r dX5_readCommand_85 (by decide) (fun hc => ?_) (fun hc => ?_)
        · have h := h.2 hc
          refine xt_inc (lv2 := [(2, iV (v2 + 1)), (0, rV (v0)), (1, .ref (gS G (v1)))]) X dX5_readCommand_97 2 rfl (by decide) rfl ?_
          refine xt_goto (tgt := 58) X dX5_readCommand_100 (by decide) ?_
          obtain ⟨g_24, h⟩ := h
          refine xt_perm (lv2 := [(0, rV (v0)), (1, .ref (gS G (v1))), (2, iV (v2 + 1))]) [1, 2, 0] rfl ?_
          exact ih (v2 + 1) M_23 g_24 h
        · have h := h.1 hc
          refine xt_perm (lv2 := [(0, rV (v0))]) [0] rfl ?_
          exact hke88 M_23  h
      · have h := h.1 hc
        refine xt_ic X dX5_readCommand_73 ?_
        exact xt_zret X (Or.inl rfl) h dX5_readCommand_74
set_option maxHeartbeats 4000000 in
set_option maxRecDepth 100000 in
theorem ctX5_readCommand {l : Launch} {G : GG} (hG : Gd G) {v0 : Int} {M : Mm} {Q : Int → Mm → Prop} (k0 : gK G v0 = (5, 0)) (h : PX5_readCommand v0 M Q) : Met l yX5_readCommand (Cond.code yX5_readCommand cX5_readCommand 3 ((some FieldType.boolean)) :: tw) rmX5_readCommand (Pre G M [rV (v0)]) (PostI G Q) 0 0 (gA G) := by
  refine met_of (own := RX5) (by decide) rfl hG (Nat.le_of_ble_eq_true rfl) (fun p e s m below meth c X => ?_)
  generalize hargs : ([rV (v0)] : List Value).toArray = args at X ⊢
  show Wt p l e rmX5_readCommand s m args below meth c G (MQ below (PostI G Q) args s 0 0 (gA G)) 3 M [(0, rV (v0))] 0 []
  unfold PX5_readCommand at h
  refine xt_al X dX5_readCommand_0 rfl 0 rfl ?_
  refine xt_cVV X [] [] (ctX5_skipBlanks hG k0 h) gdX5_29 pdX5_skipBlanks ⟨rfl, rfl⟩ ⟨Nat.le_of_ble_eq_true rfl, Nat.le_of_ble_eq_true rfl⟩ rfl (k_lt k0 (by decide)) (by rw [k0]; rfl) rfl (Nat.le_of_ble_eq_true rfl) dX5_readCommand_1 (fun M_2 h => ?_)
  refine xt_al X dX5_readCommand_4 rfl 0 rfl ?_
  refine gfX5_15 X k0 dX5_readCommand_5 (fun r_3 => ?_)
  refine xt_al X dX5_readCommand_8 rfl 0 rfl ?_
  refine gfX5_32 X k0 dX5_readCommand_9 (fun r_4 => ?_)
  refine xt_cge (tgt := 22) X r_3 r_4 dX5_readCommand_12 (by decide) (fun hc => ?_) (fun hc => ?_)
  · have h := h.1 hc
    refine xt_ic X dX5_readCommand_22 ?_
    exact xt_zret X (Or.inl rfl) h dX5_readCommand_23
  · have h := h.2 hc
    refine xt_al X dX5_readCommand_15 rfl 0 rfl ?_
    refine xt_cVI X [] [] (ctX5_readWord hG k0 h) gdX5_35 pdX5_readWord ⟨rfl, rfl⟩ ⟨Nat.le_of_ble_eq_true rfl, Nat.le_of_ble_eq_true rfl⟩ rfl (k_lt k0 (by decide)) (by rw [k0]; rfl) rfl (Nat.le_of_ble_eq_true rfl) dX5_readCommand_16 (fun z_5 M_6 z_5r h => ?_)
    refine xt_zne (tgt := 24) X z_5r dX5_readCommand_19 (by decide) (fun hc => ?_) (fun hc => ?_)
    · have h := h.2 hc
      refine xt_al X dX5_readCommand_24 rfl 0 rfl ?_
      refine xt_al X dX5_readCommand_25 rfl 0 rfl ?_
      refine xt_cVI X [] [rV (v0)] (ctX5_verbOfWord hG k0 h) gdX5_38 pdX5_verbOfWord ⟨rfl, rfl⟩ ⟨Nat.le_of_ble_eq_true rfl, Nat.le_of_ble_eq_true rfl⟩ rfl (k_lt k0 (by decide)) (by rw [k0]; rfl) rfl (Nat.le_of_ble_eq_true rfl) dX5_readCommand_26 (fun z_7 M_8 z_7r h => ?_)
      refine pfX5_42 X k0 z_7r dX5_readCommand_29 (fun M_9 hm => ?_)
      have h := h M_9 hm
      refine xt_al X dX5_readCommand_32 rfl 0 rfl ?_
      refine gfX5_42 X k0 dX5_readCommand_33 (fun r_10 => ?_)
      refine xt_zge (tgt := 48) X r_10 dX5_readCommand_36 (by decide) (fun hc => ?_) (fun hc => ?_)
      · have h := h.1 hc
        refine xt_al X dX5_readCommand_48 rfl 0 rfl ?_
        refine gfX5_42 X k0 dX5_readCommand_49 (fun r_11 => ?_)
        refine xt_cSS X [iV (M_9 v0 2)] [] (ctX5_shapeOf hG r_11 h) gdX5_52 pdX5_shapeOf ⟨rfl, rfl⟩ ⟨Nat.le_of_ble_eq_true rfl, Nat.le_of_ble_eq_true rfl⟩ rfl (Nat.le_of_ble_eq_true rfl) dX5_readCommand_52 (fun z_12 M_13 z_12r h => ?_)
        refine xt_ass (lv2 := [(1, .ref (gS G (z_12))), (0, rV (v0))]) X dX5_readCommand_55 rfl (by decide) rfl ?_
        refine xt_ic X dX5_readCommand_56 ?_
        refine xt_is (lv2 := [(2, iV (0)), (1, .ref (gS G (z_12))), (0, rV (v0))]) X dX5_readCommand_57 rfl (by decide) rfl ?_
        obtain ⟨n_25, h⟩ := h
        refine xt_perm (lv2 := [(0, rV (v0)), (1, .ref (gS G (z_12))), (2, iV (0))]) [2, 1, 0] rfl ?_
        refine wX5_readCommand_58 X k0 z_12r (fun M_26 h => ?_) n_25 0 M_13 (i_rc 0 rfl) h
        refine xt_al X dX5_readCommand_88 rfl 0 rfl ?_
        refine xt_al X dX5_readCommand_89 rfl 0 rfl ?_
        refine gfX5_45 X k0 dX5_readCommand_90 (fun r_27 => ?_)
        refine xt_cVI X [iV (M_26 v0 5)] [] (ctX5_failAt hG k0 r_27 h) gdX5_48 pdX5_failAt ⟨rfl, rfl⟩ ⟨Nat.le_of_ble_eq_true rfl, Nat.le_of_ble_eq_true rfl⟩ rfl (k_lt k0 (by decide)) (by rw [k0]; rfl) rfl (Nat.le_of_ble_eq_true rfl) dX5_readCommand_93 (fun z_28 M_29 z_28r h => ?_)
        obtain ⟨g_30, h⟩ := h
        exact xt_zret X g_30 h dX5_readCommand_96
      · have h := h.2 hc
        refine xt_al X dX5_readCommand_39 rfl 0 rfl ?_
        refine xt_al X dX5_readCommand_40 rfl 0 rfl ?_
        refine gfX5_45 X k0 dX5_readCommand_41 (fun r_31 => ?_)
        refine xt_cVI X [iV (M_9 v0 5)] [] (ctX5_failAt hG k0 r_31 h) gdX5_48 pdX5_failAt ⟨rfl, rfl⟩ ⟨Nat.le_of_ble_eq_true rfl, Nat.le_of_ble_eq_true rfl⟩ rfl (k_lt k0 (by decide)) (by rw [k0]; rfl) rfl (Nat.le_of_ble_eq_true rfl) dX5_readCommand_44 (fun z_32 M_33 z_32r h => ?_)
        obtain ⟨g_34, h⟩ := h
        exact xt_zret X g_34 h dX5_readCommand_47
    · have h := h.1 hc
      refine xt_ic X dX5_readCommand_22 ?_
      exact xt_zret X (Or.inl rfl) h dX5_readCommand_23
abbrev rmX5_firstFault : Room := { frames := 10, cells := 0, slots := 0, locals := 247 }
def BX5_firstFault_6  (Q : Int → Mm → Prop) (v0 : Int) (rec : Int → Mm → Prop) (v1 : Int) (M : Mm) : Prop :=
  ((150 ≤ v1 → Q (M v0 8) M) ∧
  (¬ 150 ≤ v1 → (PX5_readCommand v0 M (fun z_4 M_5 =>
  ((z_4 = 0 → Q (M_5 v0 8) M_5) ∧
  (¬ z_4 = 0 → (inR (v1 + 1) ∧
  rec (v1 + 1) M_5)))))))
def PX5_firstFault (v0 : Int) (M : Mm) (Q : Int → Mm → Prop) : Prop :=
  (PX5_rewind v0 M (fun M_2 =>
  ∃ n_8 : Nat, lp_I (BX5_firstFault_6  Q v0) n_8 0 M_2))
set_option maxHeartbeats 4000000 in
set_option maxRecDepth 100000 in
theorem wX5_firstFault_6 {p : Program} {l : Launch} {e : Env} {s : State} {m : MethodId} {args : Array Value} {below : List Frame} {meth : Method} {c : Code} {G : GG} (X : Cx p s m args meth c cX5_firstFault 2 ((some FieldType.int)) RX5 G) {Q : Int → Mm → Prop}  {v0 : Int} (k0 : gK G v0 = (5, 0))  : ∀ (n : Nat) (v1 : Int) (M : Mm), inR v1 → lp_I (BX5_firstFault_6  Q v0) n v1 M → Wt p l e rmX5_firstFault s m args below meth c G (MQ below (PostI G Q) args s 0 0 (gA G)) 2 M [(0, rV (v0)), (1, iV (v1))] 6 [] := by
  have hG := X.2.2.2.2.2.2.2.2
  intro n
  induction n with
  | zero => intro v1 M r1 h; exact h.elim
  | succ n ih =>
    intro v1 M r1 h
    have h : BX5_firstFault_6  Q v0 (lp_I (BX5_firstFault_6  Q v0) n) v1 M := h
    unfold BX5_firstFault_6 at h
    refine xt_il X dX5_firstFault_6 rfl 1 rfl ?_
    refine xt_si X dX5_firstFault_7 (by decide) ?_
    refine xt_cge (tgt := 26) X r1 (i_rc 150 rfl) dX5_firstFault_10 (by decide) (fun hc => ?_) (fun hc => ?_)
    · have h := h.1 hc
      refine xt_al X dX5_firstFault_26 rfl 0 rfl ?_
      refine gfX5_19 X k0 dX5_firstFault_27 (fun r_3 => ?_)
      exact xt_iret X r_3 h dX5_firstFault_30
    · have h := h.2 hc
      refine xt_al X dX5_firstFault_13 rfl 0 rfl ?_
      refine xt_cVI X [] [] (ctX5_readCommand hG k0 h) gdX5_25 pdX5_readCommand ⟨rfl, rfl⟩ ⟨Nat.le_of_ble_eq_true rfl, Nat.le_of_ble_eq_true rfl⟩ rfl (k_lt k0 (by decide)) (by rw [k0]; rfl) rfl (Nat.le_of_ble_eq_true rfl) dX5_firstFault_14 (fun z_4 M_5 z_4r h => ?_)
      refine xt_zeq (tgt := 26) X z_4r dX5_firstFault_17 (by decide) (fun hc => ?_) (fun hc => ?_)
      · have h := h.1 hc
        refine xt_al X dX5_firstFault_26 rfl 0 rfl ?_
        refine gfX5_19 X k0 dX5_firstFault_27 (fun r_6 => ?_)
        exact xt_iret X r_6 h dX5_firstFault_30
      · have h := h.2 hc
        refine xt_inc (lv2 := [(1, iV (v1 + 1)), (0, rV (v0))]) X dX5_firstFault_20 1 rfl (by decide) rfl ?_
        refine xt_goto (tgt := 6) X dX5_firstFault_23 (by decide) ?_
        obtain ⟨g_7, h⟩ := h
        refine xt_perm (lv2 := [(0, rV (v0)), (1, iV (v1 + 1))]) [1, 0] rfl ?_
        exact ih (v1 + 1) M_5 g_7 h
set_option maxHeartbeats 4000000 in
set_option maxRecDepth 100000 in
theorem ctX5_firstFault {l : Launch} {G : GG} (hG : Gd G) {v0 : Int} {M : Mm} {Q : Int → Mm → Prop} (k0 : gK G v0 = (5, 0)) (h : PX5_firstFault v0 M Q) : Met l yX5_firstFault (Cond.code yX5_firstFault cX5_firstFault 2 ((some FieldType.int)) :: tw) rmX5_firstFault (Pre G M [rV (v0)]) (PostI G Q) 0 0 (gA G) := by
  refine met_of (own := RX5) (by decide) rfl hG (Nat.le_of_ble_eq_true rfl) (fun p e s m below meth c X => ?_)
  generalize hargs : ([rV (v0)] : List Value).toArray = args at X ⊢
  show Wt p l e rmX5_firstFault s m args below meth c G (MQ below (PostI G Q) args s 0 0 (gA G)) 2 M [(0, rV (v0))] 0 []
  unfold PX5_firstFault at h
  refine xt_al X dX5_firstFault_0 rfl 0 rfl ?_
  refine xt_cVV X [] [] (ctX5_rewind hG k0 h) gdX5_22 pdX5_rewind ⟨rfl, rfl⟩ ⟨Nat.le_of_ble_eq_true rfl, Nat.le_of_ble_eq_true rfl⟩ rfl (k_lt k0 (by decide)) (by rw [k0]; rfl) rfl (Nat.le_of_ble_eq_true rfl) dX5_firstFault_1 (fun M_2 h => ?_)
  refine xt_ic X dX5_firstFault_4 ?_
  refine xt_is (lv2 := [(1, iV (0)), (0, rV (v0))]) X dX5_firstFault_5 rfl (by decide) rfl ?_
  obtain ⟨n_8, h⟩ := h
  refine xt_perm (lv2 := [(0, rV (v0)), (1, iV (0))]) [1, 0] rfl ?_
  refine wX5_firstFault_6 X k0  n_8 0 M_2 (i_rc 0 rfl) h
abbrev rmX5_isLoneDash : Room := { frames := 0, cells := 0, slots := 0, locals := 0 }
def JX5_isLoneDash_31  (Q : Int → Mm → Prop)  (M : Mm) : Prop :=
  Q 0 M
def PX5_isLoneDash (v0 : Int) (M : Mm) (Q : Int → Mm → Prop) : Prop :=
  (inR ((M v0 6) - (M v0 5)) ∧
  ((((M v0 6) - (M v0 5)) = 1 → ((0 ≤ (M v0 5) ∧ (M v0 5) < 150) ∧
  (((M (v0 + 1) (M v0 5)) = 45 → Q 1 M) ∧
  (¬ (M (v0 + 1) (M v0 5)) = 45 → JX5_isLoneDash_31  Q M)))) ∧
  (¬ ((M v0 6) - (M v0 5)) = 1 → JX5_isLoneDash_31  Q M)))
set_option maxHeartbeats 4000000 in
set_option maxRecDepth 100000 in
theorem jX5_isLoneDash_31 {p : Program} {l : Launch} {e : Env} {s : State} {m : MethodId} {args : Array Value} {below : List Frame} {meth : Method} {c : Code} {G : GG} (X : Cx p s m args meth c cX5_isLoneDash 1 ((some FieldType.boolean)) RX5 G) {Q : Int → Mm → Prop}     {M : Mm} (h : JX5_isLoneDash_31  Q  M) : Wt p l e rmX5_isLoneDash s m args below meth c G (MQ below (PostI G Q) args s 0 0 (gA G)) 1 M [] 31 [] := by
  have hG := X.2.2.2.2.2.2.2.2
  unfold JX5_isLoneDash_31 at h
  refine xt_ic X dX5_isLoneDash_31 ?_
  exact xt_zret X (Or.inl rfl) h dX5_isLoneDash_32
set_option maxHeartbeats 4000000 in
set_option maxRecDepth 100000 in
theorem ctX5_isLoneDash {l : Launch} {G : GG} (hG : Gd G) {v0 : Int} {M : Mm} {Q : Int → Mm → Prop} (k0 : gK G v0 = (5, 0)) (h : PX5_isLoneDash v0 M Q) : Met l yX5_isLoneDash (Cond.code yX5_isLoneDash cX5_isLoneDash 1 ((some FieldType.boolean)) :: tw) rmX5_isLoneDash (Pre G M [rV (v0)]) (PostI G Q) 0 0 (gA G) := by
  refine met_of (own := RX5) (by decide) rfl hG (Nat.le_of_ble_eq_true rfl) (fun p e s m below meth c X => ?_)
  generalize hargs : ([rV (v0)] : List Value).toArray = args at X ⊢
  show Wt p l e rmX5_isLoneDash s m args below meth c G (MQ below (PostI G Q) args s 0 0 (gA G)) 1 M [(0, rV (v0))] 0 []
  unfold PX5_isLoneDash at h
  refine xt_al X dX5_isLoneDash_0 rfl 0 rfl ?_
  refine gfX5_75 X k0 dX5_isLoneDash_1 (fun r_1 => ?_)
  refine xt_al X dX5_isLoneDash_4 rfl 0 rfl ?_
  refine gfX5_45 X k0 dX5_isLoneDash_5 (fun r_2 => ?_)
  refine xt_sub X dX5_isLoneDash_8 ?_
  refine xt_ic X dX5_isLoneDash_9 ?_
  obtain ⟨g_3, h⟩ := h
  refine xt_cne (tgt := 31) X g_3 (i_rc 1 rfl) dX5_isLoneDash_10 (by decide) (fun hc => ?_) (fun hc => ?_)
  · have h := h.2 hc
    refine xt_perm (lv2 := []) [] rfl ?_
    exact jX5_isLoneDash_31 X   h
  · have h := h.1 hc
    refine xt_al X dX5_isLoneDash_13 rfl 0 rfl ?_
    refine gfX5_9 X k0 dX5_isLoneDash_14 ?_
    refine xt_al X dX5_isLoneDash_17 rfl 0 rfl ?_
    refine gfX5_45 X k0 dX5_isLoneDash_18 (fun r_4 => ?_)
    obtain ⟨g_5, h⟩ := h
    refine xt_iald X (kd_X5_0 hG k0) g_5 (by decide) dX5_isLoneDash_21 (fun r_6 => ?_)
    refine xt_bi X dX5_isLoneDash_22 (by decide) ?_
    refine xt_cne (tgt := 31) X r_6 (i_rc 45 rfl) dX5_isLoneDash_24 (by decide) (fun hc => ?_) (fun hc => ?_)
    · have h := h.2 hc
      refine xt_perm (lv2 := []) [] rfl ?_
      exact jX5_isLoneDash_31 X   h
    · have h := h.1 hc
      refine xt_ic X dX5_isLoneDash_27 ?_
      refine xt_goto (tgt := 32) X dX5_isLoneDash_28 (by decide) ?_
      exact xt_zret X (Or.inr rfl) h dX5_isLoneDash_32
