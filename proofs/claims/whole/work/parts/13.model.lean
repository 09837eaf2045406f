abbrev rmX7_in : Room := { frames := 0, cells := 0, slots := 0, locals := 0 }
def JX7_in_14  (Q : Int → Mm → Prop)  (M : Mm) : Prop :=
  Q 0 M
def PX7_in (v0 : Int) (v1 : Int) (v2 : Int) (M : Mm) (Q : Int → Mm → Prop) : Prop :=
  ((v0 < v1 → JX7_in_14  Q M) ∧
  (¬ v0 < v1 → ((v2 < v0 → JX7_in_14  Q M) ∧
  (¬ v2 < v0 → Q 1 M))))
set_option maxHeartbeats 4000000 in
set_option maxRecDepth 100000 in
theorem jX7_in_14 {p : Program} {l : Launch} {e : Env} {s : State} {m : MethodId} {args : Array Value} {below : List Frame} {meth : Method} {c : Code} {G : GG} (X : Cx p s m args meth c cX7_in 3 ((some FieldType.boolean)) RX7 G) {Q : Int → Mm → Prop}     {M : Mm} (h : JX7_in_14  Q  M) : Wt p l e rmX7_in s m args below meth c G (MQ below (PostI G Q) args s 0 0 (gA G)) 3 M [] 14 [] := by
  have hG := X.2.2.2.2.2.2.2.2
  unfold JX7_in_14 at h
  refine xt_ic X dX7_in_14 ?_
  exact xt_zret X (Or.inl rfl) h dX7_in_15
set_option maxHeartbeats 4000000 in
set_option maxRecDepth 100000 in
theorem ctX7_in {l : Launch} {G : GG} (hG : Gd G) {v0 : Int} {v1 : Int} {v2 : Int} {M : Mm} {Q : Int → Mm → Prop} (r0 : inR v0) (r1 : inR v1) (r2 : inR v2) (h : PX7_in v0 v1 v2 M Q) : Met l yX7_in (Cond.code yX7_in cX7_in 3 ((some FieldType.boolean)) :: tw) rmX7_in (Pre G M [iV (v0), iV (v1), iV (v2)]) (PostI G Q) 0 0 (gA G) := by
  refine met_of (own := RX7) (by decide) rfl hG (Nat.le_of_ble_eq_true rfl) (fun p e s m below meth c X => ?_)
  generalize hargs : ([iV (v0), iV (v1), iV (v2)] : List Value).toArray = args at X ⊢
  show Wt p l e rmX7_in s m args below meth c G (MQ below (PostI G Q) args s 0 0 (gA G)) 3 M [(0, iV (v0)), (1, iV (v1)), (2, iV (v2))] 0 []
  unfold PX7_in at h
  refine xt_il X dX7_in_0 rfl 0 rfl ?_
  refine xt_il X dX7_in_1 rfl 1 rfl ?_
  refine xt_clt (tgt := 14) X r0 r1 dX7_in_2 (by decide) (fun hc => ?_) (fun hc => ?_)
  · have h := h.1 hc
    refine xt_perm (lv2 := []) [] rfl ?_
    exact jX7_in_14 X   h
  · have h := h.2 hc
    refine xt_il X dX7_in_5 rfl 0 rfl ?_
    refine xt_il X dX7_in_6 rfl 2 rfl ?_
    refine xt_cgt (tgt := 14) X r0 r2 dX7_in_7 (by decide) (fun hc => ?_) (fun hc => ?_)
    · have h := h.1 hc
      refine xt_perm (lv2 := []) [] rfl ?_
      exact jX7_in_14 X   h
    · have h := h.2 hc
      refine xt_ic X dX7_in_10 ?_
      refine xt_goto (tgt := 15) X dX7_in_11 (by decide) ?_
      exact xt_zret X (Or.inr rfl) h dX7_in_15
abbrev rmX7_copies : Room := { frames := 0, cells := 0, slots := 0, locals := 0 }
def BX7_copies_2  (Q : Mm → Prop) (v0 : Int) (v1 : Int) (rec : Int → Mm → Prop) (v2 : Int) (M : Mm) : Prop :=
  ((327 ≤ v2 → Q M) ∧
  (¬ 327 ≤ v2 → ((0 ≤ v2 ∧ v2 < 327) ∧
  ((0 ≤ v2 ∧ v2 < 327) ∧
  (∀ M_4 : Mm, M_4 = um M v1 v2 (M v0 v2) →
  (inR (v2 + 1) ∧
  rec (v2 + 1) M_4))))))
def PX7_copies (v0 : Int) (v1 : Int) (M : Mm) (Q : Mm → Prop) : Prop :=
  ∃ n_6 : Nat, lp_I (BX7_copies_2  Q v0 v1) n_6 0 M
set_option maxHeartbeats 4000000 in
set_option maxRecDepth 100000 in
theorem wX7_copies_2 {p : Program} {l : Launch} {e : Env} {s : State} {m : MethodId} {args : Array Value} {below : List Frame} {meth : Method} {c : Code} {G : GG} (X : Cx p s m args meth c cX7_copies 3 (none) RX7 G) {Q : Mm → Prop}  {v0 : Int} {v1 : Int} (k0 : gK G v0 = (8, 327)) (k1 : gK G v1 = (8, 327))  : ∀ (n : Nat) (v2 : Int) (M : Mm), inR v2 → lp_I (BX7_copies_2  Q v0 v1) n v2 M → Wt p l e rmX7_copies s m args below meth c G (MQ below (PostV G Q) args s 0 0 (gA G)) 3 M [(0, rV (v0)), (1, rV (v1)), (2, iV (v2))] 2 [] := by
  have hG := X.2.2.2.2.2.2.2.2
  intro n
  induction n with
  | zero => intro v2 M r2 h; exact h.elim
  | succ n ih =>
    intro v2 M r2 h
    have h : BX7_copies_2  Q v0 v1 (lp_I (BX7_copies_2  Q v0 v1) n) v2 M := h
    unfold BX7_copies_2 at h
    refine xt_il X dX7_copies_2 rfl 2 rfl ?_
    refine xt_si X dX7_copies_3 (by decide) ?_
    refine xt_cge (tgt := 21) X r2 (i_rc 327 rfl) dX7_copies_6 (by decide) (fun hc => ?_) (fun hc => ?_)
    · have h := h.1 hc
      exact xt_vret X h dX7_copies_21
    · have h := h.2 hc
      refine xt_al X dX7_copies_9 rfl 1 rfl ?_
      refine xt_il X dX7_copies_10 rfl 2 rfl ?_
      refine xt_al X dX7_copies_11 rfl 0 rfl ?_
      refine xt_il X dX7_copies_12 rfl 2 rfl ?_
      obtain ⟨g_1, h⟩ := h
      refine xt_iald X k0 g_1 (by decide) dX7_copies_13 (fun r_2 => ?_)
      obtain ⟨g_3, h⟩ := h
      refine xt_iast X k1 g_3 (by decide) r_2 dX7_copies_14 (fun M_4 hm => ?_)
      have h := h M_4 hm
      refine xt_inc (lv2 := [(2, iV (v2 + 1)), (0, rV (v0)), (1, rV (v1))]) X dX7_copies_15 2 rfl (by decide) rfl ?_
      refine xt_goto (tgt := 2) X dX7_copies_18 (by decide) ?_
      obtain ⟨g_5, h⟩ := h
      refine xt_perm (lv2 := [(0, rV (v0)), (1, rV (v1)), (2, iV (v2 + 1))]) [1, 2, 0] rfl ?_
      exact ih (v2 + 1) M_4 g_5 h
set_option maxHeartbeats 4000000 in
set_option maxRecDepth 100000 in
theorem ctX7_copies {l : Launch} {G : GG} (hG : Gd G) {v0 : Int} {v1 : Int} {M : Mm} {Q : Mm → Prop} (k0 : gK G v0 = (8, 327)) (k1 : gK G v1 = (8, 327)) (h : PX7_copies v0 v1 M Q) : Met l yX7_copies (Cond.code yX7_copies cX7_copies 3 (none) :: tw) rmX7_copies (Pre G M [rV (v0), rV (v1)]) (PostV G Q) 0 0 (gA G) := by
  refine met_of (own := RX7) (by decide) rfl hG (Nat.le_of_ble_eq_true rfl) (fun p e s m below meth c X => ?_)
  generalize hargs : ([rV (v0), rV (v1)] : List Value).toArray = args at X ⊢
  show Wt p l e rmX7_copies s m args below meth c G (MQ below (PostV G Q) args s 0 0 (gA G)) 3 M [(0, rV (v0)), (1, rV (v1))] 0 []
  unfold PX7_copies at h
  refine xt_ic X dX7_copies_0 ?_
  refine xt_is (lv2 := [(2, iV (0)), (0, rV (v0)), (1, rV (v1))]) X dX7_copies_1 rfl (by decide) rfl ?_
  obtain ⟨n_6, h⟩ := h
  refine xt_perm (lv2 := [(0, rV (v0)), (1, rV (v1)), (2, iV (0))]) [1, 2, 0] rfl ?_
  refine wX7_copies_2 X k0 k1  n_6 0 M (i_rc 0 rfl) h
abbrev rmX7_signAt : Room := { frames := 0, cells := 0, slots := 0, locals := 0 }
def PX7_signAt (v0 : Int) (v1 : Int) (v2 : Int) (M : Mm) (Q : Int → Mm → Prop) : Prop :=
  ((0 ≤ ((15 + (24 * v1)) + v2) ∧ ((15 + (24 * v1)) + v2) < 327) ∧
  Q (M v0 ((15 + (24 * v1)) + v2)) M)
set_option maxHeartbeats 4000000 in
set_option maxRecDepth 100000 in
theorem ctX7_signAt {l : Launch} {G : GG} (hG : Gd G) {v0 : Int} {v1 : Int} {v2 : Int} {M : Mm} {Q : Int → Mm → Prop} (k0 : gK G v0 = (8, 327)) (r1 : inR v1) (r2 : inR v2) (h : PX7_signAt v0 v1 v2 M Q) : Met l yX7_signAt (Cond.code yX7_signAt cX7_signAt 3 ((some FieldType.int)) :: tw) rmX7_signAt (Pre G M [rV (v0), iV (v1), iV (v2)]) (PostI G Q) 0 0 (gA G) := by
  refine met_of (own := RX7) (by decide) rfl hG (Nat.le_of_ble_eq_true rfl) (fun p e s m below meth c X => ?_)
  generalize hargs : ([rV (v0), iV (v1), iV (v2)] : List Value).toArray = args at X ⊢
  show Wt p l e rmX7_signAt s m args below meth c G (MQ below (PostI G Q) args s 0 0 (gA G)) 3 M [(0, rV (v0)), (1, iV (v1)), (2, iV (v2))] 0 []
  unfold PX7_signAt at h
  refine xt_al X dX7_signAt_0 rfl 0 rfl ?_
  refine xt_bi X dX7_signAt_1 (by decide) ?_
  refine xt_bi X dX7_signAt_3 (by decide) ?_
  refine xt_il X dX7_signAt_5 rfl 1 rfl ?_
  refine xt_mul X dX7_signAt_6 ?_
  refine xt_add X dX7_signAt_7 ?_
  refine xt_il X dX7_signAt_8 rfl 2 rfl ?_
  refine xt_add X dX7_signAt_9 ?_
  obtain ⟨g_1, h⟩ := h
  refine xt_iald X k0 g_1 (by decide) dX7_signAt_10 (fun r_2 => ?_)
  exact xt_iret X r_2 h dX7_signAt_11
abbrev rmX7_cellsOf : Room := { frames := 1, cells := 0, slots := 0, locals := 22 }
def BX7_cellsOf_4  (Q : Int → Mm → Prop) (v0 : Int) (v1 : Int) (rec : Int → Int → Mm → Prop) (v2 : Int) (v3 : Int) (M : Mm) : Prop :=
  ((0 ≤ (3 + v1) ∧ (3 + v1) < 327) ∧
  (((M v0 (3 + v1)) ≤ v3 → Q v2 M) ∧
  (¬ (M v0 (3 + v1)) ≤ v3 → (PX7_signAt v0 v1 v3 M (fun z_3 M_4 =>
  ((z_3 = 124 → (inR (v2 + 1) ∧
  (inR (v3 + 1) ∧
  rec (v2 + 1) (v3 + 1) M_4))) ∧
  (¬ z_3 = 124 → (inR (v2 + 0) ∧
  (inR (v3 + 1) ∧
  rec (v2 + 0) (v3 + 1) M_4)))))))))
def PX7_cellsOf (v0 : Int) (v1 : Int) (M : Mm) (Q : Int → Mm → Prop) : Prop :=
  ∃ n_9 : Nat, lp_II (BX7_cellsOf_4  Q v0 v1) n_9 0 0 M
set_option maxHeartbeats 4000000 in
set_option maxRecDepth 100000 in
theorem wX7_cellsOf_4 {p : Program} {l : Launch} {e : Env} {s : State} {m : MethodId} {args : Array Value} {below : List Frame} {meth : Method} {c : Code} {G : GG} (X : Cx p s m args meth c cX7_cellsOf 4 ((some FieldType.int)) RX7 G) {Q : Int → Mm → Prop}  {v0 : Int} {v1 : Int} (k0 : gK G v0 = (8, 327)) (r1 : inR v1)  : ∀ (n : Nat) (v2 : Int) (v3 : Int) (M : Mm), inR v2 → inR v3 → lp_II (BX7_cellsOf_4  Q v0 v1) n v2 v3 M → Wt p l e rmX7_cellsOf s m args below meth c G (MQ below (PostI G Q) args s 0 0 (gA G)) 4 M [(0, rV (v0)), (1, iV (v1)), (2, iV (v2)), (3, iV (v3))] 4 [] := by
  have hG := X.2.2.2.2.2.2.2.2
  intro n
  induction n with
  | zero => intro v2 v3 M r2 r3 h; exact h.elim
  | succ n ih =>
    intro v2 v3 M r2 r3 h
    have h : BX7_cellsOf_4  Q v0 v1 (lp_II (BX7_cellsOf_4  Q v0 v1) n) v2 v3 M := h
    unfold BX7_cellsOf_4 at h
    refine xt_il X dX7_cellsOf_4 rfl 3 rfl ?_
    refine xt_al X dX7_cellsOf_5 rfl 0 rfl ?_
    refine xt_ic X dX7_cellsOf_6 ?_
    refine xt_il X dX7_cellsOf_7 rfl 1 rfl ?_
    refine xt_add X dX7_cellsOf_8 ?_
    obtain ⟨g_1, h⟩ := h
    refine xt_iald X k0 g_1 (by decide) dX7_cellsOf_9 (fun r_2 => ?_)
    refine xt_cge (tgt := 38) X r3 r_2 dX7_cellsOf_10 (by decide) (fun hc => ?_) (fun hc => ?_)
    · have h := h.1 hc
      refine xt_il X dX7_cellsOf_38 rfl 2 rfl ?_
      exact xt_iret X r2 h dX7_cellsOf_39
    · have h := h.2 hc
      refine xt_il X dX7_cellsOf_13 rfl 2 rfl ?_
      refine xt_al X dX7_cellsOf_14 rfl 0 rfl ?_
      refine xt_il X dX7_cellsOf_15 rfl 1 rfl ?_
      refine xt_il X dX7_cellsOf_16 rfl 3 rfl ?_
      refine xt_cSI X [rV (v0), iV (v1), iV (v3)] [iV (v2)] (ctX7_signAt hG k0 r1 r3 h) gdX7_41 pdX7_signAt ⟨rfl, rfl⟩ ⟨Nat.le_of_ble_eq_true rfl, Nat.le_of_ble_eq_true rfl⟩ rfl (Nat.le_of_ble_eq_true rfl) dX7_cellsOf_17 (fun z_3 M_4 z_3r h => ?_)
      refine xt_bi X dX7_cellsOf_20 (by decide) ?_
      refine xt_cne (tgt := 29) X z_3r (i_rc 124 rfl) dX7_cellsOf_22 (by decide) (fun hc => ?_) (fun hc => ?_)
      · have h := h.2 hc
        refine xt_ic X dX7_cellsOf_29 ?_
        refine xt_add X dX7_cellsOf_30 ?_
        refine xt_is (lv2 := [(2, iV (v2 + 0)), (0, rV (v0)), (1, iV (v1)), (3, iV (v3))]) X dX7_cellsOf_31 rfl (by decide) rfl ?_
        refine xt_inc (lv2 := [(3, iV (v3 + 1)), (2, iV (v2 + 0)), (0, rV (v0)), (1, iV (v1))]) X dX7_cellsOf_32 3 rfl (by decide) rfl ?_
        refine xt_goto (tgt := 4) X dX7_cellsOf_35 (by decide) ?_
        obtain ⟨g_5, h⟩ := h
        obtain ⟨g_6, h⟩ := h
        refine xt_perm (lv2 := [(0, rV (v0)), (1, iV (v1)), (2, iV (v2 + 0)), (3, iV (v3 + 1))]) [2, 3, 1, 0] rfl ?_
        exact ih (v2 + 0) (v3 + 1) M_4 g_5 g_6 h
      · have h := h.1 hc
        refine xt_ic X dX7_cellsOf_25 ?_
        refine xt_goto (tgt := 30) X dX7_cellsOf_26 (by decide) ?_
        refine xt_add X dX7_cellsOf_30 ?_
        refine xt_is (lv2 := [(2, iV (v2 + 1)), (0, rV (v0)), (1, iV (v1)), (3, iV (v3))]) X dX7_cellsOf_31 rfl (by decide) rfl ?_
        refine xt_inc (lv2 := [(3, iV (v3 + 1)), (2, iV (v2 + 1)), (0, rV (v0)), (1, iV (v1))]) X dX7_cellsOf_32 3 rfl (by decide) rfl ?_
        refine xt_goto (tgt := 4) X dX7_cellsOf_35 (by decide) ?_
        obtain ⟨g_7, h⟩ := h
        obtain ⟨g_8, h⟩ := h
        refine xt_perm (lv2 := [(0, rV (v0)), (1, iV (v1)), (2, iV (v2 + 1)), (3, iV (v3 + 1))]) [2, 3, 1, 0] rfl ?_
        exact ih (v2 + 1) (v3 + 1) M_4 g_7 g_8 h
set_option maxHeartbeats 4000000 in
set_option maxRecDepth 100000 in
theorem ctX7_cellsOf {l : Launch} {G : GG} (hG : Gd G) {v0 : Int} {v1 : Int} {M : Mm} {Q : Int → Mm → Prop} (k0 : gK G v0 = (8, 327)) (r1 : inR v1) (h : PX7_cellsOf v0 v1 M Q) : Met l yX7_cellsOf (Cond.code yX7_cellsOf cX7_cellsOf 4 ((some FieldType.int)) :: tw) rmX7_cellsOf (Pre G M [rV (v0), iV (v1)]) (PostI G Q) 0 0 (gA G) := by
  refine met_of (own := RX7) (by decide) rfl hG (Nat.le_of_ble_eq_true rfl) (fun p e s m below meth c X => ?_)
  generalize hargs : ([rV (v0), iV (v1)] : List Value).toArray = args at X ⊢
  show Wt p l e rmX7_cellsOf s m args below meth c G (MQ below (PostI G Q) args s 0 0 (gA G)) 4 M [(0, rV (v0)), (1, iV (v1))] 0 []
  unfold PX7_cellsOf at h
  refine xt_ic X dX7_cellsOf_0 ?_
  refine xt_is (lv2 := [(2, iV (0)), (0, rV (v0)), (1, iV (v1))]) X dX7_cellsOf_1 rfl (by decide) rfl ?_
  refine xt_ic X dX7_cellsOf_2 ?_
  refine xt_is (lv2 := [(3, iV (0)), (2, iV (0)), (0, rV (v0)), (1, iV (v1))]) X dX7_cellsOf_3 rfl (by decide) rfl ?_
  obtain ⟨n_9, h⟩ := h
  refine xt_perm (lv2 := [(0, rV (v0)), (1, iV (v1)), (2, iV (0)), (3, iV (0))]) [2, 3, 1, 0] rfl ?_
  refine wX7_cellsOf_4 X k0 r1  n_9 0 0 M (i_rc 0 rfl) (i_rc 0 rfl) h
abbrev rmX7_fromOf : Room := { frames := 1, cells := 0, slots := 0, locals := 22 }
def BX7_fromOf_5  (Q : Int → Mm → Prop) (v0 : Int) (v1 : Int) (rec : Int → Int → Mm → Prop) (v3 : Int) (v4 : Int) (M : Mm) : Prop :=
  ((v3 ≤ 0 → Q v4 M) ∧
  (¬ v3 ≤ 0 → (PX7_signAt v0 v1 v4 M (fun z_1 M_2 =>
  ((z_1 = 124 → (inR (v3 - 1) ∧
  (inR (v4 + 1) ∧
  rec (v3 - 1) (v4 + 1) M_2))) ∧
  (¬ z_1 = 124 → (inR (v3 - 0) ∧
  (inR (v4 + 1) ∧
  rec (v3 - 0) (v4 + 1) M_2))))))))
def PX7_fromOf (v0 : Int) (v1 : Int) (v2 : Int) (M : Mm) (Q : Int → Mm → Prop) : Prop :=
  ∃ n_7 : Nat, lp_II (BX7_fromOf_5  Q v0 v1) n_7 v2 0 M
set_option maxHeartbeats 4000000 in
set_option maxRecDepth 100000 in
theorem wX7_fromOf_5 {p : Program} {l : Launch} {e : Env} {s : State} {m : MethodId} {args : Array Value} {below : List Frame} {meth : Method} {c : Code} {G : GG} (X : Cx p s m args meth c cX7_fromOf 5 ((some FieldType.int)) RX7 G) {Q : Int → Mm → Prop}  {v0 : Int} {v1 : Int} (k0 : gK G v0 = (8, 327)) (r1 : inR v1)  : ∀ (n : Nat) (v3 : Int) (v4 : Int) (M : Mm), inR v3 → inR v4 → lp_II (BX7_fromOf_5  Q v0 v1) n v3 v4 M → Wt p l e rmX7_fromOf s m args below meth c G (MQ below (PostI G Q) args s 0 0 (gA G)) 5 M [(0, rV (v0)), (1, iV (v1)), (3, iV (v3)), (4, iV (v4))] 5 [] := by
  have hG := X.2.2.2.2.2.2.2.2
  intro n
  induction n with
  | zero => intro v3 v4 M r3 r4 h; exact h.elim
  | succ n ih =>
    intro v3 v4 M r3 r4 h
    have h : BX7_fromOf_5  Q v0 v1 (lp_II (BX7_fromOf_5  Q v0 v1) n) v3 v4 M := h
    unfold BX7_fromOf_5 at h
    refine xt_il X dX7_fromOf_5 rfl 2 rfl ?_
    refine xt_zle (tgt := 35) X r3 dX7_fromOf_6 (by decide) (fun hc => ?_) (fun hc => ?_)
    · have h := h.1 hc
      refine xt_ilw X dX7_fromOf_35 3 rfl ?_
      exact xt_iret X r4 h dX7_fromOf_37
    · have h := h.2 hc
      refine xt_il X dX7_fromOf_9 rfl 2 rfl ?_
      refine xt_al X dX7_fromOf_10 rfl 0 rfl ?_
      refine xt_il X dX7_fromOf_11 rfl 1 rfl ?_
      refine xt_ilw X dX7_fromOf_12 3 rfl ?_
      refine xt_cSI X [rV (v0), iV (v1), iV (v4)] [iV (v3)] (ctX7_signAt hG k0 r1 r4 h) gdX7_41 pdX7_signAt ⟨rfl, rfl⟩ ⟨Nat.le_of_ble_eq_true rfl, Nat.le_of_ble_eq_true rfl⟩ rfl (Nat.le_of_ble_eq_true rfl) dX7_fromOf_14 (fun z_1 M_2 z_1r h => ?_)
      refine xt_bi X dX7_fromOf_17 (by decide) ?_
      refine xt_cne (tgt := 26) X z_1r (i_rc 124 rfl) dX7_fromOf_19 (by decide) (fun hc => ?_) (fun hc => ?_)
      · have h := h.2 hc
        refine xt_ic X dX7_fromOf_26 ?_
        refine xt_sub X dX7_fromOf_27 ?_
        refine xt_is (lv2 := [(3, iV (v3 - 0)), (0, rV (v0)), (1, iV (v1)), (4, iV (v4))]) X dX7_fromOf_28 rfl (by decide) rfl ?_
        refine xt_inc (lv2 := [(4, iV (v4 + 1)), (3, iV (v3 - 0)), (0, rV (v0)), (1, iV (v1))]) X dX7_fromOf_29 3 rfl (by decide) rfl ?_
        refine xt_goto (tgt := 5) X dX7_fromOf_32 (by decide) ?_
        obtain ⟨g_3, h⟩ := h
        obtain ⟨g_4, h⟩ := h
        refine xt_perm (lv2 := [(0, rV (v0)), (1, iV (v1)), (3, iV (v3 - 0)), (4, iV (v4 + 1))]) [2, 3, 1, 0] rfl ?_
        exact ih (v3 - 0) (v4 + 1) M_2 g_3 g_4 h
      · have h := h.1 hc
        refine xt_ic X dX7_fromOf_22 ?_
        refine xt_goto (tgt := 27) X dX7_fromOf_23 (by decide) ?_
        refine xt_sub X dX7_fromOf_27 ?_
        refine xt_is (lv2 := [(3, iV (v3 - 1)), (0, rV (v0)), (1, iV (v1)), (4, iV (v4))]) X dX7_fromOf_28 rfl (by decide) rfl ?_
        refine xt_inc (lv2 := [(4, iV (v4 + 1)), (3, iV (v3 - 1)), (0, rV (v0)), (1, iV (v1))]) X dX7_fromOf_29 3 rfl (by decide) rfl ?_
        refine xt_goto (tgt := 5) X dX7_fromOf_32 (by decide) ?_
        obtain ⟨g_5, h⟩ := h
        obtain ⟨g_6, h⟩ := h
        refine xt_perm (lv2 := [(0, rV (v0)), (1, iV (v1)), (3, iV (v3 - 1)), (4, iV (v4 + 1))]) [2, 3, 1, 0] rfl ?_
        exact ih (v3 - 1) (v4 + 1) M_2 g_5 g_6 h
set_option maxHeartbeats 4000000 in
set_option maxRecDepth 100000 in
theorem ctX7_fromOf {l : Launch} {G : GG} (hG : Gd G) {v0 : Int} {v1 : Int} {v2 : Int} {M : Mm} {Q : Int → Mm → Prop} (k0 : gK G v0 = (8, 327)) (r1 : inR v1) (r2 : inR v2) (h : PX7_fromOf v0 v1 v2 M Q) : Met l yX7_fromOf (Cond.code yX7_fromOf cX7_fromOf 5 ((some FieldType.int)) :: tw) rmX7_fromOf (Pre G M [rV (v0), iV (v1), iV (v2)]) (PostI G Q) 0 0 (gA G) := by
  refine met_of (own := RX7) (by decide) rfl hG (Nat.le_of_ble_eq_true rfl) (fun p e s m below meth c X => ?_)
  generalize hargs : ([rV (v0), iV (v1), iV (v2)] : List Value).toArray = args at X ⊢
  show Wt p l e rmX7_fromOf s m args below meth c G (MQ below (PostI G Q) args s 0 0 (gA G)) 5 M [(0, rV (v0)), (1, iV (v1)), (2, iV (v2))] 0 []
  unfold PX7_fromOf at h
  refine xt_il X dX7_fromOf_0 rfl 2 rfl ?_
  refine xt_is (lv2 := [(3, iV (v2)), (0, rV (v0)), (1, iV (v1)), (2, iV (v2))]) X dX7_fromOf_1 rfl (by decide) rfl ?_
  refine xt_ic X dX7_fromOf_2 ?_
  refine xt_isw (lv2 := [(4, iV (0)), (3, iV (v2)), (0, rV (v0)), (1, iV (v1)), (2, iV (v2))]) X dX7_fromOf_3 (by decide) rfl ?_
  obtain ⟨n_7, h⟩ := h
  refine xt_perm (lv2 := [(0, rV (v0)), (1, iV (v1)), (3, iV (v2)), (4, iV (0))]) [2, 3, 1, 0] rfl ?_
  refine wX7_fromOf_5 X k0 r1  n_7 v2 0 M r2 (i_rc 0 rfl) h
abbrev rmX7_sizeOf : Room := { frames := 2, cells := 0, slots := 0, locals := 46 }
def BX7_sizeOf_10  (Q : Int → Mm → Prop) (v0 : Int) (v1 : Int) (v3 : Int) (rec : Int → Mm → Prop) (v4 : Int) (M : Mm) : Prop :=
  ((0 ≤ (3 + v1) ∧ (3 + v1) < 327) ∧
  (((M v0 (3 + v1)) ≤ v4 → (inR (v4 - v3) ∧
  Q (v4 - v3) M)) ∧
  (¬ (M v0 (3 + v1)) ≤ v4 → (PX7_signAt v0 v1 v4 M (fun z_6 M_7 =>
  ((z_6 = 124 → (inR (v4 - v3) ∧
  Q (v4 - v3) M_7)) ∧
  (¬ z_6 = 124 → (inR (v4 + 1) ∧
  rec (v4 + 1) M_7))))))))
def PX7_sizeOf (v0 : Int) (v1 : Int) (v2 : Int) (M : Mm) (Q : Int → Mm → Prop) : Prop :=
  (PX7_fromOf v0 v1 v2 M (fun z_1 M_2 =>
  ∃ n_10 : Nat, lp_I (BX7_sizeOf_10  Q v0 v1 z_1) n_10 z_1 M_2))
set_option maxHeartbeats 4000000 in
set_option maxRecDepth 100000 in
theorem wX7_sizeOf_10 {p : Program} {l : Launch} {e : Env} {s : State} {m : MethodId} {args : Array Value} {below : List Frame} {meth : Method} {c : Code} {G : GG} (X : Cx p s m args meth c cX7_sizeOf 5 ((some FieldType.int)) RX7 G) {Q : Int → Mm → Prop}  {v0 : Int} {v1 : Int} {v3 : Int} (k0 : gK G v0 = (8, 327)) (r1 : inR v1) (r3 : inR v3)  : ∀ (n : Nat) (v4 : Int) (M : Mm), inR v4 → lp_I (BX7_sizeOf_10  Q v0 v1 v3) n v4 M → Wt p l e rmX7_sizeOf s m args below meth c G (MQ below (PostI G Q) args s 0 0 (gA G)) 5 M [(0, rV (v0)), (1, iV (v1)), (3, iV (v3)), (4, iV (v4))] 10 [] := by
  have hG := X.2.2.2.2.2.2.2.2
  intro n
  induction n with
  | zero => intro v4 M r4 h; exact h.elim
  | succ n ih =>
    intro v4 M r4 h
    have h : BX7_sizeOf_10  Q v0 v1 v3 (lp_I (BX7_sizeOf_10  Q v0 v1 v3) n) v4 M := h
    unfold BX7_sizeOf_10 at h
    refine xt_ilw X dX7_sizeOf_10 3 rfl ?_
    refine xt_al X dX7_sizeOf_12 rfl 0 rfl ?_
    refine xt_ic X dX7_sizeOf_13 ?_
    refine xt_il X dX7_sizeOf_14 rfl 1 rfl ?_
    refine xt_add X dX7_sizeOf_15 ?_
    obtain ⟨g_3, h⟩ := h
    refine xt_iald X k0 g_3 (by decide) dX7_sizeOf_16 (fun r_4 => ?_)
    refine xt_cge (tgt := 38) X r4 r_4 dX7_sizeOf_17 (by decide) (fun hc => ?_) (fun hc => ?_)
    · have h := h.1 hc
      refine xt_ilw X dX7_sizeOf_38 3 rfl ?_
      refine xt_il X dX7_sizeOf_40 rfl 2 rfl ?_
      refine xt_sub X dX7_sizeOf_41 ?_
      obtain ⟨g_5, h⟩ := h
      exact xt_iret X g_5 h dX7_sizeOf_42
    · have h := h.2 hc
      refine xt_al X dX7_sizeOf_20 rfl 0 rfl ?_
      refine xt_il X dX7_sizeOf_21 rfl 1 rfl ?_
      refine xt_ilw X dX7_sizeOf_22 3 rfl ?_
      refine xt_cSI X [rV (v0), iV (v1), iV (v4)] [] (ctX7_signAt hG k0 r1 r4 h) gdX7_41 pdX7_signAt ⟨rfl, rfl⟩ ⟨Nat.le_of_ble_eq_true rfl, Nat.le_of_ble_eq_true rfl⟩ rfl (Nat.le_of_ble_eq_true rfl) dX7_sizeOf_24 (fun z_6 M_7 z_6r h => ?_)
      refine xt_bi X dX7_sizeOf_27 (by decide) ?_
      refine xt_ceq (tgt := 38) X z_6r (i_rc 124 rfl) dX7_sizeOf_29 (by decide) (fun hc => ?_) (fun hc => ?_)
      · have h := h.1 hc
        refine xt_ilw X dX7_sizeOf_38 3 rfl ?_
        refine xt_il X dX7_sizeOf_40 rfl 2 rfl ?_
        refine xt_sub X dX7_sizeOf_41 ?_
        obtain ⟨g_8, h⟩ := h
        exact xt_iret X g_8 h dX7_sizeOf_42
      · have h := h.2 hc
        refine xt_inc (lv2 := [(4, iV (v4 + 1)), (0, rV (v0)), (1, iV (v1)), (3, iV (v3))]) X dX7_sizeOf_32 3 rfl (by decide) rfl ?_
        refine xt_goto (tgt := 10) X dX7_sizeOf_35 (by decide) ?_
        obtain ⟨g_9, h⟩ := h
        refine xt_perm (lv2 := [(0, rV (v0)), (1, iV (v1)), (3, iV (v3)), (4, iV (v4 + 1))]) [1, 2, 3, 0] rfl ?_
        exact ih (v4 + 1) M_7 g_9 h
set_option maxHeartbeats 4000000 in
set_option maxRecDepth 100000 in
theorem ctX7_sizeOf {l : Launch} {G : GG} (hG : Gd G) {v0 : Int} {v1 : Int} {v2 : Int} {M : Mm} {Q : Int → Mm → Prop} (k0 : gK G v0 = (8, 327)) (r1 : inR v1) (r2 : inR v2) (h : PX7_sizeOf v0 v1 v2 M Q) : Met l yX7_sizeOf (Cond.code yX7_sizeOf cX7_sizeOf 5 ((some FieldType.int)) :: tw) rmX7_sizeOf (Pre G M [rV (v0), iV (v1), iV (v2)]) (PostI G Q) 0 0 (gA G) := by
  refine met_of (own := RX7) (by decide) rfl hG (Nat.le_of_ble_eq_true rfl) (fun p e s m below meth c X => ?_)
  generalize hargs : ([rV (v0), iV (v1), iV (v2)] : List Value).toArray = args at X ⊢
  show Wt p l e rmX7_sizeOf s m args below meth c G (MQ below (PostI G Q) args s 0 0 (gA G)) 5 M [(0, rV (v0)), (1, iV (v1)), (2, iV (v2))] 0 []
  unfold PX7_sizeOf at h
  refine xt_al X dX7_sizeOf_0 rfl 0 rfl ?_
  refine xt_il X dX7_sizeOf_1 rfl 1 rfl ?_
  refine xt_il X dX7_sizeOf_2 rfl 2 rfl ?_
  refine xt_cSI X [rV (v0), iV (v1), iV (v2)] [] (ctX7_fromOf hG k0 r1 r2 h) gdX7_45 pdX7_fromOf ⟨rfl, rfl⟩ ⟨Nat.le_of_ble_eq_true rfl, Nat.le_of_ble_eq_true rfl⟩ rfl (Nat.le_of_ble_eq_true rfl) dX7_sizeOf_3 (fun z_1 M_2 z_1r h => ?_)
  refine xt_is (lv2 := [(3, iV (z_1)), (0, rV (v0)), (1, iV (v1)), (2, iV (v2))]) X dX7_sizeOf_6 rfl (by decide) rfl ?_
  refine xt_il X dX7_sizeOf_7 rfl 0 rfl ?_
  refine xt_isw (lv2 := [(4, iV (z_1)), (3, iV (z_1)), (0, rV (v0)), (1, iV (v1)), (2, iV (v2))]) X dX7_sizeOf_8 (by decide) rfl ?_
  obtain ⟨n_10, h⟩ := h
  refine xt_perm (lv2 := [(0, rV (v0)), (1, iV (v1)), (3, iV (z_1)), (4, iV (z_1))]) [2, 3, 1, 0] rfl ?_
  refine wX7_sizeOf_10 X k0 r1 z_1r  n_10 z_1 M_2 z_1r h
abbrev rmX7_aheadOf : Room := { frames := 3, cells := 0, slots := 0, locals := 70 }
def BX7_aheadOf_18  (Q : Int → Mm → Prop) (v0 : Int) (v1 : Int) (v3 : Int) (v4 : Int) (rec : Int → Mm → Prop) (v5 : Int) (M : Mm) : Prop :=
  ((v4 ≤ v5 → Q v5 M) ∧
  (¬ v4 ≤ v5 → (inR (v3 + v5) ∧
  (PX7_signAt v0 v1 (v3 + v5) M (fun z_6 M_7 =>
  ((z_6 = 46 → Q v5 M_7) ∧
  (¬ z_6 = 46 → (inR (v5 + 1) ∧
  rec (v5 + 1) M_7))))))))
def PX7_aheadOf (v0 : Int) (v1 : Int) (v2 : Int) (M : Mm) (Q : Int → Mm → Prop) : Prop :=
  (PX7_fromOf v0 v1 v2 M (fun z_1 M_2 =>
  (PX7_sizeOf v0 v1 v2 M_2 (fun z_3 M_4 =>
  ∃ n_9 : Nat, lp_I (BX7_aheadOf_18  Q v0 v1 z_1 z_3) n_9 0 M_4))))
set_option maxHeartbeats 4000000 in
set_option maxRecDepth 100000 in
theorem wX7_aheadOf_18 {p : Program} {l : Launch} {e : Env} {s : State} {m : MethodId} {args : Array Value} {below : List Frame} {meth : Method} {c : Code} {G : GG} (X : Cx p s m args meth c cX7_aheadOf 6 ((some FieldType.int)) RX7 G) {Q : Int → Mm → Prop}  {v0 : Int} {v1 : Int} {v3 : Int} {v4 : Int} (k0 : gK G v0 = (8, 327)) (r1 : inR v1) (r3 : inR v3) (r4 : inR v4)  : ∀ (n : Nat) (v5 : Int) (M : Mm), inR v5 → lp_I (BX7_aheadOf_18  Q v0 v1 v3 v4) n v5 M → Wt p l e rmX7_aheadOf s m args below meth c G (MQ below (PostI G Q) args s 0 0 (gA G)) 6 M [(0, rV (v0)), (1, iV (v1)), (3, iV (v3)), (4, iV (v4)), (5, iV (v5))] 18 [] := by
  have hG := X.2.2.2.2.2.2.2.2
  intro n
  induction n with
  | zero => intro v5 M r5 h; exact h.elim
  | succ n ih =>
    intro v5 M r5 h
    have h : BX7_aheadOf_18  Q v0 v1 v3 v4 (lp_I (BX7_aheadOf_18  Q v0 v1 v3 v4) n) v5 M := h
    unfold BX7_aheadOf_18 at h
    refine xt_ilw X dX7_aheadOf_18 4 rfl ?_
    refine xt_ilw X dX7_aheadOf_20 3 rfl ?_
    refine xt_cge (tgt := 45) X r5 r4 dX7_aheadOf_22 (by decide) (fun hc => ?_) (fun hc => ?_)
    · have h := h.1 hc
      refine xt_ilw X dX7_aheadOf_45 4 rfl ?_
      exact xt_iret X r5 h dX7_aheadOf_47
    · have h := h.2 hc
      refine xt_al X dX7_aheadOf_25 rfl 0 rfl ?_
      refine xt_il X dX7_aheadOf_26 rfl 1 rfl ?_
      refine xt_il X dX7_aheadOf_27 rfl 2 rfl ?_
      refine xt_ilw X dX7_aheadOf_28 4 rfl ?_
      refine xt_add X dX7_aheadOf_30 ?_
      obtain ⟨g_5, h⟩ := h
      refine xt_cSI X [rV (v0), iV (v1), iV (v3 + v5)] [] (ctX7_signAt hG k0 r1 g_5 h) gdX7_41 pdX7_signAt ⟨rfl, rfl⟩ ⟨Nat.le_of_ble_eq_true rfl, Nat.le_of_ble_eq_true rfl⟩ rfl (Nat.le_of_ble_eq_true rfl) dX7_aheadOf_31 (fun z_6 M_7 z_6r h => ?_)
      refine xt_bi X dX7_aheadOf_34 (by decide) ?_
      refine xt_ceq (tgt := 45) X z_6r (i_rc 46 rfl) dX7_aheadOf_36 (by decide) (fun hc => ?_) (fun hc => ?_)
      · have h := h.1 hc
        refine xt_ilw X dX7_aheadOf_45 4 rfl ?_
        exact xt_iret X r5 h dX7_aheadOf_47
      · have h := h.2 hc
        refine xt_inc (lv2 := [(5, iV (v5 + 1)), (0, rV (v0)), (1, iV (v1)), (3, iV (v3)), (4, iV (v4))]) X dX7_aheadOf_39 4 rfl (by decide) rfl ?_
        refine xt_goto (tgt := 18) X dX7_aheadOf_42 (by decide) ?_
        obtain ⟨g_8, h⟩ := h
        refine xt_perm (lv2 := [(0, rV (v0)), (1, iV (v1)), (3, iV (v3)), (4, iV (v4)), (5, iV (v5 + 1))]) [1, 2, 3, 4, 0] rfl ?_
        exact ih (v5 + 1) M_7 g_8 h
set_option maxHeartbeats 4000000 in
set_option maxRecDepth 100000 in
theorem ctX7_aheadOf {l : Launch} {G : GG} (hG : Gd G) {v0 : Int} {v1 : Int} {v2 : Int} {M : Mm} {Q : Int → Mm → Prop} (k0 : gK G v0 = (8, 327)) (r1 : inR v1) (r2 : inR v2) (h : PX7_aheadOf v0 v1 v2 M Q) : Met l yX7_aheadOf (Cond.code yX7_aheadOf cX7_aheadOf 6 ((some FieldType.int)) :: tw) rmX7_aheadOf (Pre G M [rV (v0), iV (v1), iV (v2)]) (PostI G Q) 0 0 (gA G) := by
  refine met_of (own := RX7) (by decide) rfl hG (Nat.le_of_ble_eq_true rfl) (fun p e s m below meth c X => ?_)
  generalize hargs : ([rV (v0), iV (v1), iV (v2)] : List Value).toArray = args at X ⊢
  show Wt p l e rmX7_aheadOf s m args below meth c G (MQ below (PostI G Q) args s 0 0 (gA G)) 6 M [(0, rV (v0)), (1, iV (v1)), (2, iV (v2))] 0 []
  unfold PX7_aheadOf at h
  refine xt_al X dX7_aheadOf_0 rfl 0 rfl ?_
  refine xt_il X dX7_aheadOf_1 rfl 1 rfl ?_
  refine xt_il X dX7_aheadOf_2 rfl 2 rfl ?_
  refine xt_cSI X [rV (v0), iV (v1), iV (v2)] [] (ctX7_fromOf hG k0 r1 r2 h) gdX7_45 pdX7_fromOf ⟨rfl, rfl⟩ ⟨Nat.le_of_ble_eq_true rfl, Nat.le_of_ble_eq_true rfl⟩ rfl (Nat.le_of_ble_eq_true rfl) dX7_aheadOf_3 (fun z_1 M_2 z_1r h => ?_)
  refine xt_is (lv2 := [(3, iV (z_1)), (0, rV (v0)), (1, iV (v1)), (2, iV (v2))]) X dX7_aheadOf_6 rfl (by decide) rfl ?_
  refine xt_al X dX7_aheadOf_7 rfl 1 rfl ?_
  refine xt_il X dX7_aheadOf_8 rfl 2 rfl ?_
  refine xt_il X dX7_aheadOf_9 rfl 3 rfl ?_
  refine xt_cSI X [rV (v0), iV (v1), iV (v2)] [] (ctX7_sizeOf hG k0 r1 r2 h) gdX7_48 pdX7_sizeOf ⟨rfl, rfl⟩ ⟨Nat.le_of_ble_eq_true rfl, Nat.le_of_ble_eq_true rfl⟩ rfl (Nat.le_of_ble_eq_true rfl) dX7_aheadOf_10 (fun z_3 M_4 z_3r h => ?_)
  refine xt_isw (lv2 := [(4, iV (z_3)), (3, iV (z_1)), (0, rV (v0)), (1, iV (v1)), (2, iV (v2))]) X dX7_aheadOf_13 (by decide) rfl ?_
  refine xt_ic X dX7_aheadOf_15 ?_
  refine xt_isw (lv2 := [(5, iV (0)), (4, iV (z_3)), (3, iV (z_1)), (0, rV (v0)), (1, iV (v1)), (2, iV (v2))]) X dX7_aheadOf_16 (by decide) rfl ?_
  obtain ⟨n_9, h⟩ := h
  refine xt_perm (lv2 := [(0, rV (v0)), (1, iV (v1)), (3, iV (z_1)), (4, iV (z_3)), (5, iV (0))]) [3, 4, 2, 1, 0] rfl ?_
  refine wX7_aheadOf_18 X k0 r1 z_1r z_3r  n_9 0 M_4 (i_rc 0 rfl) h
abbrev rmX7_firstOf : Room := { frames := 2, cells := 0, slots := 0, locals := 45 }
def BX7_firstOf_2  (Q : Int → Mm → Prop) (v0 : Int) (v2 : Int) (rec : Int → Mm → Prop) (v3 : Int) (M : Mm) : Prop :=
  ((v3 ≤ 0 → Q v3 M) ∧
  (¬ v3 ≤ 0 → (inR (v3 - 1) ∧
  (PX7_cellsOf v0 (v3 - 1) M (fun z_2 M_3 =>
  ((z_2 ≤ v2 → Q v3 M_3) ∧
  (¬ z_2 ≤ v2 → (inR (v3 + (-1)) ∧
  rec (v3 + (-1)) M_3))))))))
def PX7_firstOf (v0 : Int) (v1 : Int) (v2 : Int) (M : Mm) (Q : Int → Mm → Prop) : Prop :=
  ∃ n_5 : Nat, lp_I (BX7_firstOf_2  Q v0 v2) n_5 v1 M
set_option maxHeartbeats 4000000 in
set_option maxRecDepth 100000 in
theorem wX7_firstOf_2 {p : Program} {l : Launch} {e : Env} {s : State} {m : MethodId} {args : Array Value} {below : List Frame} {meth : Method} {c : Code} {G : GG} (X : Cx p s m args meth c cX7_firstOf 4 ((some FieldType.int)) RX7 G) {Q : Int → Mm → Prop}  {v0 : Int} {v2 : Int} (k0 : gK G v0 = (8, 327)) (r2 : inR v2)  : ∀ (n : Nat) (v3 : Int) (M : Mm), inR v3 → lp_I (BX7_firstOf_2  Q v0 v2) n v3 M → Wt p l e rmX7_firstOf s m args below meth c G (MQ below (PostI G Q) args s 0 0 (gA G)) 4 M [(0, rV (v0)), (2, iV (v2)), (3, iV (v3))] 2 [] := by
  have hG := X.2.2.2.2.2.2.2.2
  intro n
  induction n with
  | zero => intro v3 M r3 h; exact h.elim
  | succ n ih =>
    intro v3 M r3 h
    have h : BX7_firstOf_2  Q v0 v2 (lp_I (BX7_firstOf_2  Q v0 v2) n) v3 M := h
    unfold BX7_firstOf_2 at h
    refine xt_il X dX7_firstOf_2 rfl 2 rfl ?_
    refine xt_zle (tgt := 23) X r3 dX7_firstOf_3 (by decide) (fun hc => ?_) (fun hc => ?_)
    · have h := h.1 hc
      refine xt_il X dX7_firstOf_23 rfl 2 rfl ?_
      exact xt_iret X r3 h dX7_firstOf_24
    · have h := h.2 hc
      refine xt_al X dX7_firstOf_6 rfl 0 rfl ?_
      refine xt_il X dX7_firstOf_7 rfl 2 rfl ?_
      refine xt_ic X dX7_firstOf_8 ?_
      refine xt_sub X dX7_firstOf_9 ?_
      obtain ⟨g_1, h⟩ := h
      refine xt_cSI X [rV (v0), iV (v3 - 1)] [] (ctX7_cellsOf hG k0 g_1 h) gdX7_51 pdX7_cellsOf ⟨rfl, rfl⟩ ⟨Nat.le_of_ble_eq_true rfl, Nat.le_of_ble_eq_true rfl⟩ rfl (Nat.le_of_ble_eq_true rfl) dX7_firstOf_10 (fun z_2 M_3 z_2r h => ?_)
      refine xt_il X dX7_firstOf_13 rfl 1 rfl ?_
      refine xt_cle (tgt := 23) X z_2r r2 dX7_firstOf_14 (by decide) (fun hc => ?_) (fun hc => ?_)
      · have h := h.1 hc
        refine xt_il X dX7_firstOf_23 rfl 2 rfl ?_
        exact xt_iret X r3 h dX7_firstOf_24
      · have h := h.2 hc
        refine xt_inc (lv2 := [(3, iV (v3 + (-1))), (0, rV (v0)), (2, iV (v2))]) X dX7_firstOf_17 2 rfl (by decide) rfl ?_
        refine xt_goto (tgt := 2) X dX7_firstOf_20 (by decide) ?_
        obtain ⟨g_4, h⟩ := h
        refine xt_perm (lv2 := [(0, rV (v0)), (2, iV (v2)), (3, iV (v3 + (-1)))]) [1, 2, 0] rfl ?_
        exact ih (v3 + (-1)) M_3 g_4 h
set_option maxHeartbeats 4000000 in
set_option maxRecDepth 100000 in
theorem ctX7_firstOf {l : Launch} {G : GG} (hG : Gd G) {v0 : Int} {v1 : Int} {v2 : Int} {M : Mm} {Q : Int → Mm → Prop} (k0 : gK G v0 = (8, 327)) (r1 : inR v1) (r2 : inR v2) (h : PX7_firstOf v0 v1 v2 M Q) : Met l yX7_firstOf (Cond.code yX7_firstOf cX7_firstOf 4 ((some FieldType.int)) :: tw) rmX7_firstOf (Pre G M [rV (v0), iV (v1), iV (v2)]) (PostI G Q) 0 0 (gA G) := by
  refine met_of (own := RX7) (by decide) rfl hG (Nat.le_of_ble_eq_true rfl) (fun p e s m below meth c X => ?_)
  generalize hargs : ([rV (v0), iV (v1), iV (v2)] : List Value).toArray = args at X ⊢
  show Wt p l e rmX7_firstOf s m args below meth c G (MQ below (PostI G Q) args s 0 0 (gA G)) 4 M [(0, rV (v0)), (1, iV (v1)), (2, iV (v2))] 0 []
  unfold PX7_firstOf at h
  refine xt_il X dX7_firstOf_0 rfl 1 rfl ?_
  refine xt_is (lv2 := [(3, iV (v1)), (0, rV (v0)), (1, iV (v1)), (2, iV (v2))]) X dX7_firstOf_1 rfl (by decide) rfl ?_
  obtain ⟨n_5, h⟩ := h
  refine xt_perm (lv2 := [(0, rV (v0)), (2, iV (v2)), (3, iV (v1))]) [1, 3, 0] rfl ?_
  refine wX7_firstOf_2 X k0 r2  n_5 v1 M r1 h
abbrev rmX7_lastOf : Room := { frames := 2, cells := 0, slots := 0, locals := 45 }
def BX7_lastOf_2  (Q : Int → Mm → Prop) (v0 : Int) (v2 : Int) (rec : Int → Mm → Prop) (v3 : Int) (M : Mm) : Prop :=
  (inR (v3 + 1) ∧
  (((M v0 0) ≤ (v3 + 1) → Q v3 M) ∧
  (¬ (M v0 0) ≤ (v3 + 1) → (inR (v3 + 1) ∧
  (PX7_cellsOf v0 (v3 + 1) M (fun z_4 M_5 =>
  ((z_4 ≤ v2 → Q v3 M_5) ∧
  (¬ z_4 ≤ v2 → (inR (v3 + 1) ∧
  rec (v3 + 1) M_5)))))))))
def PX7_lastOf (v0 : Int) (v1 : Int) (v2 : Int) (M : Mm) (Q : Int → Mm → Prop) : Prop :=
  ∃ n_7 : Nat, lp_I (BX7_lastOf_2  Q v0 v2) n_7 v1 M
set_option maxHeartbeats 4000000 in
set_option maxRecDepth 100000 in
theorem wX7_lastOf_2 {p : Program} {l : Launch} {e : Env} {s : State} {m : MethodId} {args : Array Value} {below : List Frame} {meth : Method} {c : Code} {G : GG} (X : Cx p s m args meth c cX7_lastOf 4 ((some FieldType.int)) RX7 G) {Q : Int → Mm → Prop}  {v0 : Int} {v2 : Int} (k0 : gK G v0 = (8, 327)) (r2 : inR v2)  : ∀ (n : Nat) (v3 : Int) (M : Mm), inR v3 → lp_I (BX7_lastOf_2  Q v0 v2) n v3 M → Wt p l e rmX7_lastOf s m args below meth c G (MQ below (PostI G Q) args s 0 0 (gA G)) 4 M [(0, rV (v0)), (2, iV (v2)), (3, iV (v3))] 2 [] := by
  have hG := X.2.2.2.2.2.2.2.2
  intro n
  induction n with
  | zero => intro v3 M r3 h; exact h.elim
  | succ n ih =>
    intro v3 M r3 h
    have h : BX7_lastOf_2  Q v0 v2 (lp_I (BX7_lastOf_2  Q v0 v2) n) v3 M := h
    unfold BX7_lastOf_2 at h
    refine xt_il X dX7_lastOf_2 rfl 2 rfl ?_
    refine xt_ic X dX7_lastOf_3 ?_
    refine xt_add X dX7_lastOf_4 ?_
    refine xt_al X dX7_lastOf_5 rfl 0 rfl ?_
    refine xt_ic X dX7_lastOf_6 ?_
    refine xt_iald X k0 ⟨by decide, by decide⟩ (by decide) dX7_lastOf_7 (fun r_1 => ?_)
    obtain ⟨g_2, h⟩ := h
    refine xt_cge (tgt := 28) X g_2 r_1 dX7_lastOf_8 (by decide) (fun hc => ?_) (fun hc => ?_)
    · have h := h.1 hc
      refine xt_il X dX7_lastOf_28 rfl 2 rfl ?_
      exact xt_iret X r3 h dX7_lastOf_29
    · have h := h.2 hc
      refine xt_al X dX7_lastOf_11 rfl 0 rfl ?_
      refine xt_il X dX7_lastOf_12 rfl 2 rfl ?_
      refine xt_ic X dX7_lastOf_13 ?_
      refine xt_add X dX7_lastOf_14 ?_
      obtain ⟨g_3, h⟩ := h
      refine xt_cSI X [rV (v0), iV (v3 + 1)] [] (ctX7_cellsOf hG k0 g_3 h) gdX7_51 pdX7_cellsOf ⟨rfl, rfl⟩ ⟨Nat.le_of_ble_eq_true rfl, Nat.le_of_ble_eq_true rfl⟩ rfl (Nat.le_of_ble_eq_true rfl) dX7_lastOf_15 (fun z_4 M_5 z_4r h => ?_)
      refine xt_il X dX7_lastOf_18 rfl 1 rfl ?_
      refine xt_cle (tgt := 28) X z_4r r2 dX7_lastOf_19 (by decide) (fun hc => ?_) (fun hc => ?_)
      · have h := h.1 hc
        refine xt_il X dX7_lastOf_28 rfl 2 rfl ?_
        exact xt_iret X r3 h dX7_lastOf_29
      · have h := h.2 hc
        refine xt_inc (lv2 := [(3, iV (v3 + 1)), (0, rV (v0)), (2, iV (v2))]) X dX7_lastOf_22 2 rfl (by decide) rfl ?_
        refine xt_goto (tgt := 2) X dX7_lastOf_25 (by decide) ?_
        obtain ⟨g_6, h⟩ := h
        refine xt_perm (lv2 := [(0, rV (v0)), (2, iV (v2)), (3, iV (v3 + 1))]) [1, 2, 0] rfl ?_
        exact ih (v3 + 1) M_5 g_6 h
set_option maxHeartbeats 4000000 in
set_option maxRecDepth 100000 in
theorem ctX7_lastOf {l : Launch} {G : GG} (hG : Gd G) {v0 : Int} {v1 : Int} {v2 : Int} {M : Mm} {Q : Int → Mm → Prop} (k0 : gK G v0 = (8, 327)) (r1 : inR v1) (r2 : inR v2) (h : PX7_lastOf v0 v1 v2 M Q) : Met l yX7_lastOf (Cond.code yX7_lastOf cX7_lastOf 4 ((some FieldType.int)) :: tw) rmX7_lastOf (Pre G M [rV (v0), iV (v1), iV (v2)]) (PostI G Q) 0 0 (gA G) := by
  refine met_of (own := RX7) (by decide) rfl hG (Nat.le_of_ble_eq_true rfl) (fun p e s m below meth c X => ?_)
  generalize hargs : ([rV (v0), iV (v1), iV (v2)] : List Value).toArray = args at X ⊢
  show Wt p l e rmX7_lastOf s m args below meth c G (MQ below (PostI G Q) args s 0 0 (gA G)) 4 M [(0, rV (v0)), (1, iV (v1)), (2, iV (v2))] 0 []
  unfold PX7_lastOf at h
  refine xt_il X dX7_lastOf_0 rfl 1 rfl ?_
  refine xt_is (lv2 := [(3, iV (v1)), (0, rV (v0)), (1, iV (v1)), (2, iV (v2))]) X dX7_lastOf_1 rfl (by decide) rfl ?_
  obtain ⟨n_7, h⟩ := h
  refine xt_perm (lv2 := [(0, rV (v0)), (2, iV (v2)), (3, iV (v1))]) [1, 3, 0] rfl ?_
  refine wX7_lastOf_2 X k0 r2  n_7 v1 M r1 h
abbrev rmX7_mostOf : Room := { frames := 4, cells := 0, slots := 0, locals := 95 }
def BX7_mostOf_19  (Q : Int → Mm → Prop) (v0 : Int) (v2 : Int) (v3 : Int) (v4 : Int) (rec : Int → Int → Mm → Prop) (v5 : Int) (v6 : Int) (M : Mm) : Prop :=
  ((v4 < v6 → Q v5 M) ∧
  (¬ v4 < v6 → (PX7_sizeOf v0 v6 v2 M (fun z_5 M_6 =>
  ((v3 = 0 → ((z_5 ≤ v5 → (inR (v6 + 1) ∧
  rec v5 (v6 + 1) M_6)) ∧
  (¬ z_5 ≤ v5 → (inR (v6 + 1) ∧
  rec z_5 (v6 + 1) M_6)))) ∧
  (¬ v3 = 0 → ((v3 = 1 → (PX7_aheadOf v0 v6 v2 M_6 (fun z_12 M_13 =>
  ((z_12 ≤ v5 → (inR (v6 + 1) ∧
  rec v5 (v6 + 1) M_13)) ∧
  (¬ z_12 ≤ v5 → (inR (v6 + 1) ∧
  rec z_12 (v6 + 1) M_13)))))) ∧
  (¬ v3 = 1 → (PX7_aheadOf v0 v6 v2 M_6 (fun z_7 M_8 =>
  (inR (z_5 - z_7) ∧
  (((z_5 - z_7) ≤ v5 → (inR (v6 + 1) ∧
  rec v5 (v6 + 1) M_8)) ∧
  (¬ (z_5 - z_7) ≤ v5 → (inR (v6 + 1) ∧
  rec (z_5 - z_7) (v6 + 1) M_8))))))))))))))
def PX7_mostOf (v0 : Int) (v1 : Int) (v2 : Int) (v3 : Int) (M : Mm) (Q : Int → Mm → Prop) : Prop :=
  (PX7_lastOf v0 v1 v2 M (fun z_1 M_2 =>
  (PX7_firstOf v0 v1 v2 M_2 (fun z_3 M_4 =>
  ∃ n_18 : Nat, lp_II (BX7_mostOf_19  Q v0 v2 v3 z_1) n_18 0 z_3 M_4))))
set_option maxHeartbeats 4000000 in
set_option maxRecDepth 100000 in
theorem wX7_mostOf_19 {p : Program} {l : Launch} {e : Env} {s : State} {m : MethodId} {args : Array Value} {below : List Frame} {meth : Method} {c : Code} {G : GG} (X : Cx p s m args meth c cX7_mostOf 9 ((some FieldType.int)) RX7 G) {Q : Int → Mm → Prop}  {v0 : Int} {v2 : Int} {v3 : Int} {v4 : Int} (k0 : gK G v0 = (8, 327)) (r2 : inR v2) (r3 : inR v3) (r4 : inR v4)  : ∀ (n : Nat) (v5 : Int) (v6 : Int) (M : Mm), inR v5 → inR v6 → lp_II (BX7_mostOf_19  Q v0 v2 v3 v4) n v5 v6 M → Wt p l e rmX7_mostOf s m args below meth c G (MQ below (PostI G Q) args s 0 0 (gA G)) 9 M [(0, rV (v0)), (2, iV (v2)), (3, iV (v3)), (4, iV (v4)), (5, iV (v5)), (6, iV (v6))] 19 [] := by
  have hG := X.2.2.2.2.2.2.2.2
  intro n
  induction n with
  | zero => intro v5 v6 M r5 r6 h; exact h.elim
  | succ n ih =>
    intro v5 v6 M r5 r6 h
    have h : BX7_mostOf_19  Q v0 v2 v3 v4 (lp_II (BX7_mostOf_19  Q v0 v2 v3 v4) n) v5 v6 M := h
    unfold BX7_mostOf_19 at h
    refine xt_ilw X dX7_mostOf_19 5 rfl ?_
    refine xt_ilw X dX7_mostOf_21 3 rfl ?_
    refine xt_cgt (tgt := 93) X r6 r4 dX7_mostOf_23 (by decide) (fun hc => ?_) (fun hc => ?_)
    · have h := h.1 hc
      refine xt_ilw X dX7_mostOf_93 4 rfl ?_
      exact xt_iret X r5 h dX7_mostOf_95
    · have h := h.2 hc
      refine xt_al X dX7_mostOf_26 rfl 0 rfl ?_
      refine xt_ilw X dX7_mostOf_27 5 rfl ?_
      refine xt_il X dX7_mostOf_29 rfl 1 rfl ?_
      refine xt_cSI X [rV (v0), iV (v6), iV (v2)] [] (ctX7_sizeOf hG k0 r6 r2 h) gdX7_48 pdX7_sizeOf ⟨rfl, rfl⟩ ⟨Nat.le_of_ble_eq_true rfl, Nat.le_of_ble_eq_true rfl⟩ rfl (Nat.le_of_ble_eq_true rfl) dX7_mostOf_30 (fun z_5 M_6 z_5r h => ?_)
      refine xt_isw (lv2 := [(7, iV (z_5)), (0, rV (v0)), (2, iV (v2)), (3, iV (v3)), (4, iV (v4)), (5, iV (v5)), (6, iV (v6))]) X dX7_mostOf_33 (by decide) rfl ?_
      refine xt_il X dX7_mostOf_35 rfl 3 rfl ?_
      refine xt_zne (tgt := 44) X r3 dX7_mostOf_36 (by decide) (fun hc => ?_) (fun hc => ?_)
      · have h := h.2 hc
        refine xt_il X dX7_mostOf_44 rfl 3 rfl ?_
        refine xt_ic X dX7_mostOf_45 ?_
        refine xt_cne (tgt := 59) X r3 (i_rc 1 rfl) dX7_mostOf_46 (by decide) (fun hc => ?_) (fun hc => ?_)
        · have h := h.2 hc
          refine xt_ilw X dX7_mostOf_59 0 rfl ?_
          refine xt_al X dX7_mostOf_61 rfl 1 rfl ?_
          refine xt_ilw X dX7_mostOf_62 6 rfl ?_
          refine xt_il X dX7_mostOf_64 rfl 2 rfl ?_
          refine xt_cSI X [rV (v0), iV (v6), iV (v2)] [iV (z_5)] (ctX7_aheadOf hG k0 r6 r2 h) gdX7_61 pdX7_aheadOf ⟨rfl, rfl⟩ ⟨Nat.le_of_ble_eq_true rfl, Nat.le_of_ble_eq_true rfl⟩ rfl (Nat.le_of_ble_eq_true rfl) dX7_mostOf_65 (fun z_7 M_8 z_7r h => ?_)
          refine xt_sub X dX7_mostOf_68 ?_
          refine xt_isw (lv2 := [(8, iV (z_5 - z_7)), (7, iV (z_5)), (0, rV (v0)), (2, iV (v2)), (3, iV (v3)), (4, iV (v4)), (5, iV (v5)), (6, iV (v6))]) X dX7_mostOf_69 (by decide) rfl ?_
          refine xt_ilw X dX7_mostOf_71 0 rfl ?_
          refine xt_ilw X dX7_mostOf_73 6 rfl ?_
          obtain ⟨g_9, h⟩ := h
          refine xt_cle (tgt := 83) X g_9 r5 dX7_mostOf_75 (by decide) (fun hc => ?_) (fun hc => ?_)
          · have h := h.1 hc
            refine xt_ilw X dX7_mostOf_83 6 rfl ?_
            refine xt_isw (lv2 := [(5, iV (v5)), (8, iV (z_5 - z_7)), (7, iV (z_5)), (0, rV (v0)), (2, iV (v2)), (3, iV (v3)), (4, iV (v4)), (6, iV (v6))]) X dX7_mostOf_85 (by decide) rfl ?_
            refine xt_inc (lv2 := [(6, iV (v6 + 1)), (5, iV (v5)), (8, iV (z_5 - z_7)), (7, iV (z_5)), (0, rV (v0)), (2, iV (v2)), (3, iV (v3)), (4, iV (v4))]) X dX7_mostOf_87 7 rfl (by decide) rfl ?_
            refine xt_goto (tgt := 19) X dX7_mostOf_90 (by decide) ?_
            obtain ⟨g_10, h⟩ := h
            refine xt_perm (lv2 := [(0, rV (v0)), (2, iV (v2)), (3, iV (v3)), (4, iV (v4)), (5, iV (v5)), (6, iV (v6 + 1))]) [4, 5, 6, 7, 1, 0] rfl ?_
            exact ih v5 (v6 + 1) M_8 r5 g_10 h
          · have h := h.2 hc
            refine xt_ilw X dX7_mostOf_78 0 rfl ?_
            refine xt_goto (tgt := 85) X dX7_mostOf_80 (by decide) ?_
            refine xt_isw (lv2 := [(5, iV (z_5 - z_7)), (8, iV (z_5 - z_7)), (7, iV (z_5)), (0, rV (v0)), (2, iV (v2)), (3, iV (v3)), (4, iV (v4)), (6, iV (v6))]) X dX7_mostOf_85 (by decide) rfl ?_
            refine xt_inc (lv2 := [(6, iV (v6 + 1)), (5, iV (z_5 - z_7)), (8, iV (z_5 - z_7)), (7, iV (z_5)), (0, rV (v0)), (2, iV (v2)), (3, iV (v3)), (4, iV (v4))]) X dX7_mostOf_87 7 rfl (by decide) rfl ?_
            refine xt_goto (tgt := 19) X dX7_mostOf_90 (by decide) ?_
            obtain ⟨g_11, h⟩ := h
            refine xt_perm (lv2 := [(0, rV (v0)), (2, iV (v2)), (3, iV (v3)), (4, iV (v4)), (5, iV (z_5 - z_7)), (6, iV (v6 + 1))]) [4, 5, 6, 7, 1, 0] rfl ?_
            exact ih (z_5 - z_7) (v6 + 1) M_8 g_9 g_11 h
        · have h := h.1 hc
          refine xt_al X dX7_mostOf_49 rfl 1 rfl ?_
          refine xt_ilw X dX7_mostOf_50 6 rfl ?_
          refine xt_il X dX7_mostOf_52 rfl 2 rfl ?_
          refine xt_cSI X [rV (v0), iV (v6), iV (v2)] [] (ctX7_aheadOf hG k0 r6 r2 h) gdX7_61 pdX7_aheadOf ⟨rfl, rfl⟩ ⟨Nat.le_of_ble_eq_true rfl, Nat.le_of_ble_eq_true rfl⟩ rfl (Nat.le_of_ble_eq_true rfl) dX7_mostOf_53 (fun z_12 M_13 z_12r h => ?_)
          refine xt_goto (tgt := 69) X dX7_mostOf_56 (by decide) ?_
          refine xt_isw (lv2 := [(8, iV (z_12)), (7, iV (z_5)), (0, rV (v0)), (2, iV (v2)), (3, iV (v3)), (4, iV (v4)), (5, iV (v5)), (6, iV (v6))]) X dX7_mostOf_69 (by decide) rfl ?_
          refine xt_ilw X dX7_mostOf_71 0 rfl ?_
          refine xt_ilw X dX7_mostOf_73 6 rfl ?_
          refine xt_cle (tgt := 83) X z_12r r5 dX7_mostOf_75 (by decide) (fun hc => ?_) (fun hc => ?_)
          · have h := h.1 hc
            refine xt_ilw X dX7_mostOf_83 6 rfl ?_
            refine xt_isw (lv2 := [(5, iV (v5)), (8, iV (z_12)), (7, iV (z_5)), (0, rV (v0)), (2, iV (v2)), (3, iV (v3)), (4, iV (v4)), (6, iV (v6))]) X dX7_mostOf_85 (by decide) rfl ?_
            refine xt_inc (lv2 := [(6, iV (v6 + 1)), (5, iV (v5)), (8, iV (z_12)), (7, iV (z_5)), (0, rV (v0)), (2, iV (v2)), (3, iV (v3)), (4, iV (v4))]) X dX7_mostOf_87 7 rfl (by decide) rfl ?_
            refine xt_goto (tgt := 19) X dX7_mostOf_90 (by decide) ?_
            obtain ⟨g_14, h⟩ := h
            refine xt_perm (lv2 := [(0, rV (v0)), (2, iV (v2)), (3, iV (v3)), (4, iV (v4)), (5, iV (v5)), (6, iV (v6 + 1))]) [4, 5, 6, 7, 1, 0] rfl ?_
            exact ih v5 (v6 + 1) M_13 r5 g_14 h
          · have h := h.2 hc
            refine xt_ilw X dX7_mostOf_78 0 rfl ?_
            refine xt_goto (tgt := 85) X dX7_mostOf_80 (by decide) ?_
            refine xt_isw (lv2 := [(5, iV (z_12)), (8, iV (z_12)), (7, iV (z_5)), (0, rV (v0)), (2, iV (v2)), (3, iV (v3)), (4, iV (v4)), (6, iV (v6))]) X dX7_mostOf_85 (by decide) rfl ?_
            refine xt_inc (lv2 := [(6, iV (v6 + 1)), (5, iV (z_12)), (8, iV (z_12)), (7, iV (z_5)), (0, rV (v0)), (2, iV (v2)), (3, iV (v3)), (4, iV (v4))]) X dX7_mostOf_87 7 rfl (by decide) rfl ?_
            refine xt_goto (tgt := 19) X dX7_mostOf_90 (by decide) ?_
            obtain ⟨g_15, h⟩ := h
            refine xt_perm (lv2 := [(0, rV (v0)), (2, iV (v2)), (3, iV (v3)), (4, iV (v4)), (5, iV (z_12)), (6, iV (v6 + 1))]) [4, 5, 6, 7, 1, 0] rfl ?_
            exact ih z_12 (v6 + 1) M_13 z_12r g_15 h
      · have h := h.1 hc
        refine xt_ilw X dX7_mostOf_39 0 rfl ?_
        refine xt_goto (tgt := 69) X dX7_mostOf_41 (by decide) ?_
        refine xt_isw (lv2 := [(8, iV (z_5)), (7, iV (z_5)), (0, rV (v0)), (2, iV (v2)), (3, iV (v3)), (4, iV (v4)), (5, iV (v5)), (6, iV (v6))]) X dX7_mostOf_69 (by decide) rfl ?_
        refine xt_ilw X dX7_mostOf_71 0 rfl ?_
        refine xt_ilw X dX7_mostOf_73 6 rfl ?_
        refine xt_cle (tgt := 83) X z_5r r5 dX7_mostOf_75 (by decide) (fun hc => ?_) (fun hc => ?_)
        · have h := h.1 hc
          refine xt_ilw X dX7_mostOf_83 6 rfl ?_
          refine xt_isw (lv2 := [(5, iV (v5)), (8, iV (z_5)), (7, iV (z_5)), (0, rV (v0)), (2, iV (v2)), (3, iV (v3)), (4, iV (v4)), (6, iV (v6))]) X dX7_mostOf_85 (by decide) rfl ?_
          refine xt_inc (lv2 := [(6, iV (v6 + 1)), (5, iV (v5)), (8, iV (z_5)), (7, iV (z_5)), (0, rV (v0)), (2, iV (v2)), (3, iV (v3)), (4, iV (v4))]) X dX7_mostOf_87 7 rfl (by decide) rfl ?_
          refine xt_goto (tgt := 19) X dX7_mostOf_90 (by decide) ?_
          obtain ⟨g_16, h⟩ := h
          refine xt_perm (lv2 := [(0, rV (v0)), (2, iV (v2)), (3, iV (v3)), (4, iV (v4)), (5, iV (v5)), (6, iV (v6 + 1))]) [4, 5, 6, 7, 1, 0] rfl ?_
          exact ih v5 (v6 + 1) M_6 r5 g_16 h
        · have h := h.2 hc
          refine xt_ilw X dX7_mostOf_78 0 rfl ?_
          refine xt_goto (tgt := 85) X dX7_mostOf_80 (by decide) ?_
          refine xt_isw (lv2 := [(5, iV (z_5)), (8, iV (z_5)), (7, iV (z_5)), (0, rV (v0)), (2, iV (v2)), (3, iV (v3)), (4, iV (v4)), (6, iV (v6))]) X dX7_mostOf_85 (by decide) rfl ?_
          refine xt_inc (lv2 := [(6, iV (v6 + 1)), (5, iV (z_5)), (8, iV (z_5)), (7, iV (z_5)), (0, rV (v0)), (2, iV (v2)), (3, iV (v3)), (4, iV (v4))]) X dX7_mostOf_87 7 rfl (by decide) rfl ?_
          refine xt_goto (tgt := 19) X dX7_mostOf_90 (by decide) ?_
          obtain ⟨g_17, h⟩ := h
          refine xt_perm (lv2 := [(0, rV (v0)), (2, iV (v2)), (3, iV (v3)), (4, iV (v4)), (5, iV (z_5)), (6, iV (v6 + 1))]) [4, 5, 6, 7, 1, 0] rfl ?_
          exact ih z_5 (v6 + 1) M_6 z_5r g_17 h
set_option maxHeartbeats 4000000 in
set_option maxRecDepth 100000 in
theorem ctX7_mostOf {l : Launch} {G : GG} (hG : Gd G) {v0 : Int} {v1 : Int} {v2 : Int} {v3 : Int} {M : Mm} {Q : Int → Mm → Prop} (k0 : gK G v0 = (8, 327)) (r1 : inR v1) (r2 : inR v2) (r3 : inR v3) (h : PX7_mostOf v0 v1 v2 v3 M Q) : Met l yX7_mostOf (Cond.code yX7_mostOf cX7_mostOf 9 ((some FieldType.int)) :: tw) rmX7_mostOf (Pre G M [rV (v0), iV (v1), iV (v2), iV (v3)]) (PostI G Q) 0 0 (gA G) := by
  refine met_of (own := RX7) (by decide) rfl hG (Nat.le_of_ble_eq_true rfl) (fun p e s m below meth c X => ?_)
  generalize hargs : ([rV (v0), iV (v1), iV (v2), iV (v3)] : List Value).toArray = args at X ⊢
  show Wt p l e rmX7_mostOf s m args below meth c G (MQ below (PostI G Q) args s 0 0 (gA G)) 9 M [(0, rV (v0)), (1, iV (v1)), (2, iV (v2)), (3, iV (v3))] 0 []
  unfold PX7_mostOf at h
  refine xt_al X dX7_mostOf_0 rfl 0 rfl ?_
  refine xt_il X dX7_mostOf_1 rfl 1 rfl ?_
  refine xt_il X dX7_mostOf_2 rfl 2 rfl ?_
  refine xt_cSI X [rV (v0), iV (v1), iV (v2)] [] (ctX7_lastOf hG k0 r1 r2 h) gdX7_55 pdX7_lastOf ⟨rfl, rfl⟩ ⟨Nat.le_of_ble_eq_true rfl, Nat.le_of_ble_eq_true rfl⟩ rfl (Nat.le_of_ble_eq_true rfl) dX7_mostOf_3 (fun z_1 M_2 z_1r h => ?_)
  refine xt_isw (lv2 := [(4, iV (z_1)), (0, rV (v0)), (1, iV (v1)), (2, iV (v2)), (3, iV (v3))]) X dX7_mostOf_6 (by decide) rfl ?_
  refine xt_ic X dX7_mostOf_8 ?_
  refine xt_isw (lv2 := [(5, iV (0)), (4, iV (z_1)), (0, rV (v0)), (1, iV (v1)), (2, iV (v2)), (3, iV (v3))]) X dX7_mostOf_9 (by decide) rfl ?_
  refine xt_al X dX7_mostOf_11 rfl 2 rfl ?_
  refine xt_il X dX7_mostOf_12 rfl 3 rfl ?_
  refine xt_il X dX7_mostOf_13 rfl 4 rfl ?_
  refine xt_cSI X [rV (v0), iV (v1), iV (v2)] [] (ctX7_firstOf hG k0 r1 r2 h) gdX7_58 pdX7_firstOf ⟨rfl, rfl⟩ ⟨Nat.le_of_ble_eq_true rfl, Nat.le_of_ble_eq_true rfl⟩ rfl (Nat.le_of_ble_eq_true rfl) dX7_mostOf_14 (fun z_3 M_4 z_3r h => ?_)
  refine xt_isw (lv2 := [(6, iV (z_3)), (5, iV (0)), (4, iV (z_1)), (0, rV (v0)), (1, iV (v1)), (2, iV (v2)), (3, iV (v3))]) X dX7_mostOf_17 (by decide) rfl ?_
  obtain ⟨n_18, h⟩ := h
  refine xt_perm (lv2 := [(0, rV (v0)), (2, iV (v2)), (3, iV (v3)), (4, iV (z_1)), (5, iV (0)), (6, iV (z_3))]) [3, 5, 6, 2, 1, 0] rfl ?_
  refine wX7_mostOf_19 X k0 r2 r3 z_1r  n_18 0 z_3 M_4 (i_rc 0 rfl) z_3r h
abbrev rmX7_needOf : Room := { frames := 5, cells := 0, slots := 0, locals := 123 }
def PX7_needOf (v0 : Int) (v1 : Int) (v2 : Int) (M : Mm) (Q : Int → Mm → Prop) : Prop :=
  ((0 ≤ (303 + v2) ∧ (303 + v2) < 327) ∧
  (((M v0 (303 + v2)) = 3 → (PX7_mostOf v0 v1 v2 1 M (fun z_5 M_6 =>
  (PX7_mostOf v0 v1 v2 2 M_6 (fun z_7 M_8 =>
  (inR (z_5 + z_7) ∧
  Q (z_5 + z_7) M_8)))))) ∧
  (¬ (M v0 (303 + v2)) = 3 → (PX7_mostOf v0 v1 v2 0 M (fun z_3 M_4 =>
  Q z_3 M_4)))))
set_option maxHeartbeats 4000000 in
set_option maxRecDepth 100000 in
theorem ctX7_needOf {l : Launch} {G : GG} (hG : Gd G) {v0 : Int} {v1 : Int} {v2 : Int} {M : Mm} {Q : Int → Mm → Prop} (k0 : gK G v0 = (8, 327)) (r1 : inR v1) (r2 : inR v2) (h : PX7_needOf v0 v1 v2 M Q) : Met l yX7_needOf (Cond.code yX7_needOf cX7_needOf 3 ((some FieldType.int)) :: tw) rmX7_needOf (Pre G M [rV (v0), iV (v1), iV (v2)]) (PostI G Q) 0 0 (gA G) := by
  refine met_of (own := RX7) (by decide) rfl hG (Nat.le_of_ble_eq_true rfl) (fun p e s m below meth c X => ?_)
  generalize hargs : ([rV (v0), iV (v1), iV (v2)] : List Value).toArray = args at X ⊢
  show Wt p l e rmX7_needOf s m args below meth c G (MQ below (PostI G Q) args s 0 0 (gA G)) 3 M [(0, rV (v0)), (1, iV (v1)), (2, iV (v2))] 0 []
  unfold PX7_needOf at h
  refine xt_al X dX7_needOf_0 rfl 0 rfl ?_
  refine xt_si X dX7_needOf_1 (by decide) ?_
  refine xt_il X dX7_needOf_4 rfl 2 rfl ?_
  refine xt_add X dX7_needOf_5 ?_
  obtain ⟨g_1, h⟩ := h
  refine xt_iald X k0 g_1 (by decide) dX7_needOf_6 (fun r_2 => ?_)
  refine xt_ic X dX7_needOf_7 ?_
  refine xt_cne (tgt := 29) X r_2 (i_rc 3 rfl) dX7_needOf_8 (by decide) (fun hc => ?_) (fun hc => ?_)
  · have h := h.2 hc
    refine xt_al X dX7_needOf_29 rfl 0 rfl ?_
    refine xt_il X dX7_needOf_30 rfl 1 rfl ?_
    refine xt_il X dX7_needOf_31 rfl 2 rfl ?_
    refine xt_ic X dX7_needOf_32 ?_
    refine xt_cSI X [rV (v0), iV (v1), iV (v2), iV (0)] [] (ctX7_mostOf hG k0 r1 r2 (i_rc 0 rfl) h) gdX7_64 pdX7_mostOf ⟨rfl, rfl⟩ ⟨Nat.le_of_ble_eq_true rfl, Nat.le_of_ble_eq_true rfl⟩ rfl (Nat.le_of_ble_eq_true rfl) dX7_needOf_33 (fun z_3 M_4 z_3r h => ?_)
    exact xt_iret X z_3r h dX7_needOf_36
  · have h := h.1 hc
    refine xt_al X dX7_needOf_11 rfl 0 rfl ?_
    refine xt_il X dX7_needOf_12 rfl 1 rfl ?_
    refine xt_il X dX7_needOf_13 rfl 2 rfl ?_
    refine xt_ic X dX7_needOf_14 ?_
    refine xt_cSI X [rV (v0), iV (v1), iV (v2), iV (1)] [] (ctX7_mostOf hG k0 r1 r2 (i_rc 1 rfl) h) gdX7_64 pdX7_mostOf ⟨rfl, rfl⟩ ⟨Nat.le_of_ble_eq_true rfl, Nat.le_of_ble_eq_true rfl⟩ rfl (Nat.le_of_ble_eq_true rfl) dX7_needOf_15 (fun z_5 M_6 z_5r h => ?_)
    refine xt_al X dX7_needOf_18 rfl 0 rfl ?_
    refine xt_il X dX7_needOf_19 rfl 1 rfl ?_
    refine xt_il X dX7_needOf_20 rfl 2 rfl ?_
    refine xt_ic X dX7_needOf_21 ?_
    refine xt_cSI X [rV (v0), iV (v1), iV (v2), iV (2)] [iV (z_5)] (ctX7_mostOf hG k0 r1 r2 (i_rc 2 rfl) h) gdX7_64 pdX7_mostOf ⟨rfl, rfl⟩ ⟨Nat.le_of_ble_eq_true rfl, Nat.le_of_ble_eq_true rfl⟩ rfl (Nat.le_of_ble_eq_true rfl) dX7_needOf_22 (fun z_7 M_8 z_7r h => ?_)
    refine xt_add X dX7_needOf_25 ?_
    refine xt_goto (tgt := 36) X dX7_needOf_26 (by decide) ?_
    obtain ⟨g_9, h⟩ := h
    exact xt_iret X g_9 h dX7_needOf_36
abbrev rmX7_widthOf : Room := { frames := 6, cells := 0, slots := 0, locals := 145 }
def PX7_widthOf (v0 : Int) (v1 : Int) (v2 : Int) (M : Mm) (Q : Int → Mm → Prop) : Prop :=
  (PX7_needOf v0 v1 v2 M (fun z_1 M_2 =>
  (((M_2 v0 2) ≤ z_1 → (inR (z_1 + (M_2 v0 1)) ∧
  Q (z_1 + (M_2 v0 1)) M_2)) ∧
  (¬ (M_2 v0 2) ≤ z_1 → (inR ((M_2 v0 2) + (M_2 v0 1)) ∧
  Q ((M_2 v0 2) + (M_2 v0 1)) M_2)))))
set_option maxHeartbeats 4000000 in
set_option maxRecDepth 100000 in
theorem ctX7_widthOf {l : Launch} {G : GG} (hG : Gd G) {v0 : Int} {v1 : Int} {v2 : Int} {M : Mm} {Q : Int → Mm → Prop} (k0 : gK G v0 = (8, 327)) (r1 : inR v1) (r2 : inR v2) (h : PX7_widthOf v0 v1 v2 M Q) : Met l yX7_widthOf (Cond.code yX7_widthOf cX7_widthOf 4 ((some FieldType.int)) :: tw) rmX7_widthOf (Pre G M [rV (v0), iV (v1), iV (v2)]) (PostI G Q) 0 0 (gA G) := by
  refine met_of (own := RX7) (by decide) rfl hG (Nat.le_of_ble_eq_true rfl) (fun p e s m below meth c X => ?_)
  generalize hargs : ([rV (v0), iV (v1), iV (v2)] : List Value).toArray = args at X ⊢
  show Wt p l e rmX7_widthOf s m args below meth c G (MQ below (PostI G Q) args s 0 0 (gA G)) 4 M [(0, rV (v0)), (1, iV (v1)), (2, iV (v2))] 0 []
  unfold PX7_widthOf at h
  refine xt_al X dX7_widthOf_0 rfl 0 rfl ?_
  refine xt_il X dX7_widthOf_1 rfl 1 rfl ?_
  refine xt_il X dX7_widthOf_2 rfl 2 rfl ?_
  refine xt_cSI X [rV (v0), iV (v1), iV (v2)] [] (ctX7_needOf hG k0 r1 r2 h) gdX7_68 pdX7_needOf ⟨rfl, rfl⟩ ⟨Nat.le_of_ble_eq_true rfl, Nat.le_of_ble_eq_true rfl⟩ rfl (Nat.le_of_ble_eq_true rfl) dX7_widthOf_3 (fun z_1 M_2 z_1r h => ?_)
  refine xt_is (lv2 := [(3, iV (z_1)), (0, rV (v0)), (1, iV (v1)), (2, iV (v2))]) X dX7_widthOf_6 rfl (by decide) rfl ?_
  refine xt_il X dX7_widthOf_7 rfl 0 rfl ?_
  refine xt_al X dX7_widthOf_8 rfl 1 rfl ?_
  refine xt_ic X dX7_widthOf_9 ?_
  refine xt_iald X k0 ⟨by decide, by decide⟩ (by decide) dX7_widthOf_10 (fun r_3 => ?_)
  refine xt_cge (tgt := 20) X z_1r r_3 dX7_widthOf_11 (by decide) (fun hc => ?_) (fun hc => ?_)
  · have h := h.1 hc
    refine xt_il X dX7_widthOf_20 rfl 0 rfl ?_
    refine xt_al X dX7_widthOf_21 rfl 1 rfl ?_
    refine xt_ic X dX7_widthOf_22 ?_
    refine xt_iald X k0 ⟨by decide, by decide⟩ (by decide) dX7_widthOf_23 (fun r_4 => ?_)
    refine xt_add X dX7_widthOf_24 ?_
    obtain ⟨g_5, h⟩ := h
    exact xt_iret X g_5 h dX7_widthOf_25
  · have h := h.2 hc
    refine xt_al X dX7_widthOf_14 rfl 1 rfl ?_
    refine xt_ic X dX7_widthOf_15 ?_
    refine xt_iald X k0 ⟨by decide, by decide⟩ (by decide) dX7_widthOf_16 (fun r_6 => ?_)
    refine xt_goto (tgt := 21) X dX7_widthOf_17 (by decide) ?_
    refine xt_al X dX7_widthOf_21 rfl 1 rfl ?_
    refine xt_ic X dX7_widthOf_22 ?_
    refine xt_iald X k0 ⟨by decide, by decide⟩ (by decide) dX7_widthOf_23 (fun r_7 => ?_)
    refine xt_add X dX7_widthOf_24 ?_
    obtain ⟨g_8, h⟩ := h
    exact xt_iret X g_8 h dX7_widthOf_25
abbrev rmX7_beginsOf : Room := { frames := 7, cells := 0, slots := 0, locals := 168 }
def BX7_beginsOf_5  (Q : Int → Mm → Prop) (v0 : Int) (v1 : Int) (v2 : Int) (rec : Int → Int → Mm → Prop) (v3 : Int) (v4 : Int) (M : Mm) : Prop :=
  ((v2 ≤ v4 → Q v3 M) ∧
  (¬ v2 ≤ v4 → (PX7_widthOf v0 v1 v4 M (fun z_1 M_2 =>
  (inR (v3 + z_1) ∧
  (inR (v4 + 1) ∧
  rec (v3 + z_1) (v4 + 1) M_2))))))
def PX7_beginsOf (v0 : Int) (v1 : Int) (v2 : Int) (M : Mm) (Q : Int → Mm → Prop) : Prop :=
  ∃ n_5 : Nat, lp_II (BX7_beginsOf_5  Q v0 v1 v2) n_5 0 0 M
set_option maxHeartbeats 4000000 in
set_option maxRecDepth 100000 in
theorem wX7_beginsOf_5 {p : Program} {l : Launch} {e : Env} {s : State} {m : MethodId} {args : Array Value} {below : List Frame} {meth : Method} {c : Code} {G : GG} (X : Cx p s m args meth c cX7_beginsOf 5 ((some FieldType.int)) RX7 G) {Q : Int → Mm → Prop}  {v0 : Int} {v1 : Int} {v2 : Int} (k0 : gK G v0 = (8, 327)) (r1 : inR v1) (r2 : inR v2)  : ∀ (n : Nat) (v3 : Int) (v4 : Int) (M : Mm), inR v3 → inR v4 → lp_II (BX7_beginsOf_5  Q v0 v1 v2) n v3 v4 M → Wt p l e rmX7_beginsOf s m args below meth c G (MQ below (PostI G Q) args s 0 0 (gA G)) 5 M [(0, rV (v0)), (1, iV (v1)), (2, iV (v2)), (3, iV (v3)), (4, iV (v4))] 5 [] := by
  have hG := X.2.2.2.2.2.2.2.2
  intro n
  induction n with
  | zero => intro v3 v4 M r3 r4 h; exact h.elim
  | succ n ih =>
    intro v3 v4 M r3 r4 h
    have h : BX7_beginsOf_5  Q v0 v1 v2 (lp_II (BX7_beginsOf_5  Q v0 v1 v2) n) v3 v4 M := h
    unfold BX7_beginsOf_5 at h
    refine xt_ilw X dX7_beginsOf_5 4 rfl ?_
    refine xt_il X dX7_beginsOf_7 rfl 2 rfl ?_
    refine xt_cge (tgt := 27) X r4 r2 dX7_beginsOf_8 (by decide) (fun hc => ?_) (fun hc => ?_)
    · have h := h.1 hc
      refine xt_il X dX7_beginsOf_27 rfl 3 rfl ?_
      exact xt_iret X r3 h dX7_beginsOf_28
    · have h := h.2 hc
      refine xt_il X dX7_beginsOf_11 rfl 3 rfl ?_
      refine xt_al X dX7_beginsOf_12 rfl 0 rfl ?_
      refine xt_il X dX7_beginsOf_13 rfl 1 rfl ?_
      refine xt_ilw X dX7_beginsOf_14 4 rfl ?_
      refine xt_cSI X [rV (v0), iV (v1), iV (v4)] [iV (v3)] (ctX7_widthOf hG k0 r1 r4 h) gdX7_71 pdX7_widthOf ⟨rfl, rfl⟩ ⟨Nat.le_of_ble_eq_true rfl, Nat.le_of_ble_eq_true rfl⟩ rfl (Nat.le_of_ble_eq_true rfl) dX7_beginsOf_16 (fun z_1 M_2 z_1r h => ?_)
      refine xt_add X dX7_beginsOf_19 ?_
      refine xt_is (lv2 := [(3, iV (v3 + z_1)), (0, rV (v0)), (1, iV (v1)), (2, iV (v2)), (4, iV (v4))]) X dX7_beginsOf_20 rfl (by decide) rfl ?_
      refine xt_inc (lv2 := [(4, iV (v4 + 1)), (3, iV (v3 + z_1)), (0, rV (v0)), (1, iV (v1)), (2, iV (v2))]) X dX7_beginsOf_21 4 rfl (by decide) rfl ?_
      refine xt_goto (tgt := 5) X dX7_beginsOf_24 (by decide) ?_
      obtain ⟨g_3, h⟩ := h
      obtain ⟨g_4, h⟩ := h
      refine xt_perm (lv2 := [(0, rV (v0)), (1, iV (v1)), (2, iV (v2)), (3, iV (v3 + z_1)), (4, iV (v4 + 1))]) [2, 3, 4, 1, 0] rfl ?_
      exact ih (v3 + z_1) (v4 + 1) M_2 g_3 g_4 h
set_option maxHeartbeats 4000000 in
set_option maxRecDepth 100000 in
theorem ctX7_beginsOf {l : Launch} {G : GG} (hG : Gd G) {v0 : Int} {v1 : Int} {v2 : Int} {M : Mm} {Q : Int → Mm → Prop} (k0 : gK G v0 = (8, 327)) (r1 : inR v1) (r2 : inR v2) (h : PX7_beginsOf v0 v1 v2 M Q) : Met l yX7_beginsOf (Cond.code yX7_beginsOf cX7_beginsOf 5 ((some FieldType.int)) :: tw) rmX7_beginsOf (Pre G M [rV (v0), iV (v1), iV (v2)]) (PostI G Q) 0 0 (gA G) := by
  refine met_of (own := RX7) (by decide) rfl hG (Nat.le_of_ble_eq_true rfl) (fun p e s m below meth c X => ?_)
  generalize hargs : ([rV (v0), iV (v1), iV (v2)] : List Value).toArray = args at X ⊢
  show Wt p l e rmX7_beginsOf s m args below meth c G (MQ below (PostI G Q) args s 0 0 (gA G)) 5 M [(0, rV (v0)), (1, iV (v1)), (2, iV (v2))] 0 []
  unfold PX7_beginsOf at h
  refine xt_ic X dX7_beginsOf_0 ?_
  refine xt_is (lv2 := [(3, iV (0)), (0, rV (v0)), (1, iV (v1)), (2, iV (v2))]) X dX7_beginsOf_1 rfl (by decide) rfl ?_
  refine xt_ic X dX7_beginsOf_2 ?_
  refine xt_isw (lv2 := [(4, iV (0)), (3, iV (0)), (0, rV (v0)), (1, iV (v1)), (2, iV (v2))]) X dX7_beginsOf_3 (by decide) rfl ?_
  obtain ⟨n_5, h⟩ := h
  refine xt_perm (lv2 := [(0, rV (v0)), (1, iV (v1)), (2, iV (v2)), (3, iV (0)), (4, iV (0))]) [2, 3, 4, 1, 0] rfl ?_
  refine wX7_beginsOf_5 X k0 r1 r2  n_5 0 0 M (i_rc 0 rfl) (i_rc 0 rfl) h
abbrev rmX7_wideOf : Room := { frames := 8, cells := 0, slots := 0, locals := 192 }
def PX7_wideOf (v0 : Int) (v1 : Int) (M : Mm) (Q : Int → Mm → Prop) : Prop :=
  (PX7_cellsOf v0 v1 M (fun z_1 M_2 =>
  (PX7_beginsOf v0 v1 z_1 M_2 (fun z_3 M_4 =>
  (PX7_sizeOf v0 v1 z_1 M_4 (fun z_5 M_6 =>
  (inR (z_3 + z_5) ∧
  Q (z_3 + z_5) M_6)))))))
set_option maxHeartbeats 4000000 in
set_option maxRecDepth 100000 in
theorem ctX7_wideOf {l : Launch} {G : GG} (hG : Gd G) {v0 : Int} {v1 : Int} {M : Mm} {Q : Int → Mm → Prop} (k0 : gK G v0 = (8, 327)) (r1 : inR v1) (h : PX7_wideOf v0 v1 M Q) : Met l yX7_wideOf (Cond.code yX7_wideOf cX7_wideOf 3 ((some FieldType.int)) :: tw) rmX7_wideOf (Pre G M [rV (v0), iV (v1)]) (PostI G Q) 0 0 (gA G) := by
  refine met_of (own := RX7) (by decide) rfl hG (Nat.le_of_ble_eq_true rfl) (fun p e s m below meth c X => ?_)
  generalize hargs : ([rV (v0), iV (v1)] : List Value).toArray = args at X ⊢
  show Wt p l e rmX7_wideOf s m args below meth c G (MQ below (PostI G Q) args s 0 0 (gA G)) 3 M [(0, rV (v0)), (1, iV (v1))] 0 []
  unfold PX7_wideOf at h
  refine xt_al X dX7_wideOf_0 rfl 0 rfl ?_
  refine xt_il X dX7_wideOf_1 rfl 1 rfl ?_
  refine xt_cSI X [rV (v0), iV (v1)] [] (ctX7_cellsOf hG k0 r1 h) gdX7_51 pdX7_cellsOf ⟨rfl, rfl⟩ ⟨Nat.le_of_ble_eq_true rfl, Nat.le_of_ble_eq_true rfl⟩ rfl (Nat.le_of_ble_eq_true rfl) dX7_wideOf_2 (fun z_1 M_2 z_1r h => ?_)
  refine xt_is (lv2 := [(2, iV (z_1)), (0, rV (v0)), (1, iV (v1))]) X dX7_wideOf_5 rfl (by decide) rfl ?_
  refine xt_al X dX7_wideOf_6 rfl 1 rfl ?_
  refine xt_il X dX7_wideOf_7 rfl 2 rfl ?_
  refine xt_il X dX7_wideOf_8 rfl 0 rfl ?_
  refine xt_cSI X [rV (v0), iV (v1), iV (z_1)] [] (ctX7_beginsOf hG k0 r1 z_1r h) gdX7_74 pdX7_beginsOf ⟨rfl, rfl⟩ ⟨Nat.le_of_ble_eq_true rfl, Nat.le_of_ble_eq_true rfl⟩ rfl (Nat.le_of_ble_eq_true rfl) dX7_wideOf_9 (fun z_3 M_4 z_3r h => ?_)
  refine xt_al X dX7_wideOf_12 rfl 1 rfl ?_
  refine xt_il X dX7_wideOf_13 rfl 2 rfl ?_
  refine xt_il X dX7_wideOf_14 rfl 0 rfl ?_
  refine xt_cSI X [rV (v0), iV (v1), iV (z_1)] [iV (z_3)] (ctX7_sizeOf hG k0 r1 z_1r h) gdX7_48 pdX7_sizeOf ⟨rfl, rfl⟩ ⟨Nat.le_of_ble_eq_true rfl, Nat.le_of_ble_eq_true rfl⟩ rfl (Nat.le_of_ble_eq_true rfl) dX7_wideOf_15 (fun z_5 M_6 z_5r h => ?_)
  refine xt_add X dX7_wideOf_18 ?_
  obtain ⟨g_7, h⟩ := h
  exact xt_iret X g_7 h dX7_wideOf_19
abbrev rmX7_allWide : Room := { frames := 9, cells := 0, slots := 0, locals := 214 }
def BX7_allWide_4  (Q : Int → Mm → Prop) (v0 : Int) (rec : Int → Int → Mm → Prop) (v1 : Int) (v2 : Int) (M : Mm) : Prop :=
  (((M v0 0) ≤ v2 → Q v1 M) ∧
  (¬ (M v0 0) ≤ v2 → (PX7_wideOf v0 v2 M (fun z_2 M_3 =>
  (inR (v1 + z_2) ∧
  (inR (v2 + 1) ∧
  rec (v1 + z_2) (v2 + 1) M_3))))))
def PX7_allWide (v0 : Int) (M : Mm) (Q : Int → Mm → Prop) : Prop :=
  ∃ n_6 : Nat, lp_II (BX7_allWide_4  Q v0) n_6 0 0 M
set_option maxHeartbeats 4000000 in
set_option maxRecDepth 100000 in
theorem wX7_allWide_4 {p : Program} {l : Launch} {e : Env} {s : State} {m : MethodId} {args : Array Value} {below : List Frame} {meth : Method} {c : Code} {G : GG} (X : Cx p s m args meth c cX7_allWide 3 ((some FieldType.int)) RX7 G) {Q : Int → Mm → Prop}  {v0 : Int} (k0 : gK G v0 = (8, 327))  : ∀ (n : Nat) (v1 : Int) (v2 : Int) (M : Mm), inR v1 → inR v2 → lp_II (BX7_allWide_4  Q v0) n v1 v2 M → Wt p l e rmX7_allWide s m args below meth c G (MQ below (PostI G Q) args s 0 0 (gA G)) 3 M [(0, rV (v0)), (1, iV (v1)), (2, iV (v2))] 4 [] := by
  have hG := X.2.2.2.2.2.2.2.2
  intro n
  induction n with
  | zero => intro v1 v2 M r1 r2 h; exact h.elim
  | succ n ih =>
    intro v1 v2 M r1 r2 h
    have h : BX7_allWide_4  Q v0 (lp_II (BX7_allWide_4  Q v0) n) v1 v2 M := h
    unfold BX7_allWide_4 at h
    refine xt_il X dX7_allWide_4 rfl 2 rfl ?_
    refine xt_al X dX7_allWide_5 rfl 0 rfl ?_
    refine xt_ic X dX7_allWide_6 ?_
    refine xt_iald X k0 ⟨by decide, by decide⟩ (by decide) dX7_allWide_7 (fun r_1 => ?_)
    refine xt_cge (tgt := 25) X r2 r_1 dX7_allWide_8 (by decide) (fun hc => ?_) (fun hc => ?_)
    · have h := h.1 hc
      refine xt_il X dX7_allWide_25 rfl 1 rfl ?_
      exact xt_iret X r1 h dX7_allWide_26
    · have h := h.2 hc
      refine xt_il X dX7_allWide_11 rfl 1 rfl ?_
      refine xt_al X dX7_allWide_12 rfl 0 rfl ?_
      refine xt_il X dX7_allWide_13 rfl 2 rfl ?_
      refine xt_cSI X [rV (v0), iV (v2)] [iV (v1)] (ctX7_wideOf hG k0 r2 h) gdX7_77 pdX7_wideOf ⟨rfl, rfl⟩ ⟨Nat.le_of_ble_eq_true rfl, Nat.le_of_ble_eq_true rfl⟩ rfl (Nat.le_of_ble_eq_true rfl) dX7_allWide_14 (fun z_2 M_3 z_2r h => ?_)
      refine xt_add X dX7_allWide_17 ?_
      refine xt_is (lv2 := [(1, iV (v1 + z_2)), (0, rV (v0)), (2, iV (v2))]) X dX7_allWide_18 rfl (by decide) rfl ?_
      refine xt_inc (lv2 := [(2, iV (v2 + 1)), (1, iV (v1 + z_2)), (0, rV (v0))]) X dX7_allWide_19 2 rfl (by decide) rfl ?_
      refine xt_goto (tgt := 4) X dX7_allWide_22 (by decide) ?_
      obtain ⟨g_4, h⟩ := h
      obtain ⟨g_5, h⟩ := h
      refine xt_perm (lv2 := [(0, rV (v0)), (1, iV (v1 + z_2)), (2, iV (v2 + 1))]) [2, 1, 0] rfl ?_
      exact ih (v1 + z_2) (v2 + 1) M_3 g_4 g_5 h
set_option maxHeartbeats 4000000 in
set_option maxRecDepth 100000 in
theorem ctX7_allWide {l : Launch} {G : GG} (hG : Gd G) {v0 : Int} {M : Mm} {Q : Int → Mm → Prop} (k0 : gK G v0 = (8, 327)) (h : PX7_allWide v0 M Q) : Met l yX7_allWide (Cond.code yX7_allWide cX7_allWide 3 ((some FieldType.int)) :: tw) rmX7_allWide (Pre G M [rV (v0)]) (PostI G Q) 0 0 (gA G) := by
  refine met_of (own := RX7) (by decide) rfl hG (Nat.le_of_ble_eq_true rfl) (fun p e s m below meth c X => ?_)
  generalize hargs : ([rV (v0)] : List Value).toArray = args at X ⊢
  show Wt p l e rmX7_allWide s m args below meth c G (MQ below (PostI G Q) args s 0 0 (gA G)) 3 M [(0, rV (v0))] 0 []
  unfold PX7_allWide at h
  refine xt_ic X dX7_allWide_0 ?_
  refine xt_is (lv2 := [(1, iV (0)), (0, rV (v0))]) X dX7_allWide_1 rfl (by decide) rfl ?_
  refine xt_ic X dX7_allWide_2 ?_
  refine xt_is (lv2 := [(2, iV (0)), (1, iV (0)), (0, rV (v0))]) X dX7_allWide_3 rfl (by decide) rfl ?_
  obtain ⟨n_6, h⟩ := h
  refine xt_perm (lv2 := [(0, rV (v0)), (1, iV (0)), (2, iV (0))]) [2, 1, 0] rfl ?_
  refine wX7_allWide_4 X k0  n_6 0 0 M (i_rc 0 rfl) (i_rc 0 rfl) h
abbrev rmX7_isSign : Room := { frames := 1, cells := 0, slots := 0, locals := 22 }
def PX7_isSign (v0 : Int) (M : Mm) (Q : Int → Mm → Prop) : Prop :=
  (PX7_in v0 97 122 M (fun z_1 M_2 =>
  ((z_1 = 0 → (PX7_in v0 48 57 M_2 (fun z_3 M_4 =>
  ((z_3 = 0 → ((v0 = 46 → Q 1 M_4) ∧
  (¬ v0 = 46 → ((v0 = 45 → Q 1 M_4) ∧
  (¬ v0 = 45 → ((v0 = 124 → Q 1 M_4) ∧
  (¬ v0 = 124 → Q 0 M_4))))))) ∧
  (¬ z_3 = 0 → Q 1 M_4))))) ∧
  (¬ z_1 = 0 → Q 1 M_2))))
set_option maxHeartbeats 4000000 in
set_option maxRecDepth 100000 in
theorem ctX7_isSign {l : Launch} {G : GG} (hG : Gd G) {v0 : Int} {M : Mm} {Q : Int → Mm → Prop} (r0 : inR v0) (h : PX7_isSign v0 M Q) : Met l yX7_isSign (Cond.code yX7_isSign cX7_isSign 1 ((some FieldType.boolean)) :: tw) rmX7_isSign (Pre G M [iV (v0)]) (PostI G Q) 0 0 (gA G) := by
  refine met_of (own := RX7) (by decide) rfl hG (Nat.le_of_ble_eq_true rfl) (fun p e s m below meth c X => ?_)
  generalize hargs : ([iV (v0)] : List Value).toArray = args at X ⊢
  show Wt p l e rmX7_isSign s m args below meth c G (MQ below (PostI G Q) args s 0 0 (gA G)) 1 M [(0, iV (v0))] 0 []
  unfold PX7_isSign at h
  refine xt_il X dX7_isSign_0 rfl 0 rfl ?_
  refine xt_bi X dX7_isSign_1 (by decide) ?_
  refine xt_bi X dX7_isSign_3 (by decide) ?_
  refine xt_cSI X [iV (v0), iV (97), iV (122)] [] (ctX7_in hG r0 (i_rc 97 rfl) (i_rc 122 rfl) h) gdX7_80 pdX7_in ⟨rfl, rfl⟩ ⟨Nat.le_of_ble_eq_true rfl, Nat.le_of_ble_eq_true rfl⟩ rfl (Nat.le_of_ble_eq_true rfl) dX7_isSign_5 (fun z_1 M_2 z_1r h => ?_)
  refine xt_zne (tgt := 40) X z_1r dX7_isSign_8 (by decide) (fun hc => ?_) (fun hc => ?_)
  · have h := h.2 hc
    refine xt_ic X dX7_isSign_40 ?_
    refine xt_goto (tgt := 45) X dX7_isSign_41 (by decide) ?_
    exact xt_zret X (Or.inr rfl) h dX7_isSign_45
  · have h := h.1 hc
    refine xt_il X dX7_isSign_11 rfl 0 rfl ?_
    refine xt_bi X dX7_isSign_12 (by decide) ?_
    refine xt_bi X dX7_isSign_14 (by decide) ?_
    refine xt_cSI X [iV (v0), iV (48), iV (57)] [] (ctX7_in hG r0 (i_rc 48 rfl) (i_rc 57 rfl) h) gdX7_80 pdX7_in ⟨rfl, rfl⟩ ⟨Nat.le_of_ble_eq_true rfl, Nat.le_of_ble_eq_true rfl⟩ rfl (Nat.le_of_ble_eq_true rfl) dX7_isSign_16 (fun z_3 M_4 z_3r h => ?_)
    refine xt_zne (tgt := 40) X z_3r dX7_isSign_19 (by decide) (fun hc => ?_) (fun hc => ?_)
    · have h := h.2 hc
      refine xt_ic X dX7_isSign_40 ?_
      refine xt_goto (tgt := 45) X dX7_isSign_41 (by decide) ?_
      exact xt_zret X (Or.inr rfl) h dX7_isSign_45
    · have h := h.1 hc
      refine xt_il X dX7_isSign_22 rfl 0 rfl ?_
      refine xt_bi X dX7_isSign_23 (by decide) ?_
      refine xt_ceq (tgt := 40) X r0 (i_rc 46 rfl) dX7_isSign_25 (by decide) (fun hc => ?_) (fun hc => ?_)
      · have h := h.1 hc
        refine xt_ic X dX7_isSign_40 ?_
        refine xt_goto (tgt := 45) X dX7_isSign_41 (by decide) ?_
        exact xt_zret X (Or.inr rfl) h dX7_isSign_45
      · have h := h.2 hc
        refine xt_il X dX7_isSign_28 rfl 0 rfl ?_
        refine xt_bi X dX7_isSign_29 (by decide) ?_
        refine xt_ceq (tgt := 40) X r0 (i_rc 45 rfl) dX7_isSign_31 (by decide) (fun hc => ?_) (fun hc => ?_)
        · have h := h.1 hc
          refine xt_ic X dX7_isSign_40 ?_
          refine xt_goto (tgt := 45) X dX7_isSign_41 (by decide) ?_
          exact xt_zret X (Or.inr rfl) h dX7_isSign_45
        · have h := h.2 hc
          refine xt_il X dX7_isSign_34 rfl 0 rfl ?_
          refine xt_bi X dX7_isSign_35 (by decide) ?_
          refine xt_cne (tgt := 44) X r0 (i_rc 124 rfl) dX7_isSign_37 (by decide) (fun hc => ?_) (fun hc => ?_)
          · have h := h.2 hc
            refine xt_ic X dX7_isSign_44 ?_
            exact xt_zret X (Or.inl rfl) h dX7_isSign_45
          · have h := h.1 hc
            refine xt_ic X dX7_isSign_40 ?_
            refine xt_goto (tgt := 45) X dX7_isSign_41 (by decide) ?_
            exact xt_zret X (Or.inr rfl) h dX7_isSign_45
abbrev rmX7_begins : Room := { frames := 1, cells := 0, slots := 0, locals := 22 }
def BX7_begins_13  (Q : Mm → Prop) (v0 : Int) (rec : Int → Mm → Prop) (v1 : Int) (M : Mm) : Prop :=
  ((12 ≤ v1 → Q M) ∧
  (¬ 12 ≤ v1 → ((0 ≤ v1 ∧ v1 < 12) ∧
  (∀ M_4 : Mm, M_4 = um M (v0 + 3) v1 v1 →
  (inR (v1 + 1) ∧
  rec (v1 + 1) M_4)))))
def PX7_begins (v0 : Int) (M : Mm) (Q : Mm → Prop) : Prop :=
  (PX7_copies (v0 + 1) (v0 + 2) M (fun M_2 =>
  ∃ n_6 : Nat, lp_I (BX7_begins_13  Q v0) n_6 0 M_2))
set_option maxHeartbeats 4000000 in
set_option maxRecDepth 100000 in
theorem wX7_begins_13 {p : Program} {l : Launch} {e : Env} {s : State} {m : MethodId} {args : Array Value} {below : List Frame} {meth : Method} {c : Code} {G : GG} (X : Cx p s m args meth c cX7_begins 2 (none) RX7 G) {Q : Mm → Prop}  {v0 : Int} (k0 : gK G v0 = (7, 0))  : ∀ (n : Nat) (v1 : Int) (M : Mm), inR v1 → lp_I (BX7_begins_13  Q v0) n v1 M → Wt p l e rmX7_begins s m args below meth c G (MQ below (PostV G Q) args s 0 0 (gA G)) 2 M [(0, rV (v0)), (1, iV (v1))] 13 [] := by
  have hG := X.2.2.2.2.2.2.2.2
  intro n
  induction n with
  | zero => intro v1 M r1 h; exact h.elim
  | succ n ih =>
    intro v1 M r1 h
    have h : BX7_begins_13  Q v0 (lp_I (BX7_begins_13  Q v0) n) v1 M := h
    unfold BX7_begins_13 at h
    refine xt_il X dX7_begins_13 rfl 1 rfl ?_
    refine xt_bi X dX7_begins_14 (by decide) ?_
    refine xt_cge (tgt := 32) X r1 (i_rc 12 rfl) dX7_begins_16 (by decide) (fun hc => ?_) (fun hc => ?_)
    · have h := h.1 hc
      exact xt_vret X h dX7_begins_32
    · have h := h.2 hc
      refine xt_al X dX7_begins_19 rfl 0 rfl ?_
      refine gfX7_16 X k0 dX7_begins_20 ?_
      refine xt_il X dX7_begins_23 rfl 1 rfl ?_
      refine xt_il X dX7_begins_24 rfl 1 rfl ?_
      obtain ⟨g_3, h⟩ := h
      refine xt_iast X (kd_X7_2 hG k0) g_3 (by decide) r1 dX7_begins_25 (fun M_4 hm => ?_)
      have h := h M_4 hm
      refine xt_inc (lv2 := [(1, iV (v1 + 1)), (0, rV (v0))]) X dX7_begins_26 1 rfl (by decide) rfl ?_
      refine xt_goto (tgt := 13) X dX7_begins_29 (by decide) ?_
      obtain ⟨g_5, h⟩ := h
      refine xt_perm (lv2 := [(0, rV (v0)), (1, iV (v1 + 1))]) [1, 0] rfl ?_
      exact ih (v1 + 1) M_4 g_5 h
set_option maxHeartbeats 4000000 in
set_option maxRecDepth 100000 in
theorem ctX7_begins {l : Launch} {G : GG} (hG : Gd G) {v0 : Int} {M : Mm} {Q : Mm → Prop} (k0 : gK G v0 = (7, 0)) (h : PX7_begins v0 M Q) : Met l yX7_begins (Cond.code yX7_begins cX7_begins 2 (none) :: tw) rmX7_begins (Pre G M [rV (v0)]) (PostV G Q) 0 0 (gA G) := by
  refine met_of (own := RX7) (by decide) rfl hG (Nat.le_of_ble_eq_true rfl) (fun p e s m below meth c X => ?_)
  generalize hargs : ([rV (v0)] : List Value).toArray = args at X ⊢
  show Wt p l e rmX7_begins s m args below meth c G (MQ below (PostV G Q) args s 0 0 (gA G)) 2 M [(0, rV (v0))] 0 []
  unfold PX7_begins at h
  refine xt_al X dX7_begins_0 rfl 0 rfl ?_
  refine gfX7_7 X k0 dX7_begins_1 ?_
  refine xt_al X dX7_begins_4 rfl 0 rfl ?_
  refine gfX7_13 X k0 dX7_begins_5 ?_
  refine xt_cSV X [rV (v0 + 1), rV (v0 + 2)] [] (ctX7_copies hG (kd_X7_0 hG k0) (kd_X7_1 hG k0) h) gdX7_84 pdX7_copies ⟨rfl, rfl⟩ ⟨Nat.le_of_ble_eq_true rfl, Nat.le_of_ble_eq_true rfl⟩ rfl (Nat.le_of_ble_eq_true rfl) dX7_begins_8 (fun M_2 h => ?_)
  refine xt_ic X dX7_begins_11 ?_
  refine xt_is (lv2 := [(1, iV (0)), (0, rV (v0))]) X dX7_begins_12 rfl (by decide) rfl ?_
  obtain ⟨n_6, h⟩ := h
  refine xt_perm (lv2 := [(0, rV (v0)), (1, iV (0))]) [1, 0] rfl ?_
  refine wX7_begins_13 X k0  n_6 0 M_2 (i_rc 0 rfl) h
abbrev rmX7_isChanged : Room := { frames := 7, cells := 0, slots := 0, locals := 168 }
def BX7_isChanged_36 (ke77 : Mm → Prop) (Q : Int → Mm → Prop) (v0 : Int) (v1 : Int) (v2 : Int) (rec : Int → Mm → Prop) (v3 : Int) (M : Mm) : Prop :=
  ((0 ≤ (3 + v1) ∧ (3 + v1) < 327) ∧
  (((M (v0 + 1) (3 + v1)) ≤ v3 → ke77 M) ∧
  (¬ (M (v0 + 1) (3 + v1)) ≤ v3 → (PX7_signAt (v0 + 1) v1 v3 M (fun z_9 M_10 =>
  (PX7_signAt (v0 + 2) v2 v3 M_10 (fun z_11 M_12 =>
  ((z_9 = z_11 → (inR (v3 + 1) ∧
  rec (v3 + 1) M_12)) ∧
  (¬ z_9 = z_11 → Q 1 M_12)))))))))
def BX7_isChanged_92  (Q : Int → Mm → Prop) (v0 : Int) (v1 : Int) (v2 : Int) (v4 : Int) (rec : Int → Int → Mm → Prop) (v3 : Int) (v5 : Int) (M : Mm) : Prop :=
  ((v4 ≤ v5 → ((v3 = 0 ∨ v3 = 1) ∧
  Q v3 M)) ∧
  (¬ v4 ≤ v5 → ((v3 = 0 → (PX7_widthOf (v0 + 1) v1 v5 M (fun z_20 M_21 =>
  (PX7_widthOf (v0 + 2) v2 v5 M_21 (fun z_22 M_23 =>
  ((z_20 = z_22 → (inR (v5 + 1) ∧
  rec 0 (v5 + 1) M_23)) ∧
  (¬ z_20 = z_22 → (inR (v5 + 1) ∧
  rec 1 (v5 + 1) M_23)))))))) ∧
  (¬ v3 = 0 → (inR (v5 + 1) ∧
  rec 1 (v5 + 1) M)))))
def PX7_isChanged (v0 : Int) (v1 : Int) (M : Mm) (Q : Int → Mm → Prop) : Prop :=
  ((0 ≤ v1 ∧ v1 < 12) ∧
  (((M (v0 + 3) v1) = ((-9)) → Q 1 M) ∧
  (¬ (M (v0 + 3) v1) = ((-9)) → ((0 ≤ (3 + v1) ∧ (3 + v1) < 327) ∧
  ((0 ≤ (3 + (M (v0 + 3) v1)) ∧ (3 + (M (v0 + 3) v1)) < 327) ∧
  (((M (v0 + 1) (3 + v1)) = (M (v0 + 2) (3 + (M (v0 + 3) v1))) → ∃ n_14 : Nat, lp_I (BX7_isChanged_36 (fun M_15 => (PX7_cellsOf (v0 + 1) v1 M_15 (fun z_16 M_17 =>
  ∃ n_26 : Nat, lp_II (BX7_isChanged_92  Q v0 v1 (M (v0 + 3) v1) z_16) n_26 0 0 M_17))) Q v0 v1 (M (v0 + 3) v1)) n_14 0 M) ∧
  (¬ (M (v0 + 1) (3 + v1)) = (M (v0 + 2) (3 + (M (v0 + 3) v1))) → Q 1 M)))))))
set_option maxHeartbeats 4000000 in
set_option maxRecDepth 100000 in
theorem wX7_isChanged_36 {p : Program} {l : Launch} {e : Env} {s : State} {m : MethodId} {args : Array Value} {below : List Frame} {meth : Method} {c : Code} {G : GG} (X : Cx p s m args meth c cX7_isChanged 6 ((some FieldType.boolean)) RX7 G) {Q : Int → Mm → Prop} {ke77 : Mm → Prop} {v0 : Int} {v1 : Int} {v2 : Int} (k0 : gK G v0 = (7, 0)) (r1 : inR v1) (r2 : inR v2) (hke77 : ∀ (M : Mm), ke77  M → Wt p l e rmX7_isChanged s m args below meth c G (MQ below (PostI G Q) args s 0 0 (gA G)) 6 M [(0, rV (v0)), (1, iV (v1)), (2, iV (v2))] 77 []) : ∀ (n : Nat) (v3 : Int) (M : Mm), inR v3 → lp_I (BX7_isChanged_36 ke77 Q v0 v1 v2) n v3 M → Wt p l e rmX7_isChanged s m args below meth c G (MQ below (PostI G Q) args s 0 0 (gA G)) 6 M [(0, rV (v0)), (1, iV (v1)), (2, iV (v2)), (3, iV (v3))] 36 [] := by
  have hG := X.2.2.2.2.2.2.2.2
  intro n
  induction n with
  | zero => intro v3 M r3 h; exact h.elim
  | succ n ih =>
    intro v3 M r3 h
    have h : BX7_isChanged_36 ke77 Q v0 v1 v2 (lp_I (BX7_isChanged_36 ke77 Q v0 v1 v2) n) v3 M := h
    unfold BX7_isChanged_36 at h
    refine xt_il X dX7_isChanged_36 rfl 3 rfl ?_
    refine xt_al X dX7_isChanged_37 rfl 0 rfl ?_
    refine gfX7_7 X k0 dX7_isChanged_38 ?_
    refine xt_ic X dX7_isChanged_41 ?_
    refine xt_il X dX7_isChanged_42 rfl 1 rfl ?_
    refine xt_add X dX7_isChanged_43 ?_
    obtain ⟨g_7, h⟩ := h
    refine xt_iald X (kd_X7_0 hG k0) g_7 (by decide) dX7_isChanged_44 (fun r_8 => ?_)
    refine xt_cge (tgt := 77) X r3 r_8 dX7_isChanged_45 (by decide) (fun hc => ?_) (fun hc => ?_)
    · have h := h.1 hc
      refine xt_perm (lv2 := [(0, rV (v0)), (1, iV (v1)), (2, iV (v2))]) [0, 1, 2] rfl ?_
      exact hke77 M  h
    · have h := h.2 hc
      refine xt_al X dX7_isChanged_48 rfl 0 rfl ?_
      refine gfX7_7 X k0 dX7_isChanged_49 ?_
      refine xt_il X dX7_isChanged_52 rfl 1 rfl ?_
      refine xt_il X dX7_isChanged_53 rfl 3 rfl ?_
      refine xt_cSI X [rV (v0 + 1), iV (v1), iV (v3)] [] (ctX7_signAt hG (kd_X7_0 hG k0) r1 r3 h) gdX7_41 pdX7_signAt ⟨rfl, rfl⟩ ⟨Nat.le_of_ble_eq_true rfl, Nat.le_of_ble_eq_true rfl⟩ rfl (Nat.le_of_ble_eq_true rfl) dX7_isChanged_54 (fun z_9 M_10 z_9r h => ?_)
      refine xt_al X dX7_isChanged_57 rfl 0 rfl ?_
      refine gfX7_13 X k0 dX7_isChanged_58 ?_
      refine xt_il X dX7_isChanged_61 rfl 2 rfl ?_
      refine xt_il X dX7_isChanged_62 rfl 3 rfl ?_
      refine xt_cSI X [rV (v0 + 2), iV (v2), iV (v3)] [iV (z_9)] (ctX7_signAt hG (kd_X7_1 hG k0) r2 r3 h) gdX7_41 pdX7_signAt ⟨rfl, rfl⟩ ⟨Nat.le_of_ble_eq_true rfl, Nat.le_of_ble_eq_true rfl⟩ rfl (Nat.le_of_ble_eq_true rfl) dX7_isChanged_63 (fun z_11 M_12 z_11r h => ?_)
      refine xt_ceq (tgt := 71) X z_9r z_11r dX7_isChanged_66 (by decide) (fun hc => ?_) (fun hc => ?_)
      · have h := h.1 hc
        refine xt_inc (lv2 := [(3, iV (v3 + 1)), (0, rV (v0)), (1, iV (v1)), (2, iV (v2))]) X dX7_isChanged_71 3 rfl (by decide) rfl ?_
        refine xt_goto (tgt := 36) X dX7_isChanged_74 (by decide) ?_
        obtain ⟨g_13, h⟩ := h
        refine xt_perm (lv2 := [(0, rV (v0)), (1, iV (v1)), (2, iV (v2)), (3, iV (v3 + 1))]) [1, 2, 3, 0] rfl ?_
        exact ih (v3 + 1) M_12 g_13 h
      · have h := h.2 hc
        refine xt_ic X dX7_isChanged_69 ?_
        exact xt_zret X (Or.inr rfl) h dX7_isChanged_70
set_option maxHeartbeats 4000000 in
set_option maxRecDepth 100000 in
theorem wX7_isChanged_92 {p : Program} {l : Launch} {e : Env} {s : State} {m : MethodId} {args : Array Value} {below : List Frame} {meth : Method} {c : Code} {G : GG} (X : Cx p s m args meth c cX7_isChanged 6 ((some FieldType.boolean)) RX7 G) {Q : Int → Mm → Prop}  {v0 : Int} {v1 : Int} {v2 : Int} {v4 : Int} (k0 : gK G v0 = (7, 0)) (r1 : inR v1) (r2 : inR v2) (r4 : inR v4)  : ∀ (n : Nat) (v3 : Int) (v5 : Int) (M : Mm), inR v3 → inR v5 → lp_II (BX7_isChanged_92  Q v0 v1 v2 v4) n v3 v5 M → Wt p l e rmX7_isChanged s m args below meth c G (MQ below (PostI G Q) args s 0 0 (gA G)) 6 M [(0, rV (v0)), (1, iV (v1)), (2, iV (v2)), (3, iV (v3)), (4, iV (v4)), (5, iV (v5))] 92 [] := by
  have hG := X.2.2.2.2.2.2.2.2
  intro n
  induction n with
  | zero => intro v3 v5 M r3 r5 h; exact h.elim
  | succ n ih =>
    intro v3 v5 M r3 r5 h
    have h : BX7_isChanged_92  Q v0 v1 v2 v4 (lp_II (BX7_isChanged_92  Q v0 v1 v2 v4) n) v3 v5 M := h
    unfold BX7_isChanged_92 at h
    refine xt_ilw X dX7_isChanged_92 5 rfl ?_
    refine xt_ilw X dX7_isChanged_94 4 rfl ?_
    refine xt_cge (tgt := 138) X r5 r4 dX7_isChanged_96 (by decide) (fun hc => ?_) (fun hc => ?_)
    · have h := h.1 hc
      refine xt_il X dX7_isChanged_138 rfl 3 rfl ?_
      obtain ⟨g_18, h⟩ := h
      exact xt_zret X g_18 h dX7_isChanged_139
    · have h := h.2 hc
      refine xt_il X dX7_isChanged_99 rfl 3 rfl ?_
      refine xt_zne (tgt := 126) X r3 dX7_isChanged_100 (by decide) (fun hc => ?_) (fun hc => ?_)
      · have h := h.2 hc
        refine xt_ic X dX7_isChanged_126 ?_
        refine xt_goto (tgt := 131) X dX7_isChanged_127 (by decide) ?_
        refine xt_is (lv2 := [(3, iV (1)), (0, rV (v0)), (1, iV (v1)), (2, iV (v2)), (4, iV (v4)), (5, iV (v5))]) X dX7_isChanged_131 rfl (by decide) rfl ?_
        refine xt_inc (lv2 := [(5, iV (v5 + 1)), (3, iV (1)), (0, rV (v0)), (1, iV (v1)), (2, iV (v2)), (4, iV (v4))]) X dX7_isChanged_132 5 rfl (by decide) rfl ?_
        refine xt_goto (tgt := 92) X dX7_isChanged_135 (by decide) ?_
        obtain ⟨g_19, h⟩ := h
        refine xt_perm (lv2 := [(0, rV (v0)), (1, iV (v1)), (2, iV (v2)), (3, iV (1)), (4, iV (v4)), (5, iV (v5 + 1))]) [2, 3, 4, 1, 5, 0] rfl ?_
        exact ih 1 (v5 + 1) M (i_rc 1 rfl) g_19 h
      · have h := h.1 hc
        refine xt_al X dX7_isChanged_103 rfl 0 rfl ?_
        refine gfX7_7 X k0 dX7_isChanged_104 ?_
        refine xt_il X dX7_isChanged_107 rfl 1 rfl ?_
        refine xt_ilw X dX7_isChanged_108 5 rfl ?_
        refine xt_cSI X [rV (v0 + 1), iV (v1), iV (v5)] [] (ctX7_widthOf hG (kd_X7_0 hG k0) r1 r5 h) gdX7_71 pdX7_widthOf ⟨rfl, rfl⟩ ⟨Nat.le_of_ble_eq_true rfl, Nat.le_of_ble_eq_true rfl⟩ rfl (Nat.le_of_ble_eq_true rfl) dX7_isChanged_110 (fun z_20 M_21 z_20r h => ?_)
        refine xt_al X dX7_isChanged_113 rfl 0 rfl ?_
        refine gfX7_13 X k0 dX7_isChanged_114 ?_
        refine xt_il X dX7_isChanged_117 rfl 2 rfl ?_
        refine xt_ilw X dX7_isChanged_118 5 rfl ?_
        refine xt_cSI X [rV (v0 + 2), iV (v2), iV (v5)] [iV (z_20)] (ctX7_widthOf hG (kd_X7_1 hG k0) r2 r5 h) gdX7_71 pdX7_widthOf ⟨rfl, rfl⟩ ⟨Nat.le_of_ble_eq_true rfl, Nat.le_of_ble_eq_true rfl⟩ rfl (Nat.le_of_ble_eq_true rfl) dX7_isChanged_120 (fun z_22 M_23 z_22r h => ?_)
        refine xt_ceq (tgt := 130) X z_20r z_22r dX7_isChanged_123 (by decide) (fun hc => ?_) (fun hc => ?_)
        · have h := h.1 hc
          refine xt_ic X dX7_isChanged_130 ?_
          refine xt_is (lv2 := [(3, iV (0)), (0, rV (v0)), (1, iV (v1)), (2, iV (v2)), (4, iV (v4)), (5, iV (v5))]) X dX7_isChanged_131 rfl (by decide) rfl ?_
          refine xt_inc (lv2 := [(5, iV (v5 + 1)), (3, iV (0)), (0, rV (v0)), (1, iV (v1)), (2, iV (v2)), (4, iV (v4))]) X dX7_isChanged_132 5 rfl (by decide) rfl ?_
          refine xt_goto (tgt := 92) X dX7_isChanged_135 (by decide) ?_
          obtain ⟨g_24, h⟩ := h
          refine xt_perm (lv2 := [(0, rV (v0)), (1, iV (v1)), (2, iV (v2)), (3, iV (0)), (4, iV (v4)), (5, iV (v5 + 1))]) [2, 3, 4, 1, 5, 0] rfl ?_
          exact ih 0 (v5 + 1) M_23 (i_rc 0 rfl) g_24 h
        · have h := h.2 hc
          refine xt_ic X dX7_isChanged_126 ?_
          refine xt_goto (tgt := 131) X dX7_isChanged_127 (by decide) ?_
          refine xt_is (lv2 := [(3, iV (1)), (0, rV (v0)), (1, iV (v1)), (2, iV (v2)), (4, iV (v4)), (5, iV (v5))]) X dX7_isChanged_131 rfl (by decide) rfl ?_
          refine xt_inc (lv2 := [(5, iV (v5 + 1)), (3, iV (1)), (0, rV (v0)), (1, iV (v1)), (2, iV (v2)), (4, iV (v4))]) X dX7_isChanged_132 5 rfl (by decide) rfl ?_
          refine xt_goto (tgt := 92) X dX7_isChanged_135 (by decide) ?_
          obtain ⟨g_25, h⟩ := h
          refine xt_perm (lv2 := [(0, rV (v0)), (1, iV (v1)), (2, iV (v2)), (3, iV (1)), (4, iV (v4)), (5, iV (v5 + 1))]) [2, 3, 4, 1, 5, 0] rfl ?_
          exact ih 1 (v5 + 1) M_23 (i_rc 1 rfl) g_25 h
set_option maxHeartbeats 4000000 in
set_option maxRecDepth 100000 in
theorem ctX7_isChanged {l : Launch} {G : GG} (hG : Gd G) {v0 : Int} {v1 : Int} {M : Mm} {Q : Int → Mm → Prop} (k0 : gK G v0 = (7, 0)) (r1 : inR v1) (h : PX7_isChanged v0 v1 M Q) : Met l yX7_isChanged (Cond.code yX7_isChanged cX7_isChanged 6 ((some FieldType.boolean)) :: tw) rmX7_isChanged (Pre G M [rV (v0), iV (v1)]) (PostI G Q) 0 0 (gA G) := by
  refine met_of (own := RX7) (by decide) rfl hG (Nat.le_of_ble_eq_true rfl) (fun p e s m below meth c X => ?_)
  generalize hargs : ([rV (v0), iV (v1)] : List Value).toArray = args at X ⊢
  show Wt p l e rmX7_isChanged s m args below meth c G (MQ below (PostI G Q) args s 0 0 (gA G)) 6 M [(0, rV (v0)), (1, iV (v1))] 0 []
  unfold PX7_isChanged at h
  refine xt_al X dX7_isChanged_0 rfl 0 rfl ?_
  refine gfX7_16 X k0 dX7_isChanged_1 ?_
  refine xt_il X dX7_isChanged_4 rfl 1 rfl ?_
  obtain ⟨g_1, h⟩ := h
  refine xt_iald X (kd_X7_2 hG k0) g_1 (by decide) dX7_isChanged_5 (fun r_2 => ?_)
  refine xt_is (lv2 := [(2, iV (M (v0 + 3) v1)), (0, rV (v0)), (1, iV (v1))]) X dX7_isChanged_6 rfl (by decide) rfl ?_
  refine xt_il X dX7_isChanged_7 rfl 0 rfl ?_
  refine xt_bi X dX7_isChanged_8 (by decide) ?_
  refine xt_ceq (tgt := 32) X r_2 (i_rc (-9) rfl) dX7_isChanged_10 (by decide) (fun hc => ?_) (fun hc => ?_)
  · have h := h.1 hc
    refine xt_ic X dX7_isChanged_32 ?_
    exact xt_zret X (Or.inr rfl) h dX7_isChanged_33
  · have h := h.2 hc
    refine xt_al X dX7_isChanged_13 rfl 1 rfl ?_
    refine gfX7_7 X k0 dX7_isChanged_14 ?_
    refine xt_ic X dX7_isChanged_17 ?_
    refine xt_il X dX7_isChanged_18 rfl 2 rfl ?_
    refine xt_add X dX7_isChanged_19 ?_
    obtain ⟨g_3, h⟩ := h
    refine xt_iald X (kd_X7_0 hG k0) g_3 (by decide) dX7_isChanged_20 (fun r_4 => ?_)
    refine xt_al X dX7_isChanged_21 rfl 1 rfl ?_
    refine gfX7_13 X k0 dX7_isChanged_22 ?_
    refine xt_ic X dX7_isChanged_25 ?_
    refine xt_il X dX7_isChanged_26 rfl 0 rfl ?_
    refine xt_add X dX7_isChanged_27 ?_
    obtain ⟨g_5, h⟩ := h
    refine xt_iald X (kd_X7_1 hG k0) g_5 (by decide) dX7_isChanged_28 (fun r_6 => ?_)
    refine xt_ceq (tgt := 34) X r_4 r_6 dX7_isChanged_29 (by decide) (fun hc => ?_) (fun hc => ?_)
    · have h := h.1 hc
      refine xt_ic X dX7_isChanged_34 ?_
      refine xt_is (lv2 := [(3, iV (0)), (2, iV (M (v0 + 3) v1)), (0, rV (v0)), (1, iV (v1))]) X dX7_isChanged_35 rfl (by decide) rfl ?_
      obtain ⟨n_14, h⟩ := h
      refine xt_perm (lv2 := [(0, rV (v0)), (1, iV (v1)), (2, iV (M (v0 + 3) v1)), (3, iV (0))]) [2, 3, 1, 0] rfl ?_
      refine wX7_isChanged_36 X k0 r1 r_2 (fun M_15 h => ?_) n_14 0 M (i_rc 0 rfl) h
      refine xt_ic X dX7_isChanged_77 ?_
      refine xt_is (lv2 := [(3, iV (0)), (0, rV (v0)), (1, iV (v1)), (2, iV (M (v0 + 3) v1))]) X dX7_isChanged_78 rfl (by decide) rfl ?_
      refine xt_al X dX7_isChanged_79 rfl 1 rfl ?_
      refine gfX7_7 X k0 dX7_isChanged_80 ?_
      refine xt_il X dX7_isChanged_83 rfl 2 rfl ?_
      refine xt_cSI X [rV (v0 + 1), iV (v1)] [] (ctX7_cellsOf hG (kd_X7_0 hG k0) r1 h) gdX7_51 pdX7_cellsOf ⟨rfl, rfl⟩ ⟨Nat.le_of_ble_eq_true rfl, Nat.le_of_ble_eq_true rfl⟩ rfl (Nat.le_of_ble_eq_true rfl) dX7_isChanged_84 (fun z_16 M_17 z_16r h => ?_)
      refine xt_isw (lv2 := [(4, iV (z_16)), (3, iV (0)), (0, rV (v0)), (1, iV (v1)), (2, iV (M (v0 + 3) v1))]) X dX7_isChanged_87 (by decide) rfl ?_
      refine xt_ic X dX7_isChanged_89 ?_
      refine xt_isw (lv2 := [(5, iV (0)), (4, iV (z_16)), (3, iV (0)), (0, rV (v0)), (1, iV (v1)), (2, iV (M (v0 + 3) v1))]) X dX7_isChanged_90 (by decide) rfl ?_
      obtain ⟨n_26, h⟩ := h
      refine xt_perm (lv2 := [(0, rV (v0)), (1, iV (v1)), (2, iV (M (v0 + 3) v1)), (3, iV (0)), (4, iV (z_16)), (5, iV (0))]) [3, 4, 5, 2, 1, 0] rfl ?_
      refine wX7_isChanged_92 X k0 r1 r_2 z_16r  n_26 0 0 M_17 (i_rc 0 rfl) (i_rc 0 rfl) h
    · have h := h.2 hc
      refine xt_ic X dX7_isChanged_32 ?_
      exact xt_zret X (Or.inr rfl) h dX7_isChanged_33
abbrev rmX7_ends : Room := { frames := 8, cells := 0, slots := 0, locals := 193 }
def BX7_ends_2 (ke36 : Mm → Prop) (Q : Mm → Prop) (v0 : Int) (rec : Int → Mm → Prop) (v1 : Int) (M : Mm) : Prop :=
  ((327 ≤ v1 → ke36 M) ∧
  (¬ 327 ≤ v1 → ((0 ≤ v1 ∧ v1 < 327) ∧
  ((0 ≤ ((327 * (M v0 5)) + v1) ∧ ((327 * (M v0 5)) + v1) < 3270) ∧
  (∀ M_5 : Mm, M_5 = um M (v0 + 4) ((327 * (M v0 5)) + v1) (M (v0 + 2) v1) →
  (inR (v1 + 1) ∧
  rec (v1 + 1) M_5))))))
def BX7_ends_79  (Q : Mm → Prop) (v0 : Int) (rec : Int → Mm → Prop) (v1 : Int) (M : Mm) : Prop :=
  (((M (v0 + 1) 0) ≤ v1 → Q M) ∧
  (¬ (M (v0 + 1) 0) ≤ v1 → (PX7_isChanged v0 v1 M (fun z_20 M_21 =>
  ((z_20 = 0 → (∀ M_22 : Mm, M_22 = um M_21 v0 3 (iOr (M v0 3) 0) →
  (inR (v1 + 1) ∧
  rec (v1 + 1) M_22))) ∧
  (¬ z_20 = 0 → (∀ M_24 : Mm, M_24 = um M_21 v0 3 (iOr (M v0 3) (iShl 1 v1)) →
  (inR (v1 + 1) ∧
  rec (v1 + 1) M_24))))))))
def PX7_ends (v0 : Int) (M : Mm) (Q : Mm → Prop) : Prop :=
  ∃ n_7 : Nat, lp_I (BX7_ends_2 (fun M_8 => ((0 ≤ ((M_8 v0 5) + 1) ∧ ((M_8 v0 5) + 1) < 2147483648) ∧
  (inR (((M_8 v0 5) + 1) % 10) ∧
  (∀ M_11 : Mm, M_11 = um M_8 v0 5 (((M_8 v0 5) + 1) % 10) →
  ((10 ≤ (M_11 v0 4) → (inR ((M_11 v0 4) + 0) ∧
  (∀ M_15 : Mm, M_15 = um M_11 v0 4 ((M_11 v0 4) + 0) →
  (∀ M_17 : Mm, M_17 = um M_15 v0 3 0 →
  ∃ n_26 : Nat, lp_I (BX7_ends_79  Q v0) n_26 0 M_17)))) ∧
  (¬ 10 ≤ (M_11 v0 4) → (inR ((M_11 v0 4) + 1) ∧
  (∀ M_27 : Mm, M_27 = um M_11 v0 4 ((M_11 v0 4) + 1) →
  (∀ M_29 : Mm, M_29 = um M_27 v0 3 0 →
  ∃ n_30 : Nat, lp_I (BX7_ends_79  Q v0) n_30 0 M_29))))))))) Q v0) n_7 0 M
set_option maxHeartbeats 4000000 in
set_option maxRecDepth 100000 in
theorem wX7_ends_2 {p : Program} {l : Launch} {e : Env} {s : State} {m : MethodId} {args : Array Value} {below : List Frame} {meth : Method} {c : Code} {G : GG} (X : Cx p s m args meth c cX7_ends 2 (none) RX7 G) {Q : Mm → Prop} {ke36 : Mm → Prop} {v0 : Int} (k0 : gK G v0 = (7, 0)) (hke36 : ∀ (M : Mm), ke36  M → Wt p l e rmX7_ends s m args below meth c G (MQ below (PostV G Q) args s 0 0 (gA G)) 2 M [(0, rV (v0))] 36 []) : ∀ (n : Nat) (v1 : Int) (M : Mm), inR v1 → lp_I (BX7_ends_2 ke36 Q v0) n v1 M → Wt p l e rmX7_ends s m args below meth c G (MQ below (PostV G Q) args s 0 0 (gA G)) 2 M [(0, rV (v0)), (1, iV (v1))] 2 [] := by
  have hG := X.2.2.2.2.2.2.2.2
  intro n
  induction n with
  | zero => intro v1 M r1 h; exact h.elim
  | succ n ih =>
    intro v1 M r1 h
    have h : BX7_ends_2 ke36 Q v0 (lp_I (BX7_ends_2 ke36 Q v0) n) v1 M := h
    unfold BX7_ends_2 at h
    refine xt_il X dX7_ends_2 rfl 1 rfl ?_
    refine xt_si X dX7_ends_3 (by decide) ?_
    refine xt_cge (tgt := 36) X r1 (i_rc 327 rfl) dX7_ends_6 (by decide) (fun hc => ?_) (fun hc => ?_)
    · have h := h.1 hc
      refine xt_perm (lv2 := [(0, rV (v0))]) [0] rfl ?_
      exact hke36 M  h
    · have h := h.2 hc
      refine xt_al X dX7_ends_9 rfl 0 rfl ?_
      refine gfX7_19 X k0 dX7_ends_10 ?_
      refine xt_si X dX7_ends_13 (by decide) ?_
      refine xt_al X dX7_ends_16 rfl 0 rfl ?_
      refine gfX7_88 X k0 dX7_ends_17 (fun r_1 => ?_)
      refine xt_mul X dX7_ends_20 ?_
      refine xt_il X dX7_ends_21 rfl 1 rfl ?_
      refine xt_add X dX7_ends_22 ?_
      refine xt_al X dX7_ends_23 rfl 0 rfl ?_
      refine gfX7_13 X k0 dX7_ends_24 ?_
      refine xt_il X dX7_ends_27 rfl 1 rfl ?_
      obtain ⟨g_2, h⟩ := h
      refine xt_iald X (kd_X7_1 hG k0) g_2 (by decide) dX7_ends_28 (fun r_3 => ?_)
      obtain ⟨g_4, h⟩ := h
      refine xt_iast X (kd_X7_6 hG k0) g_4 (by decide) r_3 dX7_ends_29 (fun M_5 hm => ?_)
      have h := h M_5 hm
      refine xt_inc (lv2 := [(1, iV (v1 + 1)), (0, rV (v0))]) X dX7_ends_30 1 rfl (by decide) rfl ?_
      refine xt_goto (tgt := 2) X dX7_ends_33 (by decide) ?_
      obtain ⟨g_6, h⟩ := h
      refine xt_perm (lv2 := [(0, rV (v0)), (1, iV (v1 + 1))]) [1, 0] rfl ?_
      exact ih (v1 + 1) M_5 g_6 h
set_option maxHeartbeats 4000000 in
set_option maxRecDepth 100000 in
theorem wX7_ends_79 {p : Program} {l : Launch} {e : Env} {s : State} {m : MethodId} {args : Array Value} {below : List Frame} {meth : Method} {c : Code} {G : GG} (X : Cx p s m args meth c cX7_ends 2 (none) RX7 G) {Q : Mm → Prop}  {v0 : Int} (k0 : gK G v0 = (7, 0))  : ∀ (n : Nat) (v1 : Int) (M : Mm), inR v1 → lp_I (BX7_ends_79  Q v0) n v1 M → Wt p l e rmX7_ends s m args below meth c G (MQ below (PostV G Q) args s 0 0 (gA G)) 2 M [(0, rV (v0)), (1, iV (v1))] 79 [] := by
  have hG := X.2.2.2.2.2.2.2.2
  intro n
  induction n with
  | zero => intro v1 M r1 h; exact h.elim
  | succ n ih =>
    intro v1 M r1 h
    have h : BX7_ends_79  Q v0 (lp_I (BX7_ends_79  Q v0) n) v1 M := h
    unfold BX7_ends_79 at h
    refine xt_il X dX7_ends_79 rfl 1 rfl ?_
    refine xt_al X dX7_ends_80 rfl 0 rfl ?_
    refine gfX7_7 X k0 dX7_ends_81 ?_
    refine xt_ic X dX7_ends_84 ?_
    refine xt_iald X (kd_X7_0 hG k0) ⟨by decide, by decide⟩ (by decide) dX7_ends_85 (fun r_18 => ?_)
    refine xt_cge (tgt := 119) X r1 r_18 dX7_ends_86 (by decide) (fun hc => ?_) (fun hc => ?_)
    · have h := h.1 hc
      exact xt_vret X h dX7_ends_119
    · have h := h.2 hc
      refine xt_al X dX7_ends_89 rfl 0 rfl ?_
      refine xt_dup X rfl dX7_ends_90 ?_
      refine gfX7_95 X k0 dX7_ends_91 (fun r_19 => ?_)
      refine xt_al X dX7_ends_94 rfl 0 rfl ?_
      refine xt_il X dX7_ends_95 rfl 1 rfl ?_
      refine xt_cVI X [iV (v1)] [iV (M v0 3), rV (v0)] (ctX7_isChanged hG k0 r1 h) gdX7_98 pdX7_isChanged ⟨rfl, rfl⟩ ⟨Nat.le_of_ble_eq_true rfl, Nat.le_of_ble_eq_true rfl⟩ rfl (k_lt k0 (by decide)) (by rw [k0]; rfl) rfl (Nat.le_of_ble_eq_true rfl) dX7_ends_96 (fun z_20 M_21 z_20r h => ?_)
      refine xt_zeq (tgt := 108) X z_20r dX7_ends_99 (by decide) (fun hc => ?_) (fun hc => ?_)
      · have h := h.1 hc
        refine xt_ic X dX7_ends_108 ?_
        refine xt_or X dX7_ends_109 ?_
        refine pfX7_95 X k0 (i_rg _) dX7_ends_110 (fun M_22 hm => ?_)
        have h := h M_22 hm
        refine xt_inc (lv2 := [(1, iV (v1 + 1)), (0, rV (v0))]) X dX7_ends_113 1 rfl (by decide) rfl ?_
        refine xt_goto (tgt := 79) X dX7_ends_116 (by decide) ?_
        obtain ⟨g_23, h⟩ := h
        refine xt_perm (lv2 := [(0, rV (v0)), (1, iV (v1 + 1))]) [1, 0] rfl ?_
        exact ih (v1 + 1) M_22 g_23 h
      · have h := h.2 hc
        refine xt_ic X dX7_ends_102 ?_
        refine xt_il X dX7_ends_103 rfl 1 rfl ?_
        refine xt_shl X dX7_ends_104 ?_
        refine xt_goto (tgt := 109) X dX7_ends_105 (by decide) ?_
        refine xt_or X dX7_ends_109 ?_
        refine pfX7_95 X k0 (i_rg _) dX7_ends_110 (fun M_24 hm => ?_)
        have h := h M_24 hm
        refine xt_inc (lv2 := [(1, iV (v1 + 1)), (0, rV (v0))]) X dX7_ends_113 1 rfl (by decide) rfl ?_
        refine xt_goto (tgt := 79) X dX7_ends_116 (by decide) ?_
        obtain ⟨g_25, h⟩ := h
        refine xt_perm (lv2 := [(0, rV (v0)), (1, iV (v1 + 1))]) [1, 0] rfl ?_
        exact ih (v1 + 1) M_24 g_25 h
set_option maxHeartbeats 4000000 in
set_option maxRecDepth 100000 in
theorem ctX7_ends {l : Launch} {G : GG} (hG : Gd G) {v0 : Int} {M : Mm} {Q : Mm → Prop} (k0 : gK G v0 = (7, 0)) (h : PX7_ends v0 M Q) : Met l yX7_ends (Cond.code yX7_ends cX7_ends 2 (none) :: tw) rmX7_ends (Pre G M [rV (v0)]) (PostV G Q) 0 0 (gA G) := by
  refine met_of (own := RX7) (by decide) rfl hG (Nat.le_of_ble_eq_true rfl) (fun p e s m below meth c X => ?_)
  generalize hargs : ([rV (v0)] : List Value).toArray = args at X ⊢
  show Wt p l e rmX7_ends s m args below meth c G (MQ below (PostV G Q) args s 0 0 (gA G)) 2 M [(0, rV (v0))] 0 []
  unfold PX7_ends at h
  refine xt_ic X dX7_ends_0 ?_
  refine xt_is (lv2 := [(1, iV (0)), (0, rV (v0))]) X dX7_ends_1 rfl (by decide) rfl ?_
  obtain ⟨n_7, h⟩ := h
  refine xt_perm (lv2 := [(0, rV (v0)), (1, iV (0))]) [1, 0] rfl ?_
  refine wX7_ends_2 X k0 (fun M_8 h => ?_) n_7 0 M (i_rc 0 rfl) h
  refine xt_al X dX7_ends_36 rfl 0 rfl ?_
  refine xt_al X dX7_ends_37 rfl 0 rfl ?_
  refine gfX7_88 X k0 dX7_ends_38 (fun r_9 => ?_)
  refine xt_ic X dX7_ends_41 ?_
  refine xt_add X dX7_ends_42 ?_
  refine xt_bi X dX7_ends_43 (by decide) ?_
  obtain ⟨g_10, h⟩ := h
  refine xt_rem X g_10 (by decide) dX7_ends_45 ?_
  obtain ⟨g_12, h⟩ := h
  refine pfX7_88 X k0 g_12 dX7_ends_46 (fun M_11 hm => ?_)
  have h := h M_11 hm
  refine xt_al X dX7_ends_49 rfl 0 rfl ?_
  refine xt_dup X rfl dX7_ends_50 ?_
  refine gfX7_92 X k0 dX7_ends_51 (fun r_13 => ?_)
  refine xt_al X dX7_ends_54 rfl 0 rfl ?_
  refine gfX7_92 X k0 dX7_ends_55 (fun r_14 => ?_)
  refine xt_bi X dX7_ends_58 (by decide) ?_
  refine xt_cge (tgt := 67) X r_14 (i_rc 10 rfl) dX7_ends_60 (by decide) (fun hc => ?_) (fun hc => ?_)
  · have h := h.1 hc
    refine xt_ic X dX7_ends_67 ?_
    refine xt_add X dX7_ends_68 ?_
    obtain ⟨g_16, h⟩ := h
    refine pfX7_92 X k0 g_16 dX7_ends_69 (fun M_15 hm => ?_)
    have h := h M_15 hm
    refine xt_al X dX7_ends_72 rfl 0 rfl ?_
    refine xt_ic X dX7_ends_73 ?_
    refine pfX7_95 X k0 (i_rc 0 rfl) dX7_ends_74 (fun M_17 hm => ?_)
    have h := h M_17 hm
    refine xt_ic X dX7_ends_77 ?_
    refine xt_is (lv2 := [(1, iV (0)), (0, rV (v0))]) X dX7_ends_78 rfl (by decide) rfl ?_
    obtain ⟨n_26, h⟩ := h
    refine xt_perm (lv2 := [(0, rV (v0)), (1, iV (0))]) [1, 0] rfl ?_
    refine wX7_ends_79 X k0  n_26 0 M_17 (i_rc 0 rfl) h
  · have h := h.2 hc
    refine xt_ic X dX7_ends_63 ?_
    refine xt_goto (tgt := 68) X dX7_ends_64 (by decide) ?_
    refine xt_add X dX7_ends_68 ?_
    obtain ⟨g_28, h⟩ := h
    refine pfX7_92 X k0 g_28 dX7_ends_69 (fun M_27 hm => ?_)
    have h := h M_27 hm
    refine xt_al X dX7_ends_72 rfl 0 rfl ?_
    refine xt_ic X dX7_ends_73 ?_
    refine pfX7_95 X k0 (i_rc 0 rfl) dX7_ends_74 (fun M_29 hm => ?_)
    have h := h M_29 hm
    refine xt_ic X dX7_ends_77 ?_
    refine xt_is (lv2 := [(1, iV (0)), (0, rV (v0))]) X dX7_ends_78 rfl (by decide) rfl ?_
    obtain ⟨n_30, h⟩ := h
    refine xt_perm (lv2 := [(0, rV (v0)), (1, iV (0))]) [1, 0] rfl ?_
    refine wX7_ends_79 X k0  n_30 0 M_29 (i_rc 0 rfl) h
abbrev rmX7_opens : Room := { frames := 0, cells := 0, slots := 0, locals := 0 }
def BX7_opens_46 (ke88 : Mm → Prop) (Q : Mm → Prop) (v0 : Int) (v1 : Int) (v2 : Int) (rec : Int → Mm → Prop) (v3 : Int) (M : Mm) : Prop :=
  ((24 ≤ v3 → ke88 M) ∧
  (¬ 24 ≤ v3 → ((0 ≤ ((15 + (24 * (v2 - 1))) + v3) ∧ ((15 + (24 * (v2 - 1))) + v3) < 327) ∧
  ((0 ≤ ((15 + (24 * v2)) + v3) ∧ ((15 + (24 * v2)) + v3) < 327) ∧
  (∀ M_13 : Mm, M_13 = um M (v0 + 1) ((15 + (24 * v2)) + v3) (M (v0 + 1) ((15 + (24 * (v2 - 1))) + v3)) →
  (inR (v3 + 1) ∧
  rec (v3 + 1) M_13))))))
def BX7_opens_7 (ke94 : Mm → Prop) (Q : Mm → Prop) (v0 : Int) (v1 : Int) (rec : Int → Mm → Prop) (v2 : Int) (M : Mm) : Prop :=
  ((v2 ≤ v1 → ke94 M) ∧
  (¬ v2 ≤ v1 → ((0 ≤ ((3 + v2) - 1) ∧ ((3 + v2) - 1) < 327) ∧
  ((0 ≤ (3 + v2) ∧ (3 + v2) < 327) ∧
  (∀ M_5 : Mm, M_5 = um M (v0 + 1) (3 + v2) (M (v0 + 1) ((3 + v2) - 1)) →
  ((0 ≤ (v2 - 1) ∧ (v2 - 1) < 12) ∧
  ((0 ≤ v2 ∧ v2 < 12) ∧
  (∀ M_9 : Mm, M_9 = um M_5 (v0 + 3) v2 (M_5 (v0 + 3) (v2 - 1)) →
  ∃ n_15 : Nat, lp_I (BX7_opens_46 (fun M_16 => (inR (v2 + (-1)) ∧
  rec (v2 + (-1)) M_16)) Q v0 v1 v2) n_15 0 M_9))))))))
def PX7_opens (v0 : Int) (v1 : Int) (M : Mm) (Q : Mm → Prop) : Prop :=
  ∃ n_18 : Nat, lp_I (BX7_opens_7 (fun M_19 => ((0 ≤ (3 + v1) ∧ (3 + v1) < 327) ∧
  (∀ M_21 : Mm, M_21 = um M_19 (v0 + 1) (3 + v1) 0 →
  ((0 ≤ v1 ∧ v1 < 12) ∧
  (∀ M_23 : Mm, M_23 = um M_21 (v0 + 3) v1 ((-9)) →
  (inR ((M_23 (v0 + 1) 0) + 1) ∧
  (∀ M_26 : Mm, M_26 = um M_23 (v0 + 1) 0 ((M_23 (v0 + 1) 0) + 1) →
  Q M_26))))))) Q v0 v1) n_18 (M (v0 + 1) 0) M
set_option maxHeartbeats 4000000 in
set_option maxRecDepth 100000 in
theorem wX7_opens_46 {p : Program} {l : Launch} {e : Env} {s : State} {m : MethodId} {args : Array Value} {below : List Frame} {meth : Method} {c : Code} {G : GG} (X : Cx p s m args meth c cX7_opens 4 (none) RX7 G) {Q : Mm → Prop} {ke88 : Mm → Prop} {v0 : Int} {v1 : Int} {v2 : Int} (k0 : gK G v0 = (7, 0)) (r1 : inR v1) (r2 : inR v2) (hke88 : ∀ (M : Mm), ke88  M → Wt p l e rmX7_opens s m args below meth c G (MQ below (PostV G Q) args s 0 0 (gA G)) 4 M [(0, rV (v0)), (1, iV (v1)), (2, iV (v2))] 88 []) : ∀ (n : Nat) (v3 : Int) (M : Mm), inR v3 → lp_I (BX7_opens_46 ke88 Q v0 v1 v2) n v3 M → Wt p l e rmX7_opens s m args below meth c G (MQ below (PostV G Q) args s 0 0 (gA G)) 4 M [(0, rV (v0)), (1, iV (v1)), (2, iV (v2)), (3, iV (v3))] 46 [] := by
  have hG := X.2.2.2.2.2.2.2.2
  intro n
  induction n with
  | zero => intro v3 M r3 h; exact h.elim
  | succ n ih =>
    intro v3 M r3 h
    have h : BX7_opens_46 ke88 Q v0 v1 v2 (lp_I (BX7_opens_46 ke88 Q v0 v1 v2) n) v3 M := h
    unfold BX7_opens_46 at h
    refine xt_il X dX7_opens_46 rfl 3 rfl ?_
    refine xt_bi X dX7_opens_47 (by decide) ?_
    refine xt_cge (tgt := 88) X r3 (i_rc 24 rfl) dX7_opens_49 (by decide) (fun hc => ?_) (fun hc => ?_)
    · have h := h.1 hc
      refine xt_perm (lv2 := [(0, rV (v0)), (1, iV (v1)), (2, iV (v2))]) [0, 1, 2] rfl ?_
      exact hke88 M  h
    · have h := h.2 hc
      refine xt_al X dX7_opens_52 rfl 0 rfl ?_
      refine gfX7_7 X k0 dX7_opens_53 ?_
      refine xt_bi X dX7_opens_56 (by decide) ?_
      refine xt_bi X dX7_opens_58 (by decide) ?_
      refine xt_il X dX7_opens_60 rfl 2 rfl ?_
      refine xt_mul X dX7_opens_61 ?_
      refine xt_add X dX7_opens_62 ?_
      refine xt_il X dX7_opens_63 rfl 3 rfl ?_
      refine xt_add X dX7_opens_64 ?_
      refine xt_al X dX7_opens_65 rfl 0 rfl ?_
      refine gfX7_7 X k0 dX7_opens_66 ?_
      refine xt_bi X dX7_opens_69 (by decide) ?_
      refine xt_bi X dX7_opens_71 (by decide) ?_
      refine xt_il X dX7_opens_73 rfl 2 rfl ?_
      refine xt_ic X dX7_opens_74 ?_
      refine xt_sub X dX7_opens_75 ?_
      refine xt_mul X dX7_opens_76 ?_
      refine xt_add X dX7_opens_77 ?_
      refine xt_il X dX7_opens_78 rfl 3 rfl ?_
      refine xt_add X dX7_opens_79 ?_
      obtain ⟨g_10, h⟩ := h
      refine xt_iald X (kd_X7_0 hG k0) g_10 (by decide) dX7_opens_80 (fun r_11 => ?_)
      obtain ⟨g_12, h⟩ := h
      refine xt_iast X (kd_X7_0 hG k0) g_12 (by decide) r_11 dX7_opens_81 (fun M_13 hm => ?_)
      have h := h M_13 hm
      refine xt_inc (lv2 := [(3, iV (v3 + 1)), (0, rV (v0)), (1, iV (v1)), (2, iV (v2))]) X dX7_opens_82 3 rfl (by decide) rfl ?_
      refine xt_goto (tgt := 46) X dX7_opens_85 (by decide) ?_
      obtain ⟨g_14, h⟩ := h
      refine xt_perm (lv2 := [(0, rV (v0)), (1, iV (v1)), (2, iV (v2)), (3, iV (v3 + 1))]) [1, 2, 3, 0] rfl ?_
      exact ih (v3 + 1) M_13 g_14 h
set_option maxHeartbeats 4000000 in
set_option maxRecDepth 100000 in
theorem wX7_opens_7 {p : Program} {l : Launch} {e : Env} {s : State} {m : MethodId} {args : Array Value} {below : List Frame} {meth : Method} {c : Code} {G : GG} (X : Cx p s m args meth c cX7_opens 4 (none) RX7 G) {Q : Mm → Prop} {ke94 : Mm → Prop} {v0 : Int} {v1 : Int} (k0 : gK G v0 = (7, 0)) (r1 : inR v1) (hke94 : ∀ (M : Mm), ke94  M → Wt p l e rmX7_opens s m args below meth c G (MQ below (PostV G Q) args s 0 0 (gA G)) 4 M [(0, rV (v0)), (1, iV (v1))] 94 []) : ∀ (n : Nat) (v2 : Int) (M : Mm), inR v2 → lp_I (BX7_opens_7 ke94 Q v0 v1) n v2 M → Wt p l e rmX7_opens s m args below meth c G (MQ below (PostV G Q) args s 0 0 (gA G)) 4 M [(0, rV (v0)), (1, iV (v1)), (2, iV (v2))] 7 [] := by
  have hG := X.2.2.2.2.2.2.2.2
  intro n
  induction n with
  | zero => intro v2 M r2 h; exact h.elim
  | succ n ih =>
    intro v2 M r2 h
    have h : BX7_opens_7 ke94 Q v0 v1 (lp_I (BX7_opens_7 ke94 Q v0 v1) n) v2 M := h
    unfold BX7_opens_7 at h
    refine xt_il X dX7_opens_7 rfl 2 rfl ?_
    refine xt_il X dX7_opens_8 rfl 1 rfl ?_
    refine xt_cle (tgt := 94) X r2 r1 dX7_opens_9 (by decide) (fun hc => ?_) (fun hc => ?_)
    · have h := h.1 hc
      refine xt_perm (lv2 := [(0, rV (v0)), (1, iV (v1))]) [0, 1] rfl ?_
      exact hke94 M  h
    · have h := h.2 hc
      refine xt_al X dX7_opens_12 rfl 0 rfl ?_
      refine gfX7_7 X k0 dX7_opens_13 ?_
      refine xt_ic X dX7_opens_16 ?_
      refine xt_il X dX7_opens_17 rfl 2 rfl ?_
      refine xt_add X dX7_opens_18 ?_
      refine xt_al X dX7_opens_19 rfl 0 rfl ?_
      refine gfX7_7 X k0 dX7_opens_20 ?_
      refine xt_ic X dX7_opens_23 ?_
      refine xt_il X dX7_opens_24 rfl 2 rfl ?_
      refine xt_add X dX7_opens_25 ?_
      refine xt_ic X dX7_opens_26 ?_
      refine xt_sub X dX7_opens_27 ?_
      obtain ⟨g_2, h⟩ := h
      refine xt_iald X (kd_X7_0 hG k0) g_2 (by decide) dX7_opens_28 (fun r_3 => ?_)
      obtain ⟨g_4, h⟩ := h
      refine xt_iast X (kd_X7_0 hG k0) g_4 (by decide) r_3 dX7_opens_29 (fun M_5 hm => ?_)
      have h := h M_5 hm
      refine xt_al X dX7_opens_30 rfl 0 rfl ?_
      refine gfX7_16 X k0 dX7_opens_31 ?_
      refine xt_il X dX7_opens_34 rfl 2 rfl ?_
      refine xt_al X dX7_opens_35 rfl 0 rfl ?_
      refine gfX7_16 X k0 dX7_opens_36 ?_
      refine xt_il X dX7_opens_39 rfl 2 rfl ?_
      refine xt_ic X dX7_opens_40 ?_
      refine xt_sub X dX7_opens_41 ?_
      obtain ⟨g_6, h⟩ := h
      refine xt_iald X (kd_X7_2 hG k0) g_6 (by decide) dX7_opens_42 (fun r_7 => ?_)
      obtain ⟨g_8, h⟩ := h
      refine xt_iast X (kd_X7_2 hG k0) g_8 (by decide) r_7 dX7_opens_43 (fun M_9 hm => ?_)
      have h := h M_9 hm
      refine xt_ic X dX7_opens_44 ?_
      refine xt_is (lv2 := [(3, iV (0)), (0, rV (v0)), (1, iV (v1)), (2, iV (v2))]) X dX7_opens_45 rfl (by decide) rfl ?_
      obtain ⟨n_15, h⟩ := h
      refine xt_perm (lv2 := [(0, rV (v0)), (1, iV (v1)), (2, iV (v2)), (3, iV (0))]) [1, 2, 3, 0] rfl ?_
      refine wX7_opens_46 X k0 r1 r2 (fun M_16 h => ?_) n_15 0 M_9 (i_rc 0 rfl) h
      refine xt_inc (lv2 := [(2, iV (v2 + (-1))), (0, rV (v0)), (1, iV (v1))]) X dX7_opens_88 2 rfl (by decide) rfl ?_
      refine xt_goto (tgt := 7) X dX7_opens_91 (by decide) ?_
      obtain ⟨g_17, h⟩ := h
      refine xt_perm (lv2 := [(0, rV (v0)), (1, iV (v1)), (2, iV (v2 + (-1)))]) [1, 2, 0] rfl ?_
      exact ih (v2 + (-1)) M_16 g_17 h
set_option maxHeartbeats 4000000 in
set_option maxRecDepth 100000 in
theorem ctX7_opens {l : Launch} {G : GG} (hG : Gd G) {v0 : Int} {v1 : Int} {M : Mm} {Q : Mm → Prop} (k0 : gK G v0 = (7, 0)) (r1 : inR v1) (h : PX7_opens v0 v1 M Q) : Met l yX7_opens (Cond.code yX7_opens cX7_opens 4 (none) :: tw) rmX7_opens (Pre G M [rV (v0), iV (v1)]) (PostV G Q) 0 0 (gA G) := by
  refine met_of (own := RX7) (by decide) rfl hG (Nat.le_of_ble_eq_true rfl) (fun p e s m below meth c X => ?_)
  generalize hargs : ([rV (v0), iV (v1)] : List Value).toArray = args at X ⊢
  show Wt p l e rmX7_opens s m args below meth c G (MQ below (PostV G Q) args s 0 0 (gA G)) 4 M [(0, rV (v0)), (1, iV (v1))] 0 []
  unfold PX7_opens at h
  refine xt_al X dX7_opens_0 rfl 0 rfl ?_
  refine gfX7_7 X k0 dX7_opens_1 ?_
  refine xt_ic X dX7_opens_4 ?_
  refine xt_iald X (kd_X7_0 hG k0) ⟨by decide, by decide⟩ (by decide) dX7_opens_5 (fun r_1 => ?_)
  refine xt_is (lv2 := [(2, iV (M (v0 + 1) 0)), (0, rV (v0)), (1, iV (v1))]) X dX7_opens_6 rfl (by decide) rfl ?_
  obtain ⟨n_18, h⟩ := h
  refine xt_perm (lv2 := [(0, rV (v0)), (1, iV (v1)), (2, iV (M (v0 + 1) 0))]) [1, 2, 0] rfl ?_
  refine wX7_opens_7 X k0 r1 (fun M_19 h => ?_) n_18 (M (v0 + 1) 0) M r_1 h
  refine xt_al X dX7_opens_94 rfl 0 rfl ?_
  refine gfX7_7 X k0 dX7_opens_95 ?_
  refine xt_ic X dX7_opens_98 ?_
  refine xt_il X dX7_opens_99 rfl 1 rfl ?_
  refine xt_add X dX7_opens_100 ?_
  refine xt_ic X dX7_opens_101 ?_
  obtain ⟨g_20, h⟩ := h
  refine xt_iast X (kd_X7_0 hG k0) g_20 (by decide) (i_rc 0 rfl) dX7_opens_102 (fun M_21 hm => ?_)
  have h := h M_21 hm
  refine xt_al X dX7_opens_103 rfl 0 rfl ?_
  refine gfX7_16 X k0 dX7_opens_104 ?_
  refine xt_il X dX7_opens_107 rfl 1 rfl ?_
  refine xt_bi X dX7_opens_108 (by decide) ?_
  obtain ⟨g_22, h⟩ := h
  refine xt_iast X (kd_X7_2 hG k0) g_22 (by decide) (i_rc (-9) rfl) dX7_opens_110 (fun M_23 hm => ?_)
  have h := h M_23 hm
  refine xt_al X dX7_opens_111 rfl 0 rfl ?_
  refine gfX7_7 X k0 dX7_opens_112 ?_
  refine xt_ic X dX7_opens_115 ?_
  refine xt_dup2 X rfl rfl dX7_opens_116 ?_
  refine xt_iald X (kd_X7_0 hG k0) ⟨by decide, by decide⟩ (by decide) dX7_opens_117 (fun r_24 => ?_)
  refine xt_ic X dX7_opens_118 ?_
  refine xt_add X dX7_opens_119 ?_
  obtain ⟨g_25, h⟩ := h
  refine xt_iast X (kd_X7_0 hG k0) ⟨by decide, by decide⟩ (by decide) g_25 dX7_opens_120 (fun M_26 hm => ?_)
  have h := h M_26 hm
  exact xt_vret X h dX7_opens_121
abbrev rmX7_shuts : Room := { frames := 0, cells := 0, slots := 0, locals := 0 }
def BX7_shuts_56 (ke98 : Mm → Prop) (Q : Mm → Prop) (v0 : Int) (v2 : Int) (rec : Int → Mm → Prop) (v3 : Int) (M : Mm) : Prop :=
  ((24 ≤ v3 → ke98 M) ∧
  (¬ 24 ≤ v3 → ((0 ≤ ((15 + (24 * (v2 + 1))) + v3) ∧ ((15 + (24 * (v2 + 1))) + v3) < 327) ∧
  ((0 ≤ ((15 + (24 * v2)) + v3) ∧ ((15 + (24 * v2)) + v3) < 327) ∧
  (∀ M_16 : Mm, M_16 = um M (v0 + 1) ((15 + (24 * v2)) + v3) (M (v0 + 1) ((15 + (24 * (v2 + 1))) + v3)) →
  (inR (v3 + 1) ∧
  rec (v3 + 1) M_16))))))
def BX7_shuts_12  (Q : Mm → Prop) (v0 : Int) (rec : Int → Mm → Prop) (v2 : Int) (M : Mm) : Prop :=
  (((M (v0 + 1) 0) ≤ v2 → Q M) ∧
  (¬ (M (v0 + 1) 0) ≤ v2 → ((0 ≤ ((3 + v2) + 1) ∧ ((3 + v2) + 1) < 327) ∧
  ((0 ≤ (3 + v2) ∧ (3 + v2) < 327) ∧
  (∀ M_8 : Mm, M_8 = um M (v0 + 1) (3 + v2) (M (v0 + 1) ((3 + v2) + 1)) →
  ((0 ≤ (v2 + 1) ∧ (v2 + 1) < 12) ∧
  ((0 ≤ v2 ∧ v2 < 12) ∧
  (∀ M_12 : Mm, M_12 = um M_8 (v0 + 3) v2 (M_8 (v0 + 3) (v2 + 1)) →
  ∃ n_18 : Nat, lp_I (BX7_shuts_56 (fun M_19 => (inR (v2 + 1) ∧
  rec (v2 + 1) M_19)) Q v0 v2) n_18 0 M_12))))))))
def PX7_shuts (v0 : Int) (v1 : Int) (M : Mm) (Q : Mm → Prop) : Prop :=
  (inR ((M (v0 + 1) 0) - 1) ∧
  (∀ M_3 : Mm, M_3 = um M (v0 + 1) 0 ((M (v0 + 1) 0) - 1) →
  ∃ n_21 : Nat, lp_I (BX7_shuts_12  Q v0) n_21 v1 M_3))
set_option maxHeartbeats 4000000 in
set_option maxRecDepth 100000 in
theorem wX7_shuts_56 {p : Program} {l : Launch} {e : Env} {s : State} {m : MethodId} {args : Array Value} {below : List Frame} {meth : Method} {c : Code} {G : GG} (X : Cx p s m args meth c cX7_shuts 4 (none) RX7 G) {Q : Mm → Prop} {ke98 : Mm → Prop} {v0 : Int} {v2 : Int} (k0 : gK G v0 = (7, 0)) (r2 : inR v2) (hke98 : ∀ (M : Mm), ke98  M → Wt p l e rmX7_shuts s m args below meth c G (MQ below (PostV G Q) args s 0 0 (gA G)) 4 M [(0, rV (v0)), (2, iV (v2))] 98 []) : ∀ (n : Nat) (v3 : Int) (M : Mm), inR v3 → lp_I (BX7_shuts_56 ke98 Q v0 v2) n v3 M → Wt p l e rmX7_shuts s m args below meth c G (MQ below (PostV G Q) args s 0 0 (gA G)) 4 M [(0, rV (v0)), (2, iV (v2)), (3, iV (v3))] 56 [] := by
  have hG := X.2.2.2.2.2.2.2.2
  intro n
  induction n with
  | zero => intro v3 M r3 h; exact h.elim
  | succ n ih =>
    intro v3 M r3 h
    have h : BX7_shuts_56 ke98 Q v0 v2 (lp_I (BX7_shuts_56 ke98 Q v0 v2) n) v3 M := h
    unfold BX7_shuts_56 at h
    refine xt_il X dX7_shuts_56 rfl 2 rfl ?_
    refine xt_bi X dX7_shuts_57 (by decide) ?_
    refine xt_cge (tgt := 98) X r3 (i_rc 24 rfl) dX7_shuts_59 (by decide) (fun hc => ?_) (fun hc => ?_)
    · have h := h.1 hc
      refine xt_perm (lv2 := [(0, rV (v0)), (2, iV (v2))]) [0, 1] rfl ?_
      exact hke98 M  h
    · have h := h.2 hc
      refine xt_al X dX7_shuts_62 rfl 0 rfl ?_
      refine gfX7_7 X k0 dX7_shuts_63 ?_
      refine xt_bi X dX7_shuts_66 (by decide) ?_
      refine xt_bi X dX7_shuts_68 (by decide) ?_
      refine xt_il X dX7_shuts_70 rfl 1 rfl ?_
      refine xt_mul X dX7_shuts_71 ?_
      refine xt_add X dX7_shuts_72 ?_
      refine xt_il X dX7_shuts_73 rfl 2 rfl ?_
      refine xt_add X dX7_shuts_74 ?_
      refine xt_al X dX7_shuts_75 rfl 0 rfl ?_
      refine gfX7_7 X k0 dX7_shuts_76 ?_
      refine xt_bi X dX7_shuts_79 (by decide) ?_
      refine xt_bi X dX7_shuts_81 (by decide) ?_
      refine xt_il X dX7_shuts_83 rfl 1 rfl ?_
      refine xt_ic X dX7_shuts_84 ?_
      refine xt_add X dX7_shuts_85 ?_
      refine xt_mul X dX7_shuts_86 ?_
      refine xt_add X dX7_shuts_87 ?_
      refine xt_il X dX7_shuts_88 rfl 2 rfl ?_
      refine xt_add X dX7_shuts_89 ?_
      obtain ⟨g_13, h⟩ := h
      refine xt_iald X (kd_X7_0 hG k0) g_13 (by decide) dX7_shuts_90 (fun r_14 => ?_)
      obtain ⟨g_15, h⟩ := h
      refine xt_iast X (kd_X7_0 hG k0) g_15 (by decide) r_14 dX7_shuts_91 (fun M_16 hm => ?_)
      have h := h M_16 hm
      refine xt_inc (lv2 := [(3, iV (v3 + 1)), (0, rV (v0)), (2, iV (v2))]) X dX7_shuts_92 2 rfl (by decide) rfl ?_
      refine xt_goto (tgt := 56) X dX7_shuts_95 (by decide) ?_
      obtain ⟨g_17, h⟩ := h
      refine xt_perm (lv2 := [(0, rV (v0)), (2, iV (v2)), (3, iV (v3 + 1))]) [1, 2, 0] rfl ?_
      exact ih (v3 + 1) M_16 g_17 h
set_option maxHeartbeats 4000000 in
set_option maxRecDepth 100000 in
theorem wX7_shuts_12 {p : Program} {l : Launch} {e : Env} {s : State} {m : MethodId} {args : Array Value} {below : List Frame} {meth : Method} {c : Code} {G : GG} (X : Cx p s m args meth c cX7_shuts 4 (none) RX7 G) {Q : Mm → Prop}  {v0 : Int} (k0 : gK G v0 = (7, 0))  : ∀ (n : Nat) (v2 : Int) (M : Mm), inR v2 → lp_I (BX7_shuts_12  Q v0) n v2 M → Wt p l e rmX7_shuts s m args below meth c G (MQ below (PostV G Q) args s 0 0 (gA G)) 4 M [(0, rV (v0)), (2, iV (v2))] 12 [] := by
  have hG := X.2.2.2.2.2.2.2.2
  intro n
  induction n with
  | zero => intro v2 M r2 h; exact h.elim
  | succ n ih =>
    intro v2 M r2 h
    have h : BX7_shuts_12  Q v0 (lp_I (BX7_shuts_12  Q v0) n) v2 M := h
    unfold BX7_shuts_12 at h
    refine xt_il X dX7_shuts_12 rfl 1 rfl ?_
    refine xt_al X dX7_shuts_13 rfl 0 rfl ?_
    refine gfX7_7 X k0 dX7_shuts_14 ?_
    refine xt_ic X dX7_shuts_17 ?_
    refine xt_iald X (kd_X7_0 hG k0) ⟨by decide, by decide⟩ (by decide) dX7_shuts_18 (fun r_4 => ?_)
    refine xt_cge (tgt := 104) X r2 r_4 dX7_shuts_19 (by decide) (fun hc => ?_) (fun hc => ?_)
    · have h := h.1 hc
      exact xt_vret X h dX7_shuts_104
    · have h := h.2 hc
      refine xt_al X dX7_shuts_22 rfl 0 rfl ?_
      refine gfX7_7 X k0 dX7_shuts_23 ?_
      refine xt_ic X dX7_shuts_26 ?_
      refine xt_il X dX7_shuts_27 rfl 1 rfl ?_
      refine xt_add X dX7_shuts_28 ?_
      refine xt_al X dX7_shuts_29 rfl 0 rfl ?_
      refine gfX7_7 X k0 dX7_shuts_30 ?_
      refine xt_ic X dX7_shuts_33 ?_
      refine xt_il X dX7_shuts_34 rfl 1 rfl ?_
      refine xt_add X dX7_shuts_35 ?_
      refine xt_ic X dX7_shuts_36 ?_
      refine xt_add X dX7_shuts_37 ?_
      obtain ⟨g_5, h⟩ := h
      refine xt_iald X (kd_X7_0 hG k0) g_5 (by decide) dX7_shuts_38 (fun r_6 => ?_)
      obtain ⟨g_7, h⟩ := h
      refine xt_iast X (kd_X7_0 hG k0) g_7 (by decide) r_6 dX7_shuts_39 (fun M_8 hm => ?_)
      have h := h M_8 hm
      refine xt_al X dX7_shuts_40 rfl 0 rfl ?_
      refine gfX7_16 X k0 dX7_shuts_41 ?_
      refine xt_il X dX7_shuts_44 rfl 1 rfl ?_
      refine xt_al X dX7_shuts_45 rfl 0 rfl ?_
      refine gfX7_16 X k0 dX7_shuts_46 ?_
      refine xt_il X dX7_shuts_49 rfl 1 rfl ?_
      refine xt_ic X dX7_shuts_50 ?_
      refine xt_add X dX7_shuts_51 ?_
      obtain ⟨g_9, h⟩ := h
      refine xt_iald X (kd_X7_2 hG k0) g_9 (by decide) dX7_shuts_52 (fun r_10 => ?_)
      obtain ⟨g_11, h⟩ := h
      refine xt_iast X (kd_X7_2 hG k0) g_11 (by decide) r_10 dX7_shuts_53 (fun M_12 hm => ?_)
      have h := h M_12 hm
      refine xt_ic X dX7_shuts_54 ?_
      refine xt_is (lv2 := [(3, iV (0)), (0, rV (v0)), (2, iV (v2))]) X dX7_shuts_55 rfl (by decide) rfl ?_
      obtain ⟨n_18, h⟩ := h
      refine xt_perm (lv2 := [(0, rV (v0)), (2, iV (v2)), (3, iV (0))]) [1, 2, 0] rfl ?_
      refine wX7_shuts_56 X k0 r2 (fun M_19 h => ?_) n_18 0 M_12 (i_rc 0 rfl) h
      refine xt_inc (lv2 := [(2, iV (v2 + 1)), (0, rV (v0))]) X dX7_shuts_98 1 rfl (by decide) rfl ?_
      refine xt_goto (tgt := 12) X dX7_shuts_101 (by decide) ?_
      obtain ⟨g_20, h⟩ := h
      refine xt_perm (lv2 := [(0, rV (v0)), (2, iV (v2 + 1))]) [1, 0] rfl ?_
      exact ih (v2 + 1) M_19 g_20 h
set_option maxHeartbeats 4000000 in
set_option maxRecDepth 100000 in
theorem ctX7_shuts {l : Launch} {G : GG} (hG : Gd G) {v0 : Int} {v1 : Int} {M : Mm} {Q : Mm → Prop} (k0 : gK G v0 = (7, 0)) (r1 : inR v1) (h : PX7_shuts v0 v1 M Q) : Met l yX7_shuts (Cond.code yX7_shuts cX7_shuts 4 (none) :: tw) rmX7_shuts (Pre G M [rV (v0), iV (v1)]) (PostV G Q) 0 0 (gA G) := by
  refine met_of (own := RX7) (by decide) rfl hG (Nat.le_of_ble_eq_true rfl) (fun p e s m below meth c X => ?_)
  generalize hargs : ([rV (v0), iV (v1)] : List Value).toArray = args at X ⊢
  show Wt p l e rmX7_shuts s m args below meth c G (MQ below (PostV G Q) args s 0 0 (gA G)) 4 M [(0, rV (v0)), (1, iV (v1))] 0 []
  unfold PX7_shuts at h
  refine xt_al X dX7_shuts_0 rfl 0 rfl ?_
  refine gfX7_7 X k0 dX7_shuts_1 ?_
  refine xt_ic X dX7_shuts_4 ?_
  refine xt_dup2 X rfl rfl dX7_shuts_5 ?_
  refine xt_iald X (kd_X7_0 hG k0) ⟨by decide, by decide⟩ (by decide) dX7_shuts_6 (fun r_1 => ?_)
  refine xt_ic X dX7_shuts_7 ?_
  refine xt_sub X dX7_shuts_8 ?_
  obtain ⟨g_2, h⟩ := h
  refine xt_iast X (kd_X7_0 hG k0) ⟨by decide, by decide⟩ (by decide) g_2 dX7_shuts_9 (fun M_3 hm => ?_)
  have h := h M_3 hm
  refine xt_il X dX7_shuts_10 rfl 1 rfl ?_
  refine xt_is (lv2 := [(2, iV (v1)), (0, rV (v0)), (1, iV (v1))]) X dX7_shuts_11 rfl (by decide) rfl ?_
  obtain ⟨n_21, h⟩ := h
  refine xt_perm (lv2 := [(0, rV (v0)), (2, iV (v1))]) [1, 0] rfl ?_
  refine wX7_shuts_12 X k0  n_21 v1 M_3 r1 h
abbrev rmX7_appends : Room := { frames := 0, cells := 0, slots := 0, locals := 0 }
def PX7_appends (v0 : Int) (v1 : Int) (v2 : Int) (M : Mm) (Q : Mm → Prop) : Prop :=
  ((0 ≤ (3 + v1) ∧ (3 + v1) < 327) ∧
  ((0 ≤ ((15 + (24 * v1)) + (M (v0 + 1) (3 + v1))) ∧ ((15 + (24 * v1)) + (M (v0 + 1) (3 + v1))) < 327) ∧
  (∀ M_4 : Mm, M_4 = um M (v0 + 1) ((15 + (24 * v1)) + (M (v0 + 1) (3 + v1))) v2 →
  ((0 ≤ (3 + v1) ∧ (3 + v1) < 327) ∧
  ((0 ≤ (3 + v1) ∧ (3 + v1) < 327) ∧
  (inR ((M_4 (v0 + 1) (3 + v1)) + 1) ∧
  (∀ M_9 : Mm, M_9 = um M_4 (v0 + 1) (3 + v1) ((M_4 (v0 + 1) (3 + v1)) + 1) →
  Q M_9)))))))
set_option maxHeartbeats 4000000 in
set_option maxRecDepth 100000 in
theorem ctX7_appends {l : Launch} {G : GG} (hG : Gd G) {v0 : Int} {v1 : Int} {v2 : Int} {M : Mm} {Q : Mm → Prop} (k0 : gK G v0 = (7, 0)) (r1 : inR v1) (r2 : inR v2) (h : PX7_appends v0 v1 v2 M Q) : Met l yX7_appends (Cond.code yX7_appends cX7_appends 3 (none) :: tw) rmX7_appends (Pre G M [rV (v0), iV (v1), iV (v2)]) (PostV G Q) 0 0 (gA G) := by
  refine met_of (own := RX7) (by decide) rfl hG (Nat.le_of_ble_eq_true rfl) (fun p e s m below meth c X => ?_)
  generalize hargs : ([rV (v0), iV (v1), iV (v2)] : List Value).toArray = args at X ⊢
  show Wt p l e rmX7_appends s m args below meth c G (MQ below (PostV G Q) args s 0 0 (gA G)) 3 M [(0, rV (v0)), (1, iV (v1)), (2, iV (v2))] 0 []
  unfold PX7_appends at h
  refine xt_al X dX7_appends_0 rfl 0 rfl ?_
  refine gfX7_7 X k0 dX7_appends_1 ?_
  refine xt_bi X dX7_appends_4 (by decide) ?_
  refine xt_bi X dX7_appends_6 (by decide) ?_
  refine xt_il X dX7_appends_8 rfl 1 rfl ?_
  refine xt_mul X dX7_appends_9 ?_
  refine xt_add X dX7_appends_10 ?_
  refine xt_al X dX7_appends_11 rfl 0 rfl ?_
  refine gfX7_7 X k0 dX7_appends_12 ?_
  refine xt_ic X dX7_appends_15 ?_
  refine xt_il X dX7_appends_16 rfl 1 rfl ?_
  refine xt_add X dX7_appends_17 ?_
  obtain ⟨g_1, h⟩ := h
  refine xt_iald X (kd_X7_0 hG k0) g_1 (by decide) dX7_appends_18 (fun r_2 => ?_)
  refine xt_add X dX7_appends_19 ?_
  refine xt_il X dX7_appends_20 rfl 2 rfl ?_
  obtain ⟨g_3, h⟩ := h
  refine xt_iast X (kd_X7_0 hG k0) g_3 (by decide) r2 dX7_appends_21 (fun M_4 hm => ?_)
  have h := h M_4 hm
  refine xt_al X dX7_appends_22 rfl 0 rfl ?_
  refine gfX7_7 X k0 dX7_appends_23 ?_
  refine xt_ic X dX7_appends_26 ?_
  refine xt_il X dX7_appends_27 rfl 1 rfl ?_
  refine xt_add X dX7_appends_28 ?_
  refine xt_dup2 X rfl rfl dX7_appends_29 ?_
  obtain ⟨g_5, h⟩ := h
  refine xt_iald X (kd_X7_0 hG k0) g_5 (by decide) dX7_appends_30 (fun r_6 => ?_)
  refine xt_ic X dX7_appends_31 ?_
  refine xt_add X dX7_appends_32 ?_
  obtain ⟨g_7, h⟩ := h
  obtain ⟨g_8, h⟩ := h
  refine xt_iast X (kd_X7_0 hG k0) g_7 (by decide) g_8 dX7_appends_33 (fun M_9 hm => ?_)
  have h := h M_9 hm
  exact xt_vret X h dX7_appends_34
abbrev rmX7_isLine : Room := { frames := 1, cells := 0, slots := 0, locals := 22 }
def PX7_isLine (v0 : Int) (v1 : Int) (M : Mm) (Q : Int → Mm → Prop) : Prop :=
  (inR ((M (v0 + 1) 0) - 1) ∧
  (PX7_in v1 0 ((M (v0 + 1) 0) - 1) M (fun z_3 M_4 =>
  ((z_3 = 0 ∨ z_3 = 1) ∧
  Q z_3 M_4))))
set_option maxHeartbeats 4000000 in
set_option maxRecDepth 100000 in
theorem ctX7_isLine {l : Launch} {G : GG} (hG : Gd G) {v0 : Int} {v1 : Int} {M : Mm} {Q : Int → Mm → Prop} (k0 : gK G v0 = (7, 0)) (r1 : inR v1) (h : PX7_isLine v0 v1 M Q) : Met l yX7_isLine (Cond.code yX7_isLine cX7_isLine 2 ((some FieldType.boolean)) :: tw) rmX7_isLine (Pre G M [rV (v0), iV (v1)]) (PostI G Q) 0 0 (gA G) := by
  refine met_of (own := RX7) (by decide) rfl hG (Nat.le_of_ble_eq_true rfl) (fun p e s m below meth c X => ?_)
  generalize hargs : ([rV (v0), iV (v1)] : List Value).toArray = args at X ⊢
  show Wt p l e rmX7_isLine s m args below meth c G (MQ below (PostI G Q) args s 0 0 (gA G)) 2 M [(0, rV (v0)), (1, iV (v1))] 0 []
  unfold PX7_isLine at h
  refine xt_il X dX7_isLine_0 rfl 1 rfl ?_
  refine xt_ic X dX7_isLine_1 ?_
  refine xt_al X dX7_isLine_2 rfl 0 rfl ?_
  refine gfX7_7 X k0 dX7_isLine_3 ?_
  refine xt_ic X dX7_isLine_6 ?_
  refine xt_iald X (kd_X7_0 hG k0) ⟨by decide, by decide⟩ (by decide) dX7_isLine_7 (fun r_1 => ?_)
  refine xt_ic X dX7_isLine_8 ?_
  refine xt_sub X dX7_isLine_9 ?_
  obtain ⟨g_2, h⟩ := h
  refine xt_cSI X [iV (v1), iV (0), iV ((M (v0 + 1) 0) - 1)] [] (ctX7_in hG r1 (i_rc 0 rfl) g_2 h) gdX7_80 pdX7_in ⟨rfl, rfl⟩ ⟨Nat.le_of_ble_eq_true rfl, Nat.le_of_ble_eq_true rfl⟩ rfl (Nat.le_of_ble_eq_true rfl) dX7_isLine_10 (fun z_3 M_4 z_3r h => ?_)
  obtain ⟨g_5, h⟩ := h
  exact xt_zret X g_5 h dX7_isLine_13
abbrev rmX7_isPlace : Room := { frames := 2, cells := 0, slots := 0, locals := 43 }
def JX7_isPlace_28  (Q : Int → Mm → Prop)  (M : Mm) : Prop :=
  Q 0 M
def PX7_isPlace (v0 : Int) (v1 : Int) (v2 : Int) (M : Mm) (Q : Int → Mm → Prop) : Prop :=
  (PX7_isLine v0 v1 M (fun z_1 M_2 =>
  ((z_1 = 0 → JX7_isPlace_28  Q M_2) ∧
  (¬ z_1 = 0 → ((0 ≤ (3 + v1) ∧ (3 + v1) < 327) ∧
  (PX7_in v2 0 (M_2 (v0 + 1) (3 + v1)) M_2 (fun z_5 M_6 =>
  ((z_5 = 0 → JX7_isPlace_28  Q M_6) ∧
  (¬ z_5 = 0 → Q 1 M_6)))))))))
set_option maxHeartbeats 4000000 in
set_option maxRecDepth 100000 in
theorem jX7_isPlace_28 {p : Program} {l : Launch} {e : Env} {s : State} {m : MethodId} {args : Array Value} {below : List Frame} {meth : Method} {c : Code} {G : GG} (X : Cx p s m args meth c cX7_isPlace 3 ((some FieldType.boolean)) RX7 G) {Q : Int → Mm → Prop}     {M : Mm} (h : JX7_isPlace_28  Q  M) : Wt p l e rmX7_isPlace s m args below meth c G (MQ below (PostI G Q) args s 0 0 (gA G)) 3 M [] 28 [] := by
  have hG := X.2.2.2.2.2.2.2.2
  unfold JX7_isPlace_28 at h
  refine xt_ic X dX7_isPlace_28 ?_
  exact xt_zret X (Or.inl rfl) h dX7_isPlace_29
set_option maxHeartbeats 4000000 in
set_option maxRecDepth 100000 in
theorem ctX7_isPlace {l : Launch} {G : GG} (hG : Gd G) {v0 : Int} {v1 : Int} {v2 : Int} {M : Mm} {Q : Int → Mm → Prop} (k0 : gK G v0 = (7, 0)) (r1 : inR v1) (r2 : inR v2) (h : PX7_isPlace v0 v1 v2 M Q) : Met l yX7_isPlace (Cond.code yX7_isPlace cX7_isPlace 3 ((some FieldType.boolean)) :: tw) rmX7_isPlace (Pre G M [rV (v0), iV (v1), iV (v2)]) (PostI G Q) 0 0 (gA G) := by
  refine met_of (own := RX7) (by decide) rfl hG (Nat.le_of_ble_eq_true rfl) (fun p e s m below meth c X => ?_)
  generalize hargs : ([rV (v0), iV (v1), iV (v2)] : List Value).toArray = args at X ⊢
  show Wt p l e rmX7_isPlace s m args below meth c G (MQ below (PostI G Q) args s 0 0 (gA G)) 3 M [(0, rV (v0)), (1, iV (v1)), (2, iV (v2))] 0 []
  unfold PX7_isPlace at h
  refine xt_al X dX7_isPlace_0 rfl 0 rfl ?_
  refine xt_il X dX7_isPlace_1 rfl 1 rfl ?_
  refine xt_cVI X [iV (v1)] [] (ctX7_isLine hG k0 r1 h) gdX7_102 pdX7_isLine ⟨rfl, rfl⟩ ⟨Nat.le_of_ble_eq_true rfl, Nat.le_of_ble_eq_true rfl⟩ rfl (k_lt k0 (by decide)) (by rw [k0]; rfl) rfl (Nat.le_of_ble_eq_true rfl) dX7_isPlace_2 (fun z_1 M_2 z_1r h => ?_)
  refine xt_zeq (tgt := 28) X z_1r dX7_isPlace_5 (by decide) (fun hc => ?_) (fun hc => ?_)
  · have h := h.1 hc
    refine xt_perm (lv2 := []) [] rfl ?_
    exact jX7_isPlace_28 X   h
  · have h := h.2 hc
    refine xt_il X dX7_isPlace_8 rfl 2 rfl ?_
    refine xt_ic X dX7_isPlace_9 ?_
    refine xt_al X dX7_isPlace_10 rfl 0 rfl ?_
    refine gfX7_7 X k0 dX7_isPlace_11 ?_
    refine xt_ic X dX7_isPlace_14 ?_
    refine xt_il X dX7_isPlace_15 rfl 1 rfl ?_
    refine xt_add X dX7_isPlace_16 ?_
    obtain ⟨g_3, h⟩ := h
    refine xt_iald X (kd_X7_0 hG k0) g_3 (by decide) dX7_isPlace_17 (fun r_4 => ?_)
    refine xt_cSI X [iV (v2), iV (0), iV (M_2 (v0 + 1) (3 + v1))] [] (ctX7_in hG r2 (i_rc 0 rfl) r_4 h) gdX7_80 pdX7_in ⟨rfl, rfl⟩ ⟨Nat.le_of_ble_eq_true rfl, Nat.le_of_ble_eq_true rfl⟩ rfl (Nat.le_of_ble_eq_true rfl) dX7_isPlace_18 (fun z_5 M_6 z_5r h => ?_)
    refine xt_zeq (tgt := 28) X z_5r dX7_isPlace_21 (by decide) (fun hc => ?_) (fun hc => ?_)
    · have h := h.1 hc
      refine xt_perm (lv2 := []) [] rfl ?_
      exact jX7_isPlace_28 X   h
    · have h := h.2 hc
      refine xt_ic X dX7_isPlace_24 ?_
      refine xt_goto (tgt := 29) X dX7_isPlace_25 (by decide) ?_
      exact xt_zret X (Or.inr rfl) h dX7_isPlace_29
abbrev rmX7_put : Room := { frames := 9, cells := 0, slots := 0, locals := 214 }
def BX7_put_48 (ke87 : Mm → Prop) (Q : Int → Mm → Prop) (v0 : Int) (v1 : Int) (v2 : Int) (v3 : Int) (rec : Int → Mm → Prop) (v4 : Int) (M : Mm) : Prop :=
  ((v4 ≤ v2 → ke87 M) ∧
  (¬ v4 ≤ v2 → (inR (v4 - 1) ∧
  (PX7_signAt (v0 + 1) v1 (v4 - 1) M (fun z_12 M_13 =>
  ((0 ≤ ((15 + (24 * v1)) + v4) ∧ ((15 + (24 * v1)) + v4) < 327) ∧
  (∀ M_15 : Mm, M_15 = um M_13 (v0 + 1) ((15 + (24 * v1)) + v4) z_12 →
  (inR (v4 + (-1)) ∧
  rec (v4 + (-1)) M_15))))))))
def PX7_put (v0 : Int) (v1 : Int) (v2 : Int) (v3 : Int) (M : Mm) (Q : Int → Mm → Prop) : Prop :=
  (PX7_isPlace v0 v1 v2 M (fun z_1 M_2 =>
  ((z_1 = 0 → Q ((-1)) M_2) ∧
  (¬ z_1 = 0 → (PX7_isSign v3 M_2 (fun z_3 M_4 =>
  ((z_3 = 0 → Q ((-1)) M_4) ∧
  (¬ z_3 = 0 → ((0 ≤ (3 + v1) ∧ (3 + v1) < 327) ∧
  (((M_4 (v0 + 1) (3 + v1)) = 24 → Q ((-3)) M_4) ∧
  (¬ (M_4 (v0 + 1) (3 + v1)) = 24 → (PX7_begins v0 M_4 (fun M_8 =>
  ((0 ≤ (3 + v1) ∧ (3 + v1) < 327) ∧
  ∃ n_17 : Nat, lp_I (BX7_put_48 (fun M_18 => ((0 ≤ ((15 + (24 * v1)) + v2) ∧ ((15 + (24 * v1)) + v2) < 327) ∧
  (∀ M_20 : Mm, M_20 = um M_18 (v0 + 1) ((15 + (24 * v1)) + v2) v3 →
  ((0 ≤ (3 + v1) ∧ (3 + v1) < 327) ∧
  ((0 ≤ (3 + v1) ∧ (3 + v1) < 327) ∧
  (inR ((M_20 (v0 + 1) (3 + v1)) + 1) ∧
  (∀ M_25 : Mm, M_25 = um M_20 (v0 + 1) (3 + v1) ((M_20 (v0 + 1) (3 + v1)) + 1) →
  (PX7_ends v0 M_25 (fun M_27 =>
  ((0 ≤ (3 + v1) ∧ (3 + v1) < 327) ∧
  Q (M_27 (v0 + 1) (3 + v1)) M_27)))))))))) Q v0 v1 v2 v3) n_17 (M_8 (v0 + 1) (3 + v1)) M_8))))))))))))))
set_option maxHeartbeats 4000000 in
set_option maxRecDepth 100000 in
theorem wX7_put_48 {p : Program} {l : Launch} {e : Env} {s : State} {m : MethodId} {args : Array Value} {below : List Frame} {meth : Method} {c : Code} {G : GG} (X : Cx p s m args meth c cX7_put 5 ((some FieldType.int)) RX7 G) {Q : Int → Mm → Prop} {ke87 : Mm → Prop} {v0 : Int} {v1 : Int} {v2 : Int} {v3 : Int} (k0 : gK G v0 = (7, 0)) (r1 : inR v1) (r2 : inR v2) (r3 : inR v3) (hke87 : ∀ (M : Mm), ke87  M → Wt p l e rmX7_put s m args below meth c G (MQ below (PostI G Q) args s 0 0 (gA G)) 5 M [(0, rV (v0)), (1, iV (v1)), (2, iV (v2)), (3, iV (v3))] 87 []) : ∀ (n : Nat) (v4 : Int) (M : Mm), inR v4 → lp_I (BX7_put_48 ke87 Q v0 v1 v2 v3) n v4 M → Wt p l e rmX7_put s m args below meth c G (MQ below (PostI G Q) args s 0 0 (gA G)) 5 M [(0, rV (v0)), (1, iV (v1)), (2, iV (v2)), (3, iV (v3)), (4, iV (v4))] 48 [] := by
  have hG := X.2.2.2.2.2.2.2.2
  intro n
  induction n with
  | zero => intro v4 M r4 h; exact h.elim
  | succ n ih =>
    intro v4 M r4 h
    have h : BX7_put_48 ke87 Q v0 v1 v2 v3 (lp_I (BX7_put_48 ke87 Q v0 v1 v2 v3) n) v4 M := h
    unfold BX7_put_48 at h
    refine xt_ilw X dX7_put_48 4 rfl ?_
    refine xt_il X dX7_put_50 rfl 2 rfl ?_
    refine xt_cle (tgt := 87) X r4 r2 dX7_put_51 (by decide) (fun hc => ?_) (fun hc => ?_)
    · have h := h.1 hc
      refine xt_perm (lv2 := [(0, rV (v0)), (1, iV (v1)), (2, iV (v2)), (3, iV (v3))]) [0, 1, 2, 3] rfl ?_
      exact hke87 M  h
    · have h := h.2 hc
      refine xt_al X dX7_put_54 rfl 0 rfl ?_
      refine gfX7_7 X k0 dX7_put_55 ?_
      refine xt_bi X dX7_put_58 (by decide) ?_
      refine xt_bi X dX7_put_60 (by decide) ?_
      refine xt_il X dX7_put_62 rfl 1 rfl ?_
      refine xt_mul X dX7_put_63 ?_
      refine xt_add X dX7_put_64 ?_
      refine xt_ilw X dX7_put_65 4 rfl ?_
      refine xt_add X dX7_put_67 ?_
      refine xt_al X dX7_put_68 rfl 0 rfl ?_
      refine gfX7_7 X k0 dX7_put_69 ?_
      refine xt_il X dX7_put_72 rfl 1 rfl ?_
      refine xt_ilw X dX7_put_73 4 rfl ?_
      refine xt_ic X dX7_put_75 ?_
      refine xt_sub X dX7_put_76 ?_
      obtain ⟨g_11, h⟩ := h
      refine xt_cSI X [rV (v0 + 1), iV (v1), iV (v4 - 1)] [iV ((15 + (24 * v1)) + v4), rV (v0 + 1)] (ctX7_signAt hG (kd_X7_0 hG k0) r1 g_11 h) gdX7_41 pdX7_signAt ⟨rfl, rfl⟩ ⟨Nat.le_of_ble_eq_true rfl, Nat.le_of_ble_eq_true rfl⟩ rfl (Nat.le_of_ble_eq_true rfl) dX7_put_77 (fun z_12 M_13 z_12r h => ?_)
      obtain ⟨g_14, h⟩ := h
      refine xt_iast X (kd_X7_0 hG k0) g_14 (by decide) z_12r dX7_put_80 (fun M_15 hm => ?_)
      have h := h M_15 hm
      refine xt_inc (lv2 := [(4, iV (v4 + (-1))), (0, rV (v0)), (1, iV (v1)), (2, iV (v2)), (3, iV (v3))]) X dX7_put_81 4 rfl (by decide) rfl ?_
      refine xt_goto (tgt := 48) X dX7_put_84 (by decide) ?_
      obtain ⟨g_16, h⟩ := h
      refine xt_perm (lv2 := [(0, rV (v0)), (1, iV (v1)), (2, iV (v2)), (3, iV (v3)), (4, iV (v4 + (-1)))]) [1, 2, 3, 4, 0] rfl ?_
      exact ih (v4 + (-1)) M_15 g_16 h
set_option maxHeartbeats 4000000 in
set_option maxRecDepth 100000 in
theorem ctX7_put {l : Launch} {G : GG} (hG : Gd G) {v0 : Int} {v1 : Int} {v2 : Int} {v3 : Int} {M : Mm} {Q : Int → Mm → Prop} (k0 : gK G v0 = (7, 0)) (r1 : inR v1) (r2 : inR v2) (r3 : inR v3) (h : PX7_put v0 v1 v2 v3 M Q) : Met l yX7_put (Cond.code yX7_put cX7_put 5 ((some FieldType.int)) :: tw) rmX7_put (Pre G M [rV (v0), iV (v1), iV (v2), iV (v3)]) (PostI G Q) 0 0 (gA G) := by
  refine met_of (own := RX7) (by decide) rfl hG (Nat.le_of_ble_eq_true rfl) (fun p e s m below meth c X => ?_)
  generalize hargs : ([rV (v0), iV (v1), iV (v2), iV (v3)] : List Value).toArray = args at X ⊢
  show Wt p l e rmX7_put s m args below meth c G (MQ below (PostI G Q) args s 0 0 (gA G)) 5 M [(0, rV (v0)), (1, iV (v1)), (2, iV (v2)), (3, iV (v3))] 0 []
  unfold PX7_put at h
  refine xt_al X dX7_put_0 rfl 0 rfl ?_
  refine xt_il X dX7_put_1 rfl 1 rfl ?_
  refine xt_il X dX7_put_2 rfl 2 rfl ?_
  refine xt_cVI X [iV (v1), iV (v2)] [] (ctX7_isPlace hG k0 r1 r2 h) gdX7_105 pdX7_isPlace ⟨rfl, rfl⟩ ⟨Nat.le_of_ble_eq_true rfl, Nat.le_of_ble_eq_true rfl⟩ rfl (k_lt k0 (by decide)) (by rw [k0]; rfl) rfl (Nat.le_of_ble_eq_true rfl) dX7_put_3 (fun z_1 M_2 z_1r h => ?_)
  refine xt_zeq (tgt := 16) X z_1r dX7_put_6 (by decide) (fun hc => ?_) (fun hc => ?_)
  · have h := h.1 hc
    refine xt_ic X dX7_put_16 ?_
    exact xt_iret X (i_rc (-1) rfl) h dX7_put_17
  · have h := h.2 hc
    refine xt_il X dX7_put_9 rfl 3 rfl ?_
    refine xt_cSI X [iV (v3)] [] (ctX7_isSign hG r3 h) gdX7_109 pdX7_isSign ⟨rfl, rfl⟩ ⟨Nat.le_of_ble_eq_true rfl, Nat.le_of_ble_eq_true rfl⟩ rfl (Nat.le_of_ble_eq_true rfl) dX7_put_10 (fun z_3 M_4 z_3r h => ?_)
    refine xt_zne (tgt := 18) X z_3r dX7_put_13 (by decide) (fun hc => ?_) (fun hc => ?_)
    · have h := h.2 hc
      refine xt_al X dX7_put_18 rfl 0 rfl ?_
      refine gfX7_7 X k0 dX7_put_19 ?_
      refine xt_ic X dX7_put_22 ?_
      refine xt_il X dX7_put_23 rfl 1 rfl ?_
      refine xt_add X dX7_put_24 ?_
      obtain ⟨g_5, h⟩ := h
      refine xt_iald X (kd_X7_0 hG k0) g_5 (by decide) dX7_put_25 (fun r_6 => ?_)
      refine xt_bi X dX7_put_26 (by decide) ?_
      refine xt_cne (tgt := 34) X r_6 (i_rc 24 rfl) dX7_put_28 (by decide) (fun hc => ?_) (fun hc => ?_)
      · have h := h.2 hc
        refine xt_al X dX7_put_34 rfl 0 rfl ?_
        refine xt_cVV X [] [] (ctX7_begins hG k0 h) gdX7_112 pdX7_begins ⟨rfl, rfl⟩ ⟨Nat.le_of_ble_eq_true rfl, Nat.le_of_ble_eq_true rfl⟩ rfl (k_lt k0 (by decide)) (by rw [k0]; rfl) rfl (Nat.le_of_ble_eq_true rfl) dX7_put_35 (fun M_8 h => ?_)
        refine xt_al X dX7_put_38 rfl 0 rfl ?_
        refine gfX7_7 X k0 dX7_put_39 ?_
        refine xt_ic X dX7_put_42 ?_
        refine xt_il X dX7_put_43 rfl 1 rfl ?_
        refine xt_add X dX7_put_44 ?_
        obtain ⟨g_9, h⟩ := h
        refine xt_iald X (kd_X7_0 hG k0) g_9 (by decide) dX7_put_45 (fun r_10 => ?_)
        refine xt_isw (lv2 := [(4, iV (M_8 (v0 + 1) (3 + v1))), (0, rV (v0)), (1, iV (v1)), (2, iV (v2)), (3, iV (v3))]) X dX7_put_46 (by decide) rfl ?_
        obtain ⟨n_17, h⟩ := h
        refine xt_perm (lv2 := [(0, rV (v0)), (1, iV (v1)), (2, iV (v2)), (3, iV (v3)), (4, iV (M_8 (v0 + 1) (3 + v1)))]) [1, 2, 3, 4, 0] rfl ?_
        refine wX7_put_48 X k0 r1 r2 r3 (fun M_18 h => ?_) n_17 (M_8 (v0 + 1) (3 + v1)) M_8 r_10 h
        refine xt_al X dX7_put_87 rfl 0 rfl ?_
        refine gfX7_7 X k0 dX7_put_88 ?_
        refine xt_bi X dX7_put_91 (by decide) ?_
        refine xt_bi X dX7_put_93 (by decide) ?_
        refine xt_il X dX7_put_95 rfl 1 rfl ?_
        refine xt_mul X dX7_put_96 ?_
        refine xt_add X dX7_put_97 ?_
        refine xt_il X dX7_put_98 rfl 2 rfl ?_
        refine xt_add X dX7_put_99 ?_
        refine xt_il X dX7_put_100 rfl 3 rfl ?_
        obtain ⟨g_19, h⟩ := h
        refine xt_iast X (kd_X7_0 hG k0) g_19 (by decide) r3 dX7_put_101 (fun M_20 hm => ?_)
        have h := h M_20 hm
        refine xt_al X dX7_put_102 rfl 0 rfl ?_
        refine gfX7_7 X k0 dX7_put_103 ?_
        refine xt_ic X dX7_put_106 ?_
        refine xt_il X dX7_put_107 rfl 1 rfl ?_
        refine xt_add X dX7_put_108 ?_
        refine xt_dup2 X rfl rfl dX7_put_109 ?_
        obtain ⟨g_21, h⟩ := h
        refine xt_iald X (kd_X7_0 hG k0) g_21 (by decide) dX7_put_110 (fun r_22 => ?_)
        refine xt_ic X dX7_put_111 ?_
        refine xt_add X dX7_put_112 ?_
        obtain ⟨g_23, h⟩ := h
        obtain ⟨g_24, h⟩ := h
        refine xt_iast X (kd_X7_0 hG k0) g_23 (by decide) g_24 dX7_put_113 (fun M_25 hm => ?_)
        have h := h M_25 hm
        refine xt_al X dX7_put_114 rfl 0 rfl ?_
        refine xt_cVV X [] [] (ctX7_ends hG k0 h) gdX7_115 pdX7_ends ⟨rfl, rfl⟩ ⟨Nat.le_of_ble_eq_true rfl, Nat.le_of_ble_eq_true rfl⟩ rfl (k_lt k0 (by decide)) (by rw [k0]; rfl) rfl (Nat.le_of_ble_eq_true rfl) dX7_put_115 (fun M_27 h => ?_)
        refine xt_al X dX7_put_118 rfl 0 rfl ?_
        refine gfX7_7 X k0 dX7_put_119 ?_
        refine xt_ic X dX7_put_122 ?_
        refine xt_il X dX7_put_123 rfl 1 rfl ?_
        refine xt_add X dX7_put_124 ?_
        obtain ⟨g_28, h⟩ := h
        refine xt_iald X (kd_X7_0 hG k0) g_28 (by decide) dX7_put_125 (fun r_29 => ?_)
        exact xt_iret X r_29 h dX7_put_126
      · have h := h.1 hc
        refine xt_bi X dX7_put_31 (by decide) ?_
        exact xt_iret X (i_rc (-3) rfl) h dX7_put_33
    · have h := h.1 hc
      refine xt_ic X dX7_put_16 ?_
      exact xt_iret X (i_rc (-1) rfl) h dX7_put_17
abbrev rmX7_cut : Room := { frames := 9, cells := 0, slots := 0, locals := 214 }
def BX7_cut_52  (Q : Int → Mm → Prop) (v0 : Int) (v1 : Int) (v3 : Int) (rec : Int → Mm → Prop) (v4 : Int) (M : Mm) : Prop :=
  ((0 ≤ (3 + v1) ∧ (3 + v1) < 327) ∧
  (((M (v0 + 1) (3 + v1)) ≤ v4 → (PX7_ends v0 M (fun M_17 =>
  Q v3 M_17))) ∧
  (¬ (M (v0 + 1) (3 + v1)) ≤ v4 → (inR (v4 + 1) ∧
  (PX7_signAt (v0 + 1) v1 (v4 + 1) M (fun z_19 M_20 =>
  ((0 ≤ ((15 + (24 * v1)) + v4) ∧ ((15 + (24 * v1)) + v4) < 327) ∧
  (∀ M_22 : Mm, M_22 = um M_20 (v0 + 1) ((15 + (24 * v1)) + v4) z_19 →
  (inR (v4 + 1) ∧
  rec (v4 + 1) M_22)))))))))
def PX7_cut (v0 : Int) (v1 : Int) (v2 : Int) (M : Mm) (Q : Int → Mm → Prop) : Prop :=
  (PX7_isPlace v0 v1 v2 M (fun z_1 M_2 =>
  ((z_1 = 0 → Q ((-1)) M_2) ∧
  (¬ z_1 = 0 → ((0 ≤ (3 + v1) ∧ (3 + v1) < 327) ∧
  ((v2 = (M_2 (v0 + 1) (3 + v1)) → Q ((-1)) M_2) ∧
  (¬ v2 = (M_2 (v0 + 1) (3 + v1)) → (PX7_begins v0 M_2 (fun M_6 =>
  (PX7_signAt (v0 + 1) v1 v2 M_6 (fun z_7 M_8 =>
  ((0 ≤ (3 + v1) ∧ (3 + v1) < 327) ∧
  ((0 ≤ (3 + v1) ∧ (3 + v1) < 327) ∧
  (inR ((M_8 (v0 + 1) (3 + v1)) - 1) ∧
  (∀ M_13 : Mm, M_13 = um M_8 (v0 + 1) (3 + v1) ((M_8 (v0 + 1) (3 + v1)) - 1) →
  ∃ n_24 : Nat, lp_I (BX7_cut_52  Q v0 v1 z_7) n_24 v2 M_13)))))))))))))))
set_option maxHeartbeats 4000000 in
set_option maxRecDepth 100000 in
theorem wX7_cut_52 {p : Program} {l : Launch} {e : Env} {s : State} {m : MethodId} {args : Array Value} {below : List Frame} {meth : Method} {c : Code} {G : GG} (X : Cx p s m args meth c cX7_cut 5 ((some FieldType.int)) RX7 G) {Q : Int → Mm → Prop}  {v0 : Int} {v1 : Int} {v3 : Int} (k0 : gK G v0 = (7, 0)) (r1 : inR v1) (r3 : inR v3)  : ∀ (n : Nat) (v4 : Int) (M : Mm), inR v4 → lp_I (BX7_cut_52  Q v0 v1 v3) n v4 M → Wt p l e rmX7_cut s m args below meth c G (MQ below (PostI G Q) args s 0 0 (gA G)) 5 M [(0, rV (v0)), (1, iV (v1)), (3, iV (v3)), (4, iV (v4))] 52 [] := by
  have hG := X.2.2.2.2.2.2.2.2
  intro n
  induction n with
  | zero => intro v4 M r4 h; exact h.elim
  | succ n ih =>
    intro v4 M r4 h
    have h : BX7_cut_52  Q v0 v1 v3 (lp_I (BX7_cut_52  Q v0 v1 v3) n) v4 M := h
    unfold BX7_cut_52 at h
    refine xt_ilw X dX7_cut_52 3 rfl ?_
    refine xt_al X dX7_cut_54 rfl 0 rfl ?_
    refine gfX7_7 X k0 dX7_cut_55 ?_
    refine xt_ic X dX7_cut_58 ?_
    refine xt_il X dX7_cut_59 rfl 1 rfl ?_
    refine xt_add X dX7_cut_60 ?_
    obtain ⟨g_14, h⟩ := h
    refine xt_iald X (kd_X7_0 hG k0) g_14 (by decide) dX7_cut_61 (fun r_15 => ?_)
    refine xt_cge (tgt := 98) X r4 r_15 dX7_cut_62 (by decide) (fun hc => ?_) (fun hc => ?_)
    · have h := h.1 hc
      refine xt_al X dX7_cut_98 rfl 0 rfl ?_
      refine xt_cVV X [] [] (ctX7_ends hG k0 h) gdX7_115 pdX7_ends ⟨rfl, rfl⟩ ⟨Nat.le_of_ble_eq_true rfl, Nat.le_of_ble_eq_true rfl⟩ rfl (k_lt k0 (by decide)) (by rw [k0]; rfl) rfl (Nat.le_of_ble_eq_true rfl) dX7_cut_99 (fun M_17 h => ?_)
      refine xt_il X dX7_cut_102 rfl 2 rfl ?_
      exact xt_iret X r3 h dX7_cut_103
    · have h := h.2 hc
      refine xt_al X dX7_cut_65 rfl 0 rfl ?_
      refine gfX7_7 X k0 dX7_cut_66 ?_
      refine xt_bi X dX7_cut_69 (by decide) ?_
      refine xt_bi X dX7_cut_71 (by decide) ?_
      refine xt_il X dX7_cut_73 rfl 1 rfl ?_
      refine xt_mul X dX7_cut_74 ?_
      refine xt_add X dX7_cut_75 ?_
      refine xt_ilw X dX7_cut_76 3 rfl ?_
      refine xt_add X dX7_cut_78 ?_
      refine xt_al X dX7_cut_79 rfl 0 rfl ?_
      refine gfX7_7 X k0 dX7_cut_80 ?_
      refine xt_il X dX7_cut_83 rfl 1 rfl ?_
      refine xt_ilw X dX7_cut_84 3 rfl ?_
      refine xt_ic X dX7_cut_86 ?_
      refine xt_add X dX7_cut_87 ?_
      obtain ⟨g_18, h⟩ := h
      refine xt_cSI X [rV (v0 + 1), iV (v1), iV (v4 + 1)] [iV ((15 + (24 * v1)) + v4), rV (v0 + 1)] (ctX7_signAt hG (kd_X7_0 hG k0) r1 g_18 h) gdX7_41 pdX7_signAt ⟨rfl, rfl⟩ ⟨Nat.le_of_ble_eq_true rfl, Nat.le_of_ble_eq_true rfl⟩ rfl (Nat.le_of_ble_eq_true rfl) dX7_cut_88 (fun z_19 M_20 z_19r h => ?_)
      obtain ⟨g_21, h⟩ := h
      refine xt_iast X (kd_X7_0 hG k0) g_21 (by decide) z_19r dX7_cut_91 (fun M_22 hm => ?_)
      have h := h M_22 hm
      refine xt_inc (lv2 := [(4, iV (v4 + 1)), (0, rV (v0)), (1, iV (v1)), (3, iV (v3))]) X dX7_cut_92 3 rfl (by decide) rfl ?_
      refine xt_goto (tgt := 52) X dX7_cut_95 (by decide) ?_
      obtain ⟨g_23, h⟩ := h
      refine xt_perm (lv2 := [(0, rV (v0)), (1, iV (v1)), (3, iV (v3)), (4, iV (v4 + 1))]) [1, 2, 3, 0] rfl ?_
      exact ih (v4 + 1) M_22 g_23 h
set_option maxHeartbeats 4000000 in
set_option maxRecDepth 100000 in
theorem ctX7_cut {l : Launch} {G : GG} (hG : Gd G) {v0 : Int} {v1 : Int} {v2 : Int} {M : Mm} {Q : Int → Mm → Prop} (k0 : gK G v0 = (7, 0)) (r1 : inR v1) (r2 : inR v2) (h : PX7_cut v0 v1 v2 M Q) : Met l yX7_cut (Cond.code yX7_cut cX7_cut 5 ((some FieldType.int)) :: tw) rmX7_cut (Pre G M [rV (v0), iV (v1), iV (v2)]) (PostI G Q) 0 0 (gA G) := by
  refine met_of (own := RX7) (by decide) rfl hG (Nat.le_of_ble_eq_true rfl) (fun p e s m below meth c X => ?_)
  generalize hargs : ([rV (v0), iV (v1), iV (v2)] : List Value).toArray = args at X ⊢
  show Wt p l e rmX7_cut s m args below meth c G (MQ below (PostI G Q) args s 0 0 (gA G)) 5 M [(0, rV (v0)), (1, iV (v1)), (2, iV (v2))] 0 []
  unfold PX7_cut at h
  refine xt_al X dX7_cut_0 rfl 0 rfl ?_
  refine xt_il X dX7_cut_1 rfl 1 rfl ?_
  refine xt_il X dX7_cut_2 rfl 2 rfl ?_
  refine xt_cVI X [iV (v1), iV (v2)] [] (ctX7_isPlace hG k0 r1 r2 h) gdX7_105 pdX7_isPlace ⟨rfl, rfl⟩ ⟨Nat.le_of_ble_eq_true rfl, Nat.le_of_ble_eq_true rfl⟩ rfl (k_lt k0 (by decide)) (by rw [k0]; rfl) rfl (Nat.le_of_ble_eq_true rfl) dX7_cut_3 (fun z_1 M_2 z_1r h => ?_)
  refine xt_zeq (tgt := 21) X z_1r dX7_cut_6 (by decide) (fun hc => ?_) (fun hc => ?_)
  · have h := h.1 hc
    refine xt_ic X dX7_cut_21 ?_
    exact xt_iret X (i_rc (-1) rfl) h dX7_cut_22
  · have h := h.2 hc
    refine xt_il X dX7_cut_9 rfl 2 rfl ?_
    refine xt_al X dX7_cut_10 rfl 0 rfl ?_
    refine gfX7_7 X k0 dX7_cut_11 ?_
    refine xt_ic X dX7_cut_14 ?_
    refine xt_il X dX7_cut_15 rfl 1 rfl ?_
    refine xt_add X dX7_cut_16 ?_
    obtain ⟨g_3, h⟩ := h
    refine xt_iald X (kd_X7_0 hG k0) g_3 (by decide) dX7_cut_17 (fun r_4 => ?_)
    refine xt_cne (tgt := 23) X r2 r_4 dX7_cut_18 (by decide) (fun hc => ?_) (fun hc => ?_)
    · have h := h.2 hc
      refine xt_al X dX7_cut_23 rfl 0 rfl ?_
      refine xt_cVV X [] [] (ctX7_begins hG k0 h) gdX7_112 pdX7_begins ⟨rfl, rfl⟩ ⟨Nat.le_of_ble_eq_true rfl, Nat.le_of_ble_eq_true rfl⟩ rfl (k_lt k0 (by decide)) (by rw [k0]; rfl) rfl (Nat.le_of_ble_eq_true rfl) dX7_cut_24 (fun M_6 h => ?_)
      refine xt_al X dX7_cut_27 rfl 0 rfl ?_
      refine gfX7_7 X k0 dX7_cut_28 ?_
      refine xt_il X dX7_cut_31 rfl 1 rfl ?_
      refine xt_il X dX7_cut_32 rfl 2 rfl ?_
      refine xt_cSI X [rV (v0 + 1), iV (v1), iV (v2)] [] (ctX7_signAt hG (kd_X7_0 hG k0) r1 r2 h) gdX7_41 pdX7_signAt ⟨rfl, rfl⟩ ⟨Nat.le_of_ble_eq_true rfl, Nat.le_of_ble_eq_true rfl⟩ rfl (Nat.le_of_ble_eq_true rfl) dX7_cut_33 (fun z_7 M_8 z_7r h => ?_)
      refine xt_is (lv2 := [(3, iV (z_7)), (0, rV (v0)), (1, iV (v1)), (2, iV (v2))]) X dX7_cut_36 rfl (by decide) rfl ?_
      refine xt_al X dX7_cut_37 rfl 1 rfl ?_
      refine gfX7_7 X k0 dX7_cut_38 ?_
      refine xt_ic X dX7_cut_41 ?_
      refine xt_il X dX7_cut_42 rfl 2 rfl ?_
      refine xt_add X dX7_cut_43 ?_
      refine xt_dup2 X rfl rfl dX7_cut_44 ?_
      obtain ⟨g_9, h⟩ := h
      refine xt_iald X (kd_X7_0 hG k0) g_9 (by decide) dX7_cut_45 (fun r_10 => ?_)
      refine xt_ic X dX7_cut_46 ?_
      refine xt_sub X dX7_cut_47 ?_
      obtain ⟨g_11, h⟩ := h
      obtain ⟨g_12, h⟩ := h
      refine xt_iast X (kd_X7_0 hG k0) g_11 (by decide) g_12 dX7_cut_48 (fun M_13 hm => ?_)
      have h := h M_13 hm
      refine xt_il X dX7_cut_49 rfl 3 rfl ?_
      refine xt_isw (lv2 := [(4, iV (v2)), (3, iV (z_7)), (0, rV (v0)), (1, iV (v1)), (2, iV (v2))]) X dX7_cut_50 (by decide) rfl ?_
      obtain ⟨n_24, h⟩ := h
      refine xt_perm (lv2 := [(0, rV (v0)), (1, iV (v1)), (3, iV (z_7)), (4, iV (v2))]) [2, 3, 1, 0] rfl ?_
      refine wX7_cut_52 X k0 r1 z_7r  n_24 v2 M_13 r2 h
    · have h := h.1 hc
      refine xt_ic X dX7_cut_21 ?_
      exact xt_iret X (i_rc (-1) rfl) h dX7_cut_22
abbrev rmX7_split : Room := { frames := 9, cells := 0, slots := 0, locals := 214 }
def BX7_split_38 (ke72 : Mm → Prop) (Q : Int → Mm → Prop) (v0 : Int) (v1 : Int) (v2 : Int) (rec : Int → Mm → Prop) (v3 : Int) (M : Mm) : Prop :=
  ((0 ≤ (3 + v1) ∧ (3 + v1) < 327) ∧
  (((M (v0 + 1) (3 + v1)) ≤ v3 → ke72 M) ∧
  (¬ (M (v0 + 1) (3 + v1)) ≤ v3 → (PX7_signAt (v0 + 1) v1 v3 M (fun z_11 M_12 =>
  (inR (v1 + 1) ∧
  (PX7_appends v0 (v1 + 1) z_11 M_12 (fun M_15 =>
  (inR (v3 + 1) ∧
  rec (v3 + 1) M_15)))))))))
def PX7_split (v0 : Int) (v1 : Int) (v2 : Int) (M : Mm) (Q : Int → Mm → Prop) : Prop :=
  (PX7_isPlace v0 v1 v2 M (fun z_1 M_2 =>
  ((z_1 = 0 → Q ((-1)) M_2) ∧
  (¬ z_1 = 0 → (((M_2 (v0 + 1) 0) = 12 → Q ((-3)) M_2) ∧
  (¬ (M_2 (v0 + 1) 0) = 12 → (PX7_begins v0 M_2 (fun M_5 =>
  (inR (v1 + 1) ∧
  (PX7_opens v0 (v1 + 1) M_5 (fun M_8 =>
  ∃ n_17 : Nat, lp_I (BX7_split_38 (fun M_18 => ((0 ≤ (3 + v1) ∧ (3 + v1) < 327) ∧
  (∀ M_20 : Mm, M_20 = um M_18 (v0 + 1) (3 + v1) v2 →
  (PX7_ends v0 M_20 (fun M_22 =>
  Q (M_22 (v0 + 1) 0) M_22))))) Q v0 v1 v2) n_17 v2 M_8)))))))))))
set_option maxHeartbeats 4000000 in
set_option maxRecDepth 100000 in
theorem wX7_split_38 {p : Program} {l : Launch} {e : Env} {s : State} {m : MethodId} {args : Array Value} {below : List Frame} {meth : Method} {c : Code} {G : GG} (X : Cx p s m args meth c cX7_split 4 ((some FieldType.int)) RX7 G) {Q : Int → Mm → Prop} {ke72 : Mm → Prop} {v0 : Int} {v1 : Int} {v2 : Int} (k0 : gK G v0 = (7, 0)) (r1 : inR v1) (r2 : inR v2) (hke72 : ∀ (M : Mm), ke72  M → Wt p l e rmX7_split s m args below meth c G (MQ below (PostI G Q) args s 0 0 (gA G)) 4 M [(0, rV (v0)), (1, iV (v1)), (2, iV (v2))] 72 []) : ∀ (n : Nat) (v3 : Int) (M : Mm), inR v3 → lp_I (BX7_split_38 ke72 Q v0 v1 v2) n v3 M → Wt p l e rmX7_split s m args below meth c G (MQ below (PostI G Q) args s 0 0 (gA G)) 4 M [(0, rV (v0)), (1, iV (v1)), (2, iV (v2)), (3, iV (v3))] 38 [] := by
  have hG := X.2.2.2.2.2.2.2.2
  intro n
  induction n with
  | zero => intro v3 M r3 h; exact h.elim
  | succ n ih =>
    intro v3 M r3 h
    have h : BX7_split_38 ke72 Q v0 v1 v2 (lp_I (BX7_split_38 ke72 Q v0 v1 v2) n) v3 M := h
    unfold BX7_split_38 at h
    refine xt_il X dX7_split_38 rfl 3 rfl ?_
    refine xt_al X dX7_split_39 rfl 0 rfl ?_
    refine gfX7_7 X k0 dX7_split_40 ?_
    refine xt_ic X dX7_split_43 ?_
    refine xt_il X dX7_split_44 rfl 1 rfl ?_
    refine xt_add X dX7_split_45 ?_
    obtain ⟨g_9, h⟩ := h
    refine xt_iald X (kd_X7_0 hG k0) g_9 (by decide) dX7_split_46 (fun r_10 => ?_)
    refine xt_cge (tgt := 72) X r3 r_10 dX7_split_47 (by decide) (fun hc => ?_) (fun hc => ?_)
    · have h := h.1 hc
      refine xt_perm (lv2 := [(0, rV (v0)), (1, iV (v1)), (2, iV (v2))]) [0, 1, 2] rfl ?_
      exact hke72 M  h
    · have h := h.2 hc
      refine xt_al X dX7_split_50 rfl 0 rfl ?_
      refine xt_il X dX7_split_51 rfl 1 rfl ?_
      refine xt_ic X dX7_split_52 ?_
      refine xt_add X dX7_split_53 ?_
      refine xt_al X dX7_split_54 rfl 0 rfl ?_
      refine gfX7_7 X k0 dX7_split_55 ?_
      refine xt_il X dX7_split_58 rfl 1 rfl ?_
      refine xt_il X dX7_split_59 rfl 3 rfl ?_
      refine xt_cSI X [rV (v0 + 1), iV (v1), iV (v3)] [iV (v1 + 1), rV (v0)] (ctX7_signAt hG (kd_X7_0 hG k0) r1 r3 h) gdX7_41 pdX7_signAt ⟨rfl, rfl⟩ ⟨Nat.le_of_ble_eq_true rfl, Nat.le_of_ble_eq_true rfl⟩ rfl (Nat.le_of_ble_eq_true rfl) dX7_split_60 (fun z_11 M_12 z_11r h => ?_)
      obtain ⟨g_13, h⟩ := h
      refine xt_cVV X [iV (v1 + 1), iV (z_11)] [] (ctX7_appends hG k0 g_13 z_11r h) gdX7_122 pdX7_appends ⟨rfl, rfl⟩ ⟨Nat.le_of_ble_eq_true rfl, Nat.le_of_ble_eq_true rfl⟩ rfl (k_lt k0 (by decide)) (by rw [k0]; rfl) rfl (Nat.le_of_ble_eq_true rfl) dX7_split_63 (fun M_15 h => ?_)
      refine xt_inc (lv2 := [(3, iV (v3 + 1)), (0, rV (v0)), (1, iV (v1)), (2, iV (v2))]) X dX7_split_66 3 rfl (by decide) rfl ?_
      refine xt_goto (tgt := 38) X dX7_split_69 (by decide) ?_
      obtain ⟨g_16, h⟩ := h
      refine xt_perm (lv2 := [(0, rV (v0)), (1, iV (v1)), (2, iV (v2)), (3, iV (v3 + 1))]) [1, 2, 3, 0] rfl ?_
      exact ih (v3 + 1) M_15 g_16 h
set_option maxHeartbeats 4000000 in
set_option maxRecDepth 100000 in
theorem ctX7_split {l : Launch} {G : GG} (hG : Gd G) {v0 : Int} {v1 : Int} {v2 : Int} {M : Mm} {Q : Int → Mm → Prop} (k0 : gK G v0 = (7, 0)) (r1 : inR v1) (r2 : inR v2) (h : PX7_split v0 v1 v2 M Q) : Met l yX7_split (Cond.code yX7_split cX7_split 4 ((some FieldType.int)) :: tw) rmX7_split (Pre G M [rV (v0), iV (v1), iV (v2)]) (PostI G Q) 0 0 (gA G) := by
  refine met_of (own := RX7) (by decide) rfl hG (Nat.le_of_ble_eq_true rfl) (fun p e s m below meth c X => ?_)
  generalize hargs : ([rV (v0), iV (v1), iV (v2)] : List Value).toArray = args at X ⊢
  show Wt p l e rmX7_split s m args below meth c G (MQ below (PostI G Q) args s 0 0 (gA G)) 4 M [(0, rV (v0)), (1, iV (v1)), (2, iV (v2))] 0 []
  unfold PX7_split at h
  refine xt_al X dX7_split_0 rfl 0 rfl ?_
  refine xt_il X dX7_split_1 rfl 1 rfl ?_
  refine xt_il X dX7_split_2 rfl 2 rfl ?_
  refine xt_cVI X [iV (v1), iV (v2)] [] (ctX7_isPlace hG k0 r1 r2 h) gdX7_105 pdX7_isPlace ⟨rfl, rfl⟩ ⟨Nat.le_of_ble_eq_true rfl, Nat.le_of_ble_eq_true rfl⟩ rfl (k_lt k0 (by decide)) (by rw [k0]; rfl) rfl (Nat.le_of_ble_eq_true rfl) dX7_split_3 (fun z_1 M_2 z_1r h => ?_)
  refine xt_zne (tgt := 11) X z_1r dX7_split_6 (by decide) (fun hc => ?_) (fun hc => ?_)
  · have h := h.2 hc
    refine xt_al X dX7_split_11 rfl 0 rfl ?_
    refine gfX7_7 X k0 dX7_split_12 ?_
    refine xt_ic X dX7_split_15 ?_
    refine xt_iald X (kd_X7_0 hG k0) ⟨by decide, by decide⟩ (by decide) dX7_split_16 (fun r_3 => ?_)
    refine xt_bi X dX7_split_17 (by decide) ?_
    refine xt_cne (tgt := 25) X r_3 (i_rc 12 rfl) dX7_split_19 (by decide) (fun hc => ?_) (fun hc => ?_)
    · have h := h.2 hc
      refine xt_al X dX7_split_25 rfl 0 rfl ?_
      refine xt_cVV X [] [] (ctX7_begins hG k0 h) gdX7_112 pdX7_begins ⟨rfl, rfl⟩ ⟨Nat.le_of_ble_eq_true rfl, Nat.le_of_ble_eq_true rfl⟩ rfl (k_lt k0 (by decide)) (by rw [k0]; rfl) rfl (Nat.le_of_ble_eq_true rfl) dX7_split_26 (fun M_5 h => ?_)
      refine xt_al X dX7_split_29 rfl 0 rfl ?_
      refine xt_il X dX7_split_30 rfl 1 rfl ?_
      refine xt_ic X dX7_split_31 ?_
      refine xt_add X dX7_split_32 ?_
      obtain ⟨g_6, h⟩ := h
      refine xt_cVV X [iV (v1 + 1)] [] (ctX7_opens hG k0 g_6 h) gdX7_118 pdX7_opens ⟨rfl, rfl⟩ ⟨Nat.le_of_ble_eq_true rfl, Nat.le_of_ble_eq_true rfl⟩ rfl (k_lt k0 (by decide)) (by rw [k0]; rfl) rfl (Nat.le_of_ble_eq_true rfl) dX7_split_33 (fun M_8 h => ?_)
      refine xt_il X dX7_split_36 rfl 2 rfl ?_
      refine xt_is (lv2 := [(3, iV (v2)), (0, rV (v0)), (1, iV (v1)), (2, iV (v2))]) X dX7_split_37 rfl (by decide) rfl ?_
      obtain ⟨n_17, h⟩ := h
      refine xt_perm (lv2 := [(0, rV (v0)), (1, iV (v1)), (2, iV (v2)), (3, iV (v2))]) [1, 2, 3, 0] rfl ?_
      refine wX7_split_38 X k0 r1 r2 (fun M_18 h => ?_) n_17 v2 M_8 r2 h
      refine xt_al X dX7_split_72 rfl 0 rfl ?_
      refine gfX7_7 X k0 dX7_split_73 ?_
      refine xt_ic X dX7_split_76 ?_
      refine xt_il X dX7_split_77 rfl 1 rfl ?_
      refine xt_add X dX7_split_78 ?_
      refine xt_il X dX7_split_79 rfl 2 rfl ?_
      obtain ⟨g_19, h⟩ := h
      refine xt_iast X (kd_X7_0 hG k0) g_19 (by decide) r2 dX7_split_80 (fun M_20 hm => ?_)
      have h := h M_20 hm
      refine xt_al X dX7_split_81 rfl 0 rfl ?_
      refine xt_cVV X [] [] (ctX7_ends hG k0 h) gdX7_115 pdX7_ends ⟨rfl, rfl⟩ ⟨Nat.le_of_ble_eq_true rfl, Nat.le_of_ble_eq_true rfl⟩ rfl (k_lt k0 (by decide)) (by rw [k0]; rfl) rfl (Nat.le_of_ble_eq_true rfl) dX7_split_82 (fun M_22 h => ?_)
      refine xt_al X dX7_split_85 rfl 0 rfl ?_
      refine gfX7_7 X k0 dX7_split_86 ?_
      refine xt_ic X dX7_split_89 ?_
      refine xt_iald X (kd_X7_0 hG k0) ⟨by decide, by decide⟩ (by decide) dX7_split_90 (fun r_23 => ?_)
      exact xt_iret X r_23 h dX7_split_91
    · have h := h.1 hc
      refine xt_bi X dX7_split_22 (by decide) ?_
      exact xt_iret X (i_rc (-3) rfl) h dX7_split_24
  · have h := h.1 hc
    refine xt_ic X dX7_split_9 ?_
    exact xt_iret X (i_rc (-1) rfl) h dX7_split_10
abbrev rmX7_join : Room := { frames := 9, cells := 0, slots := 0, locals := 214 }
def BX7_join_53 (ke89 : Mm → Prop) (Q : Int → Mm → Prop) (v0 : Int) (v1 : Int) (rec : Int → Mm → Prop) (v2 : Int) (M : Mm) : Prop :=
  ((0 ≤ ((3 + v1) + 1) ∧ ((3 + v1) + 1) < 327) ∧
  (((M (v0 + 1) ((3 + v1) + 1)) ≤ v2 → ke89 M) ∧
  (¬ (M (v0 + 1) ((3 + v1) + 1)) ≤ v2 → (inR (v1 + 1) ∧
  (PX7_signAt (v0 + 1) (v1 + 1) v2 M (fun z_16 M_17 =>
  (PX7_appends v0 v1 z_16 M_17 (fun M_19 =>
  (inR (v2 + 1) ∧
  rec (v2 + 1) M_19)))))))))
def PX7_join (v0 : Int) (v1 : Int) (M : Mm) (Q : Int → Mm → Prop) : Prop :=
  (PX7_isLine v0 v1 M (fun z_1 M_2 =>
  ((z_1 = 0 → Q ((-1)) M_2) ∧
  (¬ z_1 = 0 → (inR (v1 + 1) ∧
  (PX7_isLine v0 (v1 + 1) M_2 (fun z_4 M_5 =>
  ((z_4 = 0 → Q ((-1)) M_5) ∧
  (¬ z_4 = 0 → ((0 ≤ (3 + v1) ∧ (3 + v1) < 327) ∧
  ((0 ≤ ((3 + v1) + 1) ∧ ((3 + v1) + 1) < 327) ∧
  (inR ((M_5 (v0 + 1) (3 + v1)) + (M_5 (v0 + 1) ((3 + v1) + 1))) ∧
  ((((M_5 (v0 + 1) (3 + v1)) + (M_5 (v0 + 1) ((3 + v1) + 1))) ≤ 24 → (PX7_begins v0 M_5 (fun M_12 =>
  ∃ n_21 : Nat, lp_I (BX7_join_53 (fun M_22 => (inR (v1 + 1) ∧
  (PX7_shuts v0 (v1 + 1) M_22 (fun M_25 =>
  (PX7_ends v0 M_25 (fun M_27 =>
  Q (M_27 (v0 + 1) 0) M_27)))))) Q v0 v1) n_21 0 M_12))) ∧
  (¬ ((M_5 (v0 + 1) (3 + v1)) + (M_5 (v0 + 1) ((3 + v1) + 1))) ≤ 24 → Q ((-3)) M_5))))))))))))))
set_option maxHeartbeats 4000000 in
set_option maxRecDepth 100000 in
theorem wX7_join_53 {p : Program} {l : Launch} {e : Env} {s : State} {m : MethodId} {args : Array Value} {below : List Frame} {meth : Method} {c : Code} {G : GG} (X : Cx p s m args meth c cX7_join 3 ((some FieldType.int)) RX7 G) {Q : Int → Mm → Prop} {ke89 : Mm → Prop} {v0 : Int} {v1 : Int} (k0 : gK G v0 = (7, 0)) (r1 : inR v1) (hke89 : ∀ (M : Mm), ke89  M → Wt p l e rmX7_join s m args below meth c G (MQ below (PostI G Q) args s 0 0 (gA G)) 3 M [(0, rV (v0)), (1, iV (v1))] 89 []) : ∀ (n : Nat) (v2 : Int) (M : Mm), inR v2 → lp_I (BX7_join_53 ke89 Q v0 v1) n v2 M → Wt p l e rmX7_join s m args below meth c G (MQ below (PostI G Q) args s 0 0 (gA G)) 3 M [(0, rV (v0)), (1, iV (v1)), (2, iV (v2))] 53 [] := by
  have hG := X.2.2.2.2.2.2.2.2
  intro n
  induction n with
  | zero => intro v2 M r2 h; exact h.elim
  | succ n ih =>
    intro v2 M r2 h
    have h : BX7_join_53 ke89 Q v0 v1 (lp_I (BX7_join_53 ke89 Q v0 v1) n) v2 M := h
    unfold BX7_join_53 at h
    refine xt_il X dX7_join_53 rfl 2 rfl ?_
    refine xt_al X dX7_join_54 rfl 0 rfl ?_
    refine gfX7_7 X k0 dX7_join_55 ?_
    refine xt_ic X dX7_join_58 ?_
    refine xt_il X dX7_join_59 rfl 1 rfl ?_
    refine xt_add X dX7_join_60 ?_
    refine xt_ic X dX7_join_61 ?_
    refine xt_add X dX7_join_62 ?_
    obtain ⟨g_13, h⟩ := h
    refine xt_iald X (kd_X7_0 hG k0) g_13 (by decide) dX7_join_63 (fun r_14 => ?_)
    refine xt_cge (tgt := 89) X r2 r_14 dX7_join_64 (by decide) (fun hc => ?_) (fun hc => ?_)
    · have h := h.1 hc
      refine xt_perm (lv2 := [(0, rV (v0)), (1, iV (v1))]) [0, 1] rfl ?_
      exact hke89 M  h
    · have h := h.2 hc
      refine xt_al X dX7_join_67 rfl 0 rfl ?_
      refine xt_il X dX7_join_68 rfl 1 rfl ?_
      refine xt_al X dX7_join_69 rfl 0 rfl ?_
      refine gfX7_7 X k0 dX7_join_70 ?_
      refine xt_il X dX7_join_73 rfl 1 rfl ?_
      refine xt_ic X dX7_join_74 ?_
      refine xt_add X dX7_join_75 ?_
      refine xt_il X dX7_join_76 rfl 2 rfl ?_
      obtain ⟨g_15, h⟩ := h
      refine xt_cSI X [rV (v0 + 1), iV (v1 + 1), iV (v2)] [iV (v1), rV (v0)] (ctX7_signAt hG (kd_X7_0 hG k0) g_15 r2 h) gdX7_41 pdX7_signAt ⟨rfl, rfl⟩ ⟨Nat.le_of_ble_eq_true rfl, Nat.le_of_ble_eq_true rfl⟩ rfl (Nat.le_of_ble_eq_true rfl) dX7_join_77 (fun z_16 M_17 z_16r h => ?_)
      refine xt_cVV X [iV (v1), iV (z_16)] [] (ctX7_appends hG k0 r1 z_16r h) gdX7_122 pdX7_appends ⟨rfl, rfl⟩ ⟨Nat.le_of_ble_eq_true rfl, Nat.le_of_ble_eq_true rfl⟩ rfl (k_lt k0 (by decide)) (by rw [k0]; rfl) rfl (Nat.le_of_ble_eq_true rfl) dX7_join_80 (fun M_19 h => ?_)
      refine xt_inc (lv2 := [(2, iV (v2 + 1)), (0, rV (v0)), (1, iV (v1))]) X dX7_join_83 2 rfl (by decide) rfl ?_
      refine xt_goto (tgt := 53) X dX7_join_86 (by decide) ?_
      obtain ⟨g_20, h⟩ := h
      refine xt_perm (lv2 := [(0, rV (v0)), (1, iV (v1)), (2, iV (v2 + 1))]) [1, 2, 0] rfl ?_
      exact ih (v2 + 1) M_19 g_20 h
set_option maxHeartbeats 4000000 in
set_option maxRecDepth 100000 in
theorem ctX7_join {l : Launch} {G : GG} (hG : Gd G) {v0 : Int} {v1 : Int} {M : Mm} {Q : Int → Mm → Prop} (k0 : gK G v0 = (7, 0)) (r1 : inR v1) (h : PX7_join v0 v1 M Q) : Met l yX7_join (Cond.code yX7_join cX7_join 3 ((some FieldType.int)) :: tw) rmX7_join (Pre G M [rV (v0), iV (v1)]) (PostI G Q) 0 0 (gA G) := by
  refine met_of (own := RX7) (by decide) rfl hG (Nat.le_of_ble_eq_true rfl) (fun p e s m below meth c X => ?_)
  generalize hargs : ([rV (v0), iV (v1)] : List Value).toArray = args at X ⊢
  show Wt p l e rmX7_join s m args below meth c G (MQ below (PostI G Q) args s 0 0 (gA G)) 3 M [(0, rV (v0)), (1, iV (v1))] 0 []
  unfold PX7_join at h
  refine xt_al X dX7_join_0 rfl 0 rfl ?_
  refine xt_il X dX7_join_1 rfl 1 rfl ?_
  refine xt_cVI X [iV (v1)] [] (ctX7_isLine hG k0 r1 h) gdX7_102 pdX7_isLine ⟨rfl, rfl⟩ ⟨Nat.le_of_ble_eq_true rfl, Nat.le_of_ble_eq_true rfl⟩ rfl (k_lt k0 (by decide)) (by rw [k0]; rfl) rfl (Nat.le_of_ble_eq_true rfl) dX7_join_2 (fun z_1 M_2 z_1r h => ?_)
  refine xt_zeq (tgt := 18) X z_1r dX7_join_5 (by decide) (fun hc => ?_) (fun hc => ?_)
  · have h := h.1 hc
    refine xt_ic X dX7_join_18 ?_
    exact xt_iret X (i_rc (-1) rfl) h dX7_join_19
  · have h := h.2 hc
    refine xt_al X dX7_join_8 rfl 0 rfl ?_
    refine xt_il X dX7_join_9 rfl 1 rfl ?_
    refine xt_ic X dX7_join_10 ?_
    refine xt_add X dX7_join_11 ?_
    obtain ⟨g_3, h⟩ := h
    refine xt_cVI X [iV (v1 + 1)] [] (ctX7_isLine hG k0 g_3 h) gdX7_102 pdX7_isLine ⟨rfl, rfl⟩ ⟨Nat.le_of_ble_eq_true rfl, Nat.le_of_ble_eq_true rfl⟩ rfl (k_lt k0 (by decide)) (by rw [k0]; rfl) rfl (Nat.le_of_ble_eq_true rfl) dX7_join_12 (fun z_4 M_5 z_4r h => ?_)
    refine xt_zne (tgt := 20) X z_4r dX7_join_15 (by decide) (fun hc => ?_) (fun hc => ?_)
    · have h := h.2 hc
      refine xt_al X dX7_join_20 rfl 0 rfl ?_
      refine gfX7_7 X k0 dX7_join_21 ?_
      refine xt_ic X dX7_join_24 ?_
      refine xt_il X dX7_join_25 rfl 1 rfl ?_
      refine xt_add X dX7_join_26 ?_
      obtain ⟨g_6, h⟩ := h
      refine xt_iald X (kd_X7_0 hG k0) g_6 (by decide) dX7_join_27 (fun r_7 => ?_)
      refine xt_al X dX7_join_28 rfl 0 rfl ?_
      refine gfX7_7 X k0 dX7_join_29 ?_
      refine xt_ic X dX7_join_32 ?_
      refine xt_il X dX7_join_33 rfl 1 rfl ?_
      refine xt_add X dX7_join_34 ?_
      refine xt_ic X dX7_join_35 ?_
      refine xt_add X dX7_join_36 ?_
      obtain ⟨g_8, h⟩ := h
      refine xt_iald X (kd_X7_0 hG k0) g_8 (by decide) dX7_join_37 (fun r_9 => ?_)
      refine xt_add X dX7_join_38 ?_
      refine xt_bi X dX7_join_39 (by decide) ?_
      obtain ⟨g_10, h⟩ := h
      refine xt_cle (tgt := 47) X g_10 (i_rc 24 rfl) dX7_join_41 (by decide) (fun hc => ?_) (fun hc => ?_)
      · have h := h.1 hc
        refine xt_al X dX7_join_47 rfl 0 rfl ?_
        refine xt_cVV X [] [] (ctX7_begins hG k0 h) gdX7_112 pdX7_begins ⟨rfl, rfl⟩ ⟨Nat.le_of_ble_eq_true rfl, Nat.le_of_ble_eq_true rfl⟩ rfl (k_lt k0 (by decide)) (by rw [k0]; rfl) rfl (Nat.le_of_ble_eq_true rfl) dX7_join_48 (fun M_12 h => ?_)
        refine xt_ic X dX7_join_51 ?_
        refine xt_is (lv2 := [(2, iV (0)), (0, rV (v0)), (1, iV (v1))]) X dX7_join_52 rfl (by decide) rfl ?_
        obtain ⟨n_21, h⟩ := h
        refine xt_perm (lv2 := [(0, rV (v0)), (1, iV (v1)), (2, iV (0))]) [1, 2, 0] rfl ?_
        refine wX7_join_53 X k0 r1 (fun M_22 h => ?_) n_21 0 M_12 (i_rc 0 rfl) h
        refine xt_al X dX7_join_89 rfl 0 rfl ?_
        refine xt_il X dX7_join_90 rfl 1 rfl ?_
        refine xt_ic X dX7_join_91 ?_
        refine xt_add X dX7_join_92 ?_
        obtain ⟨g_23, h⟩ := h
        refine xt_cVV X [iV (v1 + 1)] [] (ctX7_shuts hG k0 g_23 h) gdX7_126 pdX7_shuts ⟨rfl, rfl⟩ ⟨Nat.le_of_ble_eq_true rfl, Nat.le_of_ble_eq_true rfl⟩ rfl (k_lt k0 (by decide)) (by rw [k0]; rfl) rfl (Nat.le_of_ble_eq_true rfl) dX7_join_93 (fun M_25 h => ?_)
        refine xt_al X dX7_join_96 rfl 0 rfl ?_
        refine xt_cVV X [] [] (ctX7_ends hG k0 h) gdX7_115 pdX7_ends ⟨rfl, rfl⟩ ⟨Nat.le_of_ble_eq_true rfl, Nat.le_of_ble_eq_true rfl⟩ rfl (k_lt k0 (by decide)) (by rw [k0]; rfl) rfl (Nat.le_of_ble_eq_true rfl) dX7_join_97 (fun M_27 h => ?_)
        refine xt_al X dX7_join_100 rfl 0 rfl ?_
        refine gfX7_7 X k0 dX7_join_101 ?_
        refine xt_ic X dX7_join_104 ?_
        refine xt_iald X (kd_X7_0 hG k0) ⟨by decide, by decide⟩ (by decide) dX7_join_105 (fun r_28 => ?_)
        exact xt_iret X r_28 h dX7_join_106
      · have h := h.2 hc
        refine xt_bi X dX7_join_44 (by decide) ?_
        exact xt_iret X (i_rc (-3) rfl) h dX7_join_46
    · have h := h.1 hc
      refine xt_ic X dX7_join_18 ?_
      exact xt_iret X (i_rc (-1) rfl) h dX7_join_19
abbrev rmX7_undo : Room := { frames := 0, cells := 0, slots := 0, locals := 0 }
def BX7_undo_38 (ke72 : Mm → Prop) (Q : Int → Mm → Prop) (v0 : Int) (rec : Int → Mm → Prop) (v1 : Int) (M : Mm) : Prop :=
  ((327 ≤ v1 → ke72 M) ∧
  (¬ 327 ≤ v1 → ((0 ≤ ((327 * (M v0 5)) + v1) ∧ ((327 * (M v0 5)) + v1) < 3270) ∧
  ((0 ≤ v1 ∧ v1 < 327) ∧
  (∀ M_13 : Mm, M_13 = um M (v0 + 1) v1 (M (v0 + 4) ((327 * (M v0 5)) + v1)) →
  (inR (v1 + 1) ∧
  rec (v1 + 1) M_13))))))
def PX7_undo (v0 : Int) (M : Mm) (Q : Int → Mm → Prop) : Prop :=
  (((M v0 4) = 0 → Q ((-2)) M) ∧
  (¬ (M v0 4) = 0 → ((0 ≤ (((M v0 5) + 10) - 1) ∧ (((M v0 5) + 10) - 1) < 2147483648) ∧
  (inR ((((M v0 5) + 10) - 1) % 10) ∧
  (∀ M_4 : Mm, M_4 = um M v0 5 ((((M v0 5) + 10) - 1) % 10) →
  (inR ((M_4 v0 4) - 1) ∧
  (∀ M_7 : Mm, M_7 = um M_4 v0 4 ((M_4 v0 4) - 1) →
  ∃ n_15 : Nat, lp_I (BX7_undo_38 (fun M_16 => (∀ M_17 : Mm, M_17 = um M_16 v0 3 0 →
  Q (M_17 v0 4) M_17)) Q v0) n_15 0 M_7)))))))
set_option maxHeartbeats 4000000 in
set_option maxRecDepth 100000 in
theorem wX7_undo_38 {p : Program} {l : Launch} {e : Env} {s : State} {m : MethodId} {args : Array Value} {below : List Frame} {meth : Method} {c : Code} {G : GG} (X : Cx p s m args meth c cX7_undo 2 ((some FieldType.int)) RX7 G) {Q : Int → Mm → Prop} {ke72 : Mm → Prop} {v0 : Int} (k0 : gK G v0 = (7, 0)) (hke72 : ∀ (M : Mm), ke72  M → Wt p l e rmX7_undo s m args below meth c G (MQ below (PostI G Q) args s 0 0 (gA G)) 2 M [(0, rV (v0))] 72 []) : ∀ (n : Nat) (v1 : Int) (M : Mm), inR v1 → lp_I (BX7_undo_38 ke72 Q v0) n v1 M → Wt p l e rmX7_undo s m args below meth c G (MQ below (PostI G Q) args s 0 0 (gA G)) 2 M [(0, rV (v0)), (1, iV (v1))] 38 [] := by
  have hG := X.2.2.2.2.2.2.2.2
  intro n
  induction n with
  | zero => intro v1 M r1 h; exact h.elim
  | succ n ih =>
    intro v1 M r1 h
    have h : BX7_undo_38 ke72 Q v0 (lp_I (BX7_undo_38 ke72 Q v0) n) v1 M := h
    unfold BX7_undo_38 at h
    refine xt_il X dX7_undo_38 rfl 1 rfl ?_
    refine xt_si X dX7_undo_39 (by decide) ?_
    refine xt_cge (tgt := 72) X r1 (i_rc 327 rfl) dX7_undo_42 (by decide) (fun hc => ?_) (fun hc => ?_)
    · have h := h.1 hc
      refine xt_perm (lv2 := [(0, rV (v0))]) [0] rfl ?_
      exact hke72 M  h
    · have h := h.2 hc
      refine xt_al X dX7_undo_45 rfl 0 rfl ?_
      refine gfX7_7 X k0 dX7_undo_46 ?_
      refine xt_il X dX7_undo_49 rfl 1 rfl ?_
      refine xt_al X dX7_undo_50 rfl 0 rfl ?_
      refine gfX7_19 X k0 dX7_undo_51 ?_
      refine xt_si X dX7_undo_54 (by decide) ?_
      refine xt_al X dX7_undo_57 rfl 0 rfl ?_
      refine gfX7_88 X k0 dX7_undo_58 (fun r_9 => ?_)
      refine xt_mul X dX7_undo_61 ?_
      refine xt_il X dX7_undo_62 rfl 1 rfl ?_
      refine xt_add X dX7_undo_63 ?_
      obtain ⟨g_10, h⟩ := h
      refine xt_iald X (kd_X7_6 hG k0) g_10 (by decide) dX7_undo_64 (fun r_11 => ?_)
      obtain ⟨g_12, h⟩ := h
      refine xt_iast X (kd_X7_0 hG k0) g_12 (by decide) r_11 dX7_undo_65 (fun M_13 hm => ?_)
      have h := h M_13 hm
      refine xt_inc (lv2 := [(1, iV (v1 + 1)), (0, rV (v0))]) X dX7_undo_66 1 rfl (by decide) rfl ?_
      refine xt_goto (tgt := 38) X dX7_undo_69 (by decide) ?_
      obtain ⟨g_14, h⟩ := h
      refine xt_perm (lv2 := [(0, rV (v0)), (1, iV (v1 + 1))]) [1, 0] rfl ?_
      exact ih (v1 + 1) M_13 g_14 h
set_option maxHeartbeats 4000000 in
set_option maxRecDepth 100000 in
theorem ctX7_undo {l : Launch} {G : GG} (hG : Gd G) {v0 : Int} {M : Mm} {Q : Int → Mm → Prop} (k0 : gK G v0 = (7, 0)) (h : PX7_undo v0 M Q) : Met l yX7_undo (Cond.code yX7_undo cX7_undo 2 ((some FieldType.int)) :: tw) rmX7_undo (Pre G M [rV (v0)]) (PostI G Q) 0 0 (gA G) := by
  refine met_of (own := RX7) (by decide) rfl hG (Nat.le_of_ble_eq_true rfl) (fun p e s m below meth c X => ?_)
  generalize hargs : ([rV (v0)] : List Value).toArray = args at X ⊢
  show Wt p l e rmX7_undo s m args below meth c G (MQ below (PostI G Q) args s 0 0 (gA G)) 2 M [(0, rV (v0))] 0 []
  unfold PX7_undo at h
  refine xt_al X dX7_undo_0 rfl 0 rfl ?_
  refine gfX7_92 X k0 dX7_undo_1 (fun r_1 => ?_)
  refine xt_zne (tgt := 10) X r_1 dX7_undo_4 (by decide) (fun hc => ?_) (fun hc => ?_)
  · have h := h.2 hc
    refine xt_al X dX7_undo_10 rfl 0 rfl ?_
    refine xt_al X dX7_undo_11 rfl 0 rfl ?_
    refine gfX7_88 X k0 dX7_undo_12 (fun r_2 => ?_)
    refine xt_bi X dX7_undo_15 (by decide) ?_
    refine xt_add X dX7_undo_17 ?_
    refine xt_ic X dX7_undo_18 ?_
    refine xt_sub X dX7_undo_19 ?_
    refine xt_bi X dX7_undo_20 (by decide) ?_
    obtain ⟨g_3, h⟩ := h
    refine xt_rem X g_3 (by decide) dX7_undo_22 ?_
    obtain ⟨g_5, h⟩ := h
    refine pfX7_88 X k0 g_5 dX7_undo_23 (fun M_4 hm => ?_)
    have h := h M_4 hm
    refine xt_al X dX7_undo_26 rfl 0 rfl ?_
    refine xt_dup X rfl dX7_undo_27 ?_
    refine gfX7_92 X k0 dX7_undo_28 (fun r_6 => ?_)
    refine xt_ic X dX7_undo_31 ?_
    refine xt_sub X dX7_undo_32 ?_
    obtain ⟨g_8, h⟩ := h
    refine pfX7_92 X k0 g_8 dX7_undo_33 (fun M_7 hm => ?_)
    have h := h M_7 hm
    refine xt_ic X dX7_undo_36 ?_
    refine xt_is (lv2 := [(1, iV (0)), (0, rV (v0))]) X dX7_undo_37 rfl (by decide) rfl ?_
    obtain ⟨n_15, h⟩ := h
    refine xt_perm (lv2 := [(0, rV (v0)), (1, iV (0))]) [1, 0] rfl ?_
    refine wX7_undo_38 X k0 (fun M_16 h => ?_) n_15 0 M_7 (i_rc 0 rfl) h
    refine xt_al X dX7_undo_72 rfl 0 rfl ?_
    refine xt_ic X dX7_undo_73 ?_
    refine pfX7_95 X k0 (i_rc 0 rfl) dX7_undo_74 (fun M_17 hm => ?_)
    have h := h M_17 hm
    refine xt_al X dX7_undo_77 rfl 0 rfl ?_
    refine gfX7_92 X k0 dX7_undo_78 (fun r_18 => ?_)
    exact xt_iret X r_18 h dX7_undo_81
  · have h := h.1 hc
    refine xt_bi X dX7_undo_7 (by decide) ?_
    exact xt_iret X (i_rc (-2) rfl) h dX7_undo_9
abbrev rmX7_type : Room := { frames := 1, cells := 0, slots := 0, locals := 22 }
def PX7_type (v0 : Int) (v1 : Int) (M : Mm) (Q : Int → Mm → Prop) : Prop :=
  (PX7_in v1 0 255 M (fun z_1 M_2 =>
  ((z_1 = 0 → Q ((-1)) M_2) ∧
  (¬ z_1 = 0 → (((M_2 v0 7) = 150 → Q ((-3)) M_2) ∧
  (¬ (M_2 v0 7) = 150 → ((0 ≤ (M_2 v0 7) ∧ (M_2 v0 7) < 150) ∧
  (∀ M_6 : Mm, M_6 = um M_2 (v0 + 5) (M_2 v0 7) v1 →
  (inR ((M_6 v0 7) + 1) ∧
  (∀ M_8 : Mm, M_8 = um M_6 v0 7 ((M_6 v0 7) + 1) →
  Q (M_8 v0 7) M_8))))))))))
set_option maxHeartbeats 4000000 in
set_option maxRecDepth 100000 in
theorem ctX7_type {l : Launch} {G : GG} (hG : Gd G) {v0 : Int} {v1 : Int} {M : Mm} {Q : Int → Mm → Prop} (k0 : gK G v0 = (7, 0)) (r1 : inR v1) (h : PX7_type v0 v1 M Q) : Met l yX7_type (Cond.code yX7_type cX7_type 2 ((some FieldType.int)) :: tw) rmX7_type (Pre G M [rV (v0), iV (v1)]) (PostI G Q) 0 0 (gA G) := by
  refine met_of (own := RX7) (by decide) rfl hG (Nat.le_of_ble_eq_true rfl) (fun p e s m below meth c X => ?_)
  generalize hargs : ([rV (v0), iV (v1)] : List Value).toArray = args at X ⊢
  show Wt p l e rmX7_type s m args below meth c G (MQ below (PostI G Q) args s 0 0 (gA G)) 2 M [(0, rV (v0)), (1, iV (v1))] 0 []
  unfold PX7_type at h
  refine xt_il X dX7_type_0 rfl 1 rfl ?_
  refine xt_ic X dX7_type_1 ?_
  refine xt_si X dX7_type_2 (by decide) ?_
  refine xt_cSI X [iV (v1), iV (0), iV (255)] [] (ctX7_in hG r1 (i_rc 0 rfl) (i_rc 255 rfl) h) gdX7_80 pdX7_in ⟨rfl, rfl⟩ ⟨Nat.le_of_ble_eq_true rfl, Nat.le_of_ble_eq_true rfl⟩ rfl (Nat.le_of_ble_eq_true rfl) dX7_type_5 (fun z_1 M_2 z_1r h => ?_)
  refine xt_zne (tgt := 13) X z_1r dX7_type_8 (by decide) (fun hc => ?_) (fun hc => ?_)
  · have h := h.2 hc
    refine xt_al X dX7_type_13 rfl 0 rfl ?_
    refine gfX7_129 X k0 dX7_type_14 (fun r_3 => ?_)
    refine xt_si X dX7_type_17 (by decide) ?_
    refine xt_cne (tgt := 26) X r_3 (i_rc 150 rfl) dX7_type_20 (by decide) (fun hc => ?_) (fun hc => ?_)
    · have h := h.2 hc
      refine xt_al X dX7_type_26 rfl 0 rfl ?_
      refine gfX7_22 X k0 dX7_type_27 ?_
      refine xt_al X dX7_type_30 rfl 0 rfl ?_
      refine gfX7_129 X k0 dX7_type_31 (fun r_4 => ?_)
      refine xt_il X dX7_type_34 rfl 1 rfl ?_
      obtain ⟨g_5, h⟩ := h
      refine xt_iast X (kd_X7_8 hG k0) g_5 (by decide) r1 dX7_type_35 (fun M_6 hm => ?_)
      have h := h M_6 hm
      refine xt_al X dX7_type_36 rfl 0 rfl ?_
      refine xt_dup X rfl dX7_type_37 ?_
      refine gfX7_129 X k0 dX7_type_38 (fun r_7 => ?_)
      refine xt_ic X dX7_type_41 ?_
      refine xt_add X dX7_type_42 ?_
      obtain ⟨g_9, h⟩ := h
      refine pfX7_129 X k0 g_9 dX7_type_43 (fun M_8 hm => ?_)
      have h := h M_8 hm
      refine xt_al X dX7_type_46 rfl 0 rfl ?_
      refine gfX7_129 X k0 dX7_type_47 (fun r_10 => ?_)
      exact xt_iret X r_10 h dX7_type_50
    · have h := h.1 hc
      refine xt_bi X dX7_type_23 (by decide) ?_
      exact xt_iret X (i_rc (-3) rfl) h dX7_type_25
  · have h := h.1 hc
    refine xt_ic X dX7_type_11 ?_
    exact xt_iret X (i_rc (-1) rfl) h dX7_type_12
abbrev rmX7_clear : Room := { frames := 0, cells := 0, slots := 0, locals := 0 }
def PX7_clear (v0 : Int) (M : Mm) (Q : Int → Mm → Prop) : Prop :=
  (∀ M_2 : Mm, M_2 = um M v0 7 0 →
  Q (M v0 7) M_2)
set_option maxHeartbeats 4000000 in
set_option maxRecDepth 100000 in
theorem ctX7_clear {l : Launch} {G : GG} (hG : Gd G) {v0 : Int} {M : Mm} {Q : Int → Mm → Prop} (k0 : gK G v0 = (7, 0)) (h : PX7_clear v0 M Q) : Met l yX7_clear (Cond.code yX7_clear cX7_clear 2 ((some FieldType.int)) :: tw) rmX7_clear (Pre G M [rV (v0)]) (PostI G Q) 0 0 (gA G) := by
  refine met_of (own := RX7) (by decide) rfl hG (Nat.le_of_ble_eq_true rfl) (fun p e s m below meth c X => ?_)
  generalize hargs : ([rV (v0)] : List Value).toArray = args at X ⊢
  show Wt p l e rmX7_clear s m args below meth c G (MQ below (PostI G Q) args s 0 0 (gA G)) 2 M [(0, rV (v0))] 0 []
  unfold PX7_clear at h
  refine xt_al X dX7_clear_0 rfl 0 rfl ?_
  refine gfX7_129 X k0 dX7_clear_1 (fun r_1 => ?_)
  refine xt_is (lv2 := [(1, iV (M v0 7)), (0, rV (v0))]) X dX7_clear_4 rfl (by decide) rfl ?_
  refine xt_al X dX7_clear_5 rfl 1 rfl ?_
  refine xt_ic X dX7_clear_6 ?_
  refine pfX7_129 X k0 (i_rc 0 rfl) dX7_clear_7 (fun M_2 hm => ?_)
  have h := h M_2 hm
  refine xt_il X dX7_clear_10 rfl 0 rfl ?_
  exact xt_iret X r_1 h dX7_clear_11
abbrev rmX7_blanks : Room := { frames := 0, cells := 0, slots := 0, locals := 0 }
def BX7_blanks_0  (Q : Mm → Prop) (v0 : Int) (rec : Mm → Prop)  (M : Mm) : Prop :=
  (((M v0 7) ≤ (M v0 9) → Q M) ∧
  (¬ (M v0 7) ≤ (M v0 9) → ((0 ≤ (M v0 9) ∧ (M v0 9) < 150) ∧
  (((M (v0 + 5) (M v0 9)) = 32 → (inR ((M v0 9) + 1) ∧
  (∀ M_7 : Mm, M_7 = um M v0 9 ((M v0 9) + 1) →
  rec M_7))) ∧
  (¬ (M (v0 + 5) (M v0 9)) = 32 → Q M)))))
def PX7_blanks (v0 : Int) (M : Mm) (Q : Mm → Prop) : Prop :=
  ∃ n_9 : Nat, lp_o (BX7_blanks_0  Q v0) n_9 M
set_option maxHeartbeats 4000000 in
set_option maxRecDepth 100000 in
theorem wX7_blanks_0 {p : Program} {l : Launch} {e : Env} {s : State} {m : MethodId} {args : Array Value} {below : List Frame} {meth : Method} {c : Code} {G : GG} (X : Cx p s m args meth c cX7_blanks 1 (none) RX7 G) {Q : Mm → Prop}  {v0 : Int} (k0 : gK G v0 = (7, 0))  : ∀ (n : Nat)  (M : Mm), lp_o (BX7_blanks_0  Q v0) n  M → Wt p l e rmX7_blanks s m args below meth c G (MQ below (PostV G Q) args s 0 0 (gA G)) 1 M [(0, rV (v0))] 0 [] := by
  have hG := X.2.2.2.2.2.2.2.2
  intro n
  induction n with
  | zero => intro  M  h; exact h.elim
  | succ n ih =>
    intro  M  h
    have h : BX7_blanks_0  Q v0 (lp_o (BX7_blanks_0  Q v0) n)  M := h
    unfold BX7_blanks_0 at h
    refine xt_al X dX7_blanks_0 rfl 0 rfl ?_
    refine gfX7_132 X k0 dX7_blanks_1 (fun r_1 => ?_)
    refine xt_al X dX7_blanks_4 rfl 0 rfl ?_
    refine gfX7_129 X k0 dX7_blanks_5 (fun r_2 => ?_)
    refine xt_cge (tgt := 38) X r_1 r_2 dX7_blanks_8 (by decide) (fun hc => ?_) (fun hc => ?_)
    · have h := h.1 hc
      exact xt_vret X h dX7_blanks_38
    · have h := h.2 hc
      refine xt_al X dX7_blanks_11 rfl 0 rfl ?_
      refine gfX7_22 X k0 dX7_blanks_12 ?_
      refine xt_al X dX7_blanks_15 rfl 0 rfl ?_
      refine gfX7_132 X k0 dX7_blanks_16 (fun r_3 => ?_)
      obtain ⟨g_4, h⟩ := h
      refine xt_iald X (kd_X7_8 hG k0) g_4 (by decide) dX7_blanks_19 (fun r_5 => ?_)
      refine xt_bi X dX7_blanks_20 (by decide) ?_
      refine xt_cne (tgt := 38) X r_5 (i_rc 32 rfl) dX7_blanks_22 (by decide) (fun hc => ?_) (fun hc => ?_)
      · have h := h.2 hc
        exact xt_vret X h dX7_blanks_38
      · have h := h.1 hc
        refine xt_al X dX7_blanks_25 rfl 0 rfl ?_
        refine xt_dup X rfl dX7_blanks_26 ?_
        refine gfX7_132 X k0 dX7_blanks_27 (fun r_6 => ?_)
        refine xt_ic X dX7_blanks_30 ?_
        refine xt_add X dX7_blanks_31 ?_
        obtain ⟨g_8, h⟩ := h
        refine pfX7_132 X k0 g_8 dX7_blanks_32 (fun M_7 hm => ?_)
        have h := h M_7 hm
        refine xt_goto (tgt := 0) X dX7_blanks_35 (by decide) ?_
        exact ih M_7  h
set_option maxHeartbeats 4000000 in
set_option maxRecDepth 100000 in
theorem ctX7_blanks {l : Launch} {G : GG} (hG : Gd G) {v0 : Int} {M : Mm} {Q : Mm → Prop} (k0 : gK G v0 = (7, 0)) (h : PX7_blanks v0 M Q) : Met l yX7_blanks (Cond.code yX7_blanks cX7_blanks 1 (none) :: tw) rmX7_blanks (Pre G M [rV (v0)]) (PostV G Q) 0 0 (gA G) := by
  refine met_of (own := RX7) (by decide) rfl hG (Nat.le_of_ble_eq_true rfl) (fun p e s m below meth c X => ?_)
  generalize hargs : ([rV (v0)] : List Value).toArray = args at X ⊢
  show Wt p l e rmX7_blanks s m args below meth c G (MQ below (PostV G Q) args s 0 0 (gA G)) 1 M [(0, rV (v0))] 0 []
  unfold PX7_blanks at h
  obtain ⟨n_9, h⟩ := h
  refine wX7_blanks_0 X k0  n_9 M  h
abbrev rmX7_fails : Room := { frames := 0, cells := 0, slots := 0, locals := 0 }
def PX7_fails (v0 : Int) (v1 : Int) (M : Mm) (Q : Int → Mm → Prop) : Prop :=
  (∀ M_1 : Mm, M_1 = um M v0 12 v1 →
  Q 0 M_1)
set_option maxHeartbeats 4000000 in
set_option maxRecDepth 100000 in
theorem ctX7_fails {l : Launch} {G : GG} (hG : Gd G) {v0 : Int} {v1 : Int} {M : Mm} {Q : Int → Mm → Prop} (k0 : gK G v0 = (7, 0)) (r1 : inR v1) (h : PX7_fails v0 v1 M Q) : Met l yX7_fails (Cond.code yX7_fails cX7_fails 2 ((some FieldType.boolean)) :: tw) rmX7_fails (Pre G M [rV (v0), iV (v1)]) (PostI G Q) 0 0 (gA G) := by
  refine met_of (own := RX7) (by decide) rfl hG (Nat.le_of_ble_eq_true rfl) (fun p e s m below meth c X => ?_)
  generalize hargs : ([rV (v0), iV (v1)] : List Value).toArray = args at X ⊢
  show Wt p l e rmX7_fails s m args below meth c G (MQ below (PostI G Q) args s 0 0 (gA G)) 2 M [(0, rV (v0)), (1, iV (v1))] 0 []
  unfold PX7_fails at h
  refine xt_al X dX7_fails_0 rfl 0 rfl ?_
  refine xt_il X dX7_fails_1 rfl 1 rfl ?_
  refine pfX7_135 X k0 r1 dX7_fails_2 (fun M_1 hm => ?_)
  have h := h M_1 hm
  refine xt_ic X dX7_fails_5 ?_
  exact xt_zret X (Or.inl rfl) h dX7_fails_6
abbrev rmX7_word : Room := { frames := 2, cells := 0, slots := 0, locals := 42 }
def BX7_word_12 (ke51 : Mm → Prop) (Q : Int → Mm → Prop) (v0 : Int) (rec : Mm → Prop)  (M : Mm) : Prop :=
  (((M v0 7) ≤ (M v0 9) → ke51 M) ∧
  (¬ (M v0 7) ≤ (M v0 9) → ((0 ≤ (M v0 9) ∧ (M v0 9) < 150) ∧
  (PX7_isSign (M (v0 + 5) (M v0 9)) M (fun z_10 M_11 =>
  ((z_10 = 0 → ke51 M_11) ∧
  (¬ z_10 = 0 → (inR ((M_11 v0 9) + 1) ∧
  (∀ M_13 : Mm, M_13 = um M_11 v0 9 ((M_11 v0 9) + 1) →
  rec M_13)))))))))
def JX7_word_51  (Q : Int → Mm → Prop) (v0 : Int) (M : Mm) : Prop :=
  (inR ((M v0 9) - (M v0 10)) ∧
  (∀ M_19 : Mm, M_19 = um M v0 11 ((M v0 9) - (M v0 10)) →
  ((0 < (M_19 v0 11) → Q 1 M_19) ∧
  (¬ 0 < (M_19 v0 11) → (PX7_fails v0 (M_19 v0 10) M_19 (fun z_23 M_24 =>
  ((z_23 = 0 → Q 0 M_24) ∧
  (¬ z_23 = 0 → Q 1 M_24))))))))
def PX7_word (v0 : Int) (M : Mm) (Q : Int → Mm → Prop) : Prop :=
  (PX7_blanks v0 M (fun M_2 =>
  (∀ M_4 : Mm, M_4 = um M_2 v0 10 (M_2 v0 9) →
  ∃ n_15 : Nat, lp_o (BX7_word_12 (fun M_16 => JX7_word_51  Q v0 M_16) Q v0) n_15 M_4)))
set_option maxHeartbeats 4000000 in
set_option maxRecDepth 100000 in
theorem wX7_word_12 {p : Program} {l : Launch} {e : Env} {s : State} {m : MethodId} {args : Array Value} {below : List Frame} {meth : Method} {c : Code} {G : GG} (X : Cx p s m args meth c cX7_word 1 ((some FieldType.boolean)) RX7 G) {Q : Int → Mm → Prop} {ke51 : Mm → Prop} {v0 : Int} (k0 : gK G v0 = (7, 0)) (hke51 : ∀ (M : Mm), ke51  M → Wt p l e rmX7_word s m args below meth c G (MQ below (PostI G Q) args s 0 0 (gA G)) 1 M [(0, rV (v0))] 51 []) : ∀ (n : Nat)  (M : Mm), lp_o (BX7_word_12 ke51 Q v0) n  M → Wt p l e rmX7_word s m args below meth c G (MQ below (PostI G Q) args s 0 0 (gA G)) 1 M [(0, rV (v0))] 12 [] := by
  have hG := X.2.2.2.2.2.2.2.2
  intro n
  induction n with
  | zero => intro  M  h; exact h.elim
  | succ n ih =>
    intro  M  h
    have h : BX7_word_12 ke51 Q v0 (lp_o (BX7_word_12 ke51 Q v0) n)  M := h
    unfold BX7_word_12 at h
    refine xt_al X dX7_word_12 rfl 0 rfl ?_
    refine gfX7_132 X k0 dX7_word_13 (fun r_5 => ?_)
    refine xt_al X dX7_word_16 rfl 0 rfl ?_
    refine gfX7_129 X k0 dX7_word_17 (fun r_6 => ?_)
    refine xt_cge (tgt := 51) X r_5 r_6 dX7_word_20 (by decide) (fun hc => ?_) (fun hc => ?_)
    · have h := h.1 hc
      exact hke51 M  h
    · have h := h.2 hc
      refine xt_al X dX7_word_23 rfl 0 rfl ?_
      refine gfX7_22 X k0 dX7_word_24 ?_
      refine xt_al X dX7_word_27 rfl 0 rfl ?_
      refine gfX7_132 X k0 dX7_word_28 (fun r_7 => ?_)
      obtain ⟨g_8, h⟩ := h
      refine xt_iald X (kd_X7_8 hG k0) g_8 (by decide) dX7_word_31 (fun r_9 => ?_)
      refine xt_cSI X [iV (M (v0 + 5) (M v0 9))] [] (ctX7_isSign hG r_9 h) gdX7_109 pdX7_isSign ⟨rfl, rfl⟩ ⟨Nat.le_of_ble_eq_true rfl, Nat.le_of_ble_eq_true rfl⟩ rfl (Nat.le_of_ble_eq_true rfl) dX7_word_32 (fun z_10 M_11 z_10r h => ?_)
      refine xt_zeq (tgt := 51) X z_10r dX7_word_35 (by decide) (fun hc => ?_) (fun hc => ?_)
      · have h := h.1 hc
        exact hke51 M_11  h
      · have h := h.2 hc
        refine xt_al X dX7_word_38 rfl 0 rfl ?_
        refine xt_dup X rfl dX7_word_39 ?_
        refine gfX7_132 X k0 dX7_word_40 (fun r_12 => ?_)
        refine xt_ic X dX7_word_43 ?_
        refine xt_add X dX7_word_44 ?_
        obtain ⟨g_14, h⟩ := h
        refine pfX7_132 X k0 g_14 dX7_word_45 (fun M_13 hm => ?_)
        have h := h M_13 hm
        refine xt_goto (tgt := 12) X dX7_word_48 (by decide) ?_
        exact ih M_13  h
set_option maxHeartbeats 4000000 in
set_option maxRecDepth 100000 in
theorem jX7_word_51 {p : Program} {l : Launch} {e : Env} {s : State} {m : MethodId} {args : Array Value} {below : List Frame} {meth : Method} {c : Code} {G : GG} (X : Cx p s m args meth c cX7_word 1 ((some FieldType.boolean)) RX7 G) {Q : Int → Mm → Prop}  {v0 : Int}  (k0 : gK G v0 = (7, 0)) {M : Mm} (h : JX7_word_51  Q v0 M) : Wt p l e rmX7_word s m args below meth c G (MQ below (PostI G Q) args s 0 0 (gA G)) 1 M [(0, rV (v0))] 51 [] := by
  have hG := X.2.2.2.2.2.2.2.2
  unfold JX7_word_51 at h
  refine xt_al X dX7_word_51 rfl 0 rfl ?_
  refine xt_al X dX7_word_52 rfl 0 rfl ?_
  refine gfX7_132 X k0 dX7_word_53 (fun r_17 => ?_)
  refine xt_al X dX7_word_56 rfl 0 rfl ?_
  refine gfX7_141 X k0 dX7_word_57 (fun r_18 => ?_)
  refine xt_sub X dX7_word_60 ?_
  obtain ⟨g_20, h⟩ := h
  refine pfX7_144 X k0 g_20 dX7_word_61 (fun M_19 hm => ?_)
  have h := h M_19 hm
  refine xt_al X dX7_word_64 rfl 0 rfl ?_
  refine gfX7_144 X k0 dX7_word_65 (fun r_21 => ?_)
  refine xt_zgt (tgt := 82) X r_21 dX7_word_68 (by decide) (fun hc => ?_) (fun hc => ?_)
  · have h := h.1 hc
    refine xt_ic X dX7_word_82 ?_
    refine xt_goto (tgt := 87) X dX7_word_83 (by decide) ?_
    exact xt_zret X (Or.inr rfl) h dX7_word_87
  · have h := h.2 hc
    refine xt_al X dX7_word_71 rfl 0 rfl ?_
    refine xt_al X dX7_word_72 rfl 0 rfl ?_
    refine gfX7_141 X k0 dX7_word_73 (fun r_22 => ?_)
    refine xt_cVI X [iV (M_19 v0 10)] [] (ctX7_fails hG k0 r_22 h) gdX7_147 pdX7_fails ⟨rfl, rfl⟩ ⟨Nat.le_of_ble_eq_true rfl, Nat.le_of_ble_eq_true rfl⟩ rfl (k_lt k0 (by decide)) (by rw [k0]; rfl) rfl (Nat.le_of_ble_eq_true rfl) dX7_word_76 (fun z_23 M_24 z_23r h => ?_)
    refine xt_zeq (tgt := 86) X z_23r dX7_word_79 (by decide) (fun hc => ?_) (fun hc => ?_)
    · have h := h.1 hc
      refine xt_ic X dX7_word_86 ?_
      exact xt_zret X (Or.inl rfl) h dX7_word_87
    · have h := h.2 hc
      refine xt_ic X dX7_word_82 ?_
      refine xt_goto (tgt := 87) X dX7_word_83 (by decide) ?_
      exact xt_zret X (Or.inr rfl) h dX7_word_87
set_option maxHeartbeats 4000000 in
set_option maxRecDepth 100000 in
theorem ctX7_word {l : Launch} {G : GG} (hG : Gd G) {v0 : Int} {M : Mm} {Q : Int → Mm → Prop} (k0 : gK G v0 = (7, 0)) (h : PX7_word v0 M Q) : Met l yX7_word (Cond.code yX7_word cX7_word 1 ((some FieldType.boolean)) :: tw) rmX7_word (Pre G M [rV (v0)]) (PostI G Q) 0 0 (gA G) := by
  refine met_of (own := RX7) (by decide) rfl hG (Nat.le_of_ble_eq_true rfl) (fun p e s m below meth c X => ?_)
  generalize hargs : ([rV (v0)] : List Value).toArray = args at X ⊢
  show Wt p l e rmX7_word s m args below meth c G (MQ below (PostI G Q) args s 0 0 (gA G)) 1 M [(0, rV (v0))] 0 []
  unfold PX7_word at h
  refine xt_al X dX7_word_0 rfl 0 rfl ?_
  refine xt_cVV X [] [] (ctX7_blanks hG k0 h) gdX7_138 pdX7_blanks ⟨rfl, rfl⟩ ⟨Nat.le_of_ble_eq_true rfl, Nat.le_of_ble_eq_true rfl⟩ rfl (k_lt k0 (by decide)) (by rw [k0]; rfl) rfl (Nat.le_of_ble_eq_true rfl) dX7_word_1 (fun M_2 h => ?_)
  refine xt_al X dX7_word_4 rfl 0 rfl ?_
  refine xt_al X dX7_word_5 rfl 0 rfl ?_
  refine gfX7_132 X k0 dX7_word_6 (fun r_3 => ?_)
  refine pfX7_141 X k0 r_3 dX7_word_9 (fun M_4 hm => ?_)
  have h := h M_4 hm
  obtain ⟨n_15, h⟩ := h
  refine wX7_word_12 X k0 (fun M_16 h => ?_) n_15 M_4  h
  exact jX7_word_51 X  k0 h
abbrev rmX7_letters : Room := { frames := 1, cells := 0, slots := 0, locals := 22 }
def BX7_letters_22 (ke74 : Int → Int → Mm → Prop) (Q : Int → Mm → Prop) (v0 : Int) (rec : Int → Int → Int → Mm → Prop) (v1 : Int) (v2 : Int) (v3 : Int) (M : Mm) : Prop :=
  (inR ((M v0 10) + (M v0 11)) ∧
  ((((M v0 10) + (M v0 11)) ≤ v3 → ke74 v1 v2 M) ∧
  (¬ ((M v0 10) + (M v0 11)) ≤ v3 → ((v2 = 0 → ke74 v1 v2 M) ∧
  (¬ v2 = 0 → ((0 ≤ v3 ∧ v3 < 150) ∧
  (PX7_in (M (v0 + 5) v3) 97 122 M (fun z_8 M_9 =>
  ((0 ≤ v3 ∧ v3 < 150) ∧
  (inR (((27 * v1) + (M_9 (v0 + 5) v3)) - 96) ∧
  (inR (v3 + 1) ∧
  rec (((27 * v1) + (M_9 (v0 + 5) v3)) - 96) z_8 (v3 + 1) M_9)))))))))))
def JX7_letters_74  (Q : Int → Mm → Prop) (v1 : Int) (v2 : Int) (M : Mm) : Prop :=
  ((v2 = 0 → Q 0 M) ∧
  (¬ v2 = 0 → Q v1 M))
def PX7_letters (v0 : Int) (M : Mm) (Q : Int → Mm → Prop) : Prop :=
  ((6 < (M v0 11) → ∃ n_14 : Nat, lp_III (BX7_letters_22 (fun w1_15 w2_15 M_15 => JX7_letters_74  Q w1_15 w2_15 M_15) Q v0) n_14 0 0 (M v0 10) M) ∧
  (¬ 6 < (M v0 11) → ∃ n_17 : Nat, lp_III (BX7_letters_22 (fun w1_18 w2_18 M_18 => JX7_letters_74  Q w1_18 w2_18 M_18) Q v0) n_17 0 1 (M v0 10) M))
set_option maxHeartbeats 4000000 in
set_option maxRecDepth 100000 in
theorem wX7_letters_22 {p : Program} {l : Launch} {e : Env} {s : State} {m : MethodId} {args : Array Value} {below : List Frame} {meth : Method} {c : Code} {G : GG} (X : Cx p s m args meth c cX7_letters 4 ((some FieldType.int)) RX7 G) {Q : Int → Mm → Prop} {ke74 : Int → Int → Mm → Prop} {v0 : Int} (k0 : gK G v0 = (7, 0)) (hke74 : ∀ (v1 : Int) (v2 : Int) (M : Mm), inR v1 → inR v2 → ke74 v1 v2 M → Wt p l e rmX7_letters s m args below meth c G (MQ below (PostI G Q) args s 0 0 (gA G)) 4 M [(1, iV (v1)), (2, iV (v2))] 74 []) : ∀ (n : Nat) (v1 : Int) (v2 : Int) (v3 : Int) (M : Mm), inR v1 → inR v2 → inR v3 → lp_III (BX7_letters_22 ke74 Q v0) n v1 v2 v3 M → Wt p l e rmX7_letters s m args below meth c G (MQ below (PostI G Q) args s 0 0 (gA G)) 4 M [(0, rV (v0)), (1, iV (v1)), (2, iV (v2)), (3, iV (v3))] 22 [] := by
  have hG := X.2.2.2.2.2.2.2.2
  intro n
  induction n with
  | zero => intro v1 v2 v3 M r1 r2 r3 h; exact h.elim
  | succ n ih =>
    intro v1 v2 v3 M r1 r2 r3 h
    have h : BX7_letters_22 ke74 Q v0 (lp_III (BX7_letters_22 ke74 Q v0) n) v1 v2 v3 M := h
    unfold BX7_letters_22 at h
    refine xt_il X dX7_letters_22 rfl 3 rfl ?_
    refine xt_al X dX7_letters_23 rfl 0 rfl ?_
    refine gfX7_141 X k0 dX7_letters_24 (fun r_3 => ?_)
    refine xt_al X dX7_letters_27 rfl 0 rfl ?_
    refine gfX7_144 X k0 dX7_letters_28 (fun r_4 => ?_)
    refine xt_add X dX7_letters_31 ?_
    obtain ⟨g_5, h⟩ := h
    refine xt_cge (tgt := 74) X r3 g_5 dX7_letters_32 (by decide) (fun hc => ?_) (fun hc => ?_)
    · have h := h.1 hc
      refine xt_perm (lv2 := [(1, iV (v1)), (2, iV (v2))]) [1, 2] rfl ?_
      exact hke74 v1 v2 M r1 r2 h
    · have h := h.2 hc
      refine xt_il X dX7_letters_35 rfl 2 rfl ?_
      refine xt_zeq (tgt := 74) X r2 dX7_letters_36 (by decide) (fun hc => ?_) (fun hc => ?_)
      · have h := h.1 hc
        refine xt_perm (lv2 := [(1, iV (v1)), (2, iV (v2))]) [1, 2] rfl ?_
        exact hke74 v1 v2 M r1 r2 h
      · have h := h.2 hc
        refine xt_al X dX7_letters_39 rfl 0 rfl ?_
        refine gfX7_22 X k0 dX7_letters_40 ?_
        refine xt_il X dX7_letters_43 rfl 3 rfl ?_
        obtain ⟨g_6, h⟩ := h
        refine xt_iald X (kd_X7_8 hG k0) g_6 (by decide) dX7_letters_44 (fun r_7 => ?_)
        refine xt_bi X dX7_letters_45 (by decide) ?_
        refine xt_bi X dX7_letters_47 (by decide) ?_
        refine xt_cSI X [iV (M (v0 + 5) v3), iV (97), iV (122)] [] (ctX7_in hG r_7 (i_rc 97 rfl) (i_rc 122 rfl) h) gdX7_80 pdX7_in ⟨rfl, rfl⟩ ⟨Nat.le_of_ble_eq_true rfl, Nat.le_of_ble_eq_true rfl⟩ rfl (Nat.le_of_ble_eq_true rfl) dX7_letters_49 (fun z_8 M_9 z_8r h => ?_)
        refine xt_is (lv2 := [(2, iV (z_8)), (0, rV (v0)), (1, iV (v1)), (3, iV (v3))]) X dX7_letters_52 rfl (by decide) rfl ?_
        refine xt_bi X dX7_letters_53 (by decide) ?_
        refine xt_il X dX7_letters_55 rfl 2 rfl ?_
        refine xt_mul X dX7_letters_56 ?_
        refine xt_al X dX7_letters_57 rfl 1 rfl ?_
        refine gfX7_22 X k0 dX7_letters_58 ?_
        refine xt_il X dX7_letters_61 rfl 3 rfl ?_
        obtain ⟨g_10, h⟩ := h
        refine xt_iald X (kd_X7_8 hG k0) g_10 (by decide) dX7_letters_62 (fun r_11 => ?_)
        refine xt_add X dX7_letters_63 ?_
        refine xt_bi X dX7_letters_64 (by decide) ?_
        refine xt_sub X dX7_letters_66 ?_
        refine xt_is (lv2 := [(1, iV (((27 * v1) + (M_9 (v0 + 5) v3)) - 96)), (2, iV (z_8)), (0, rV (v0)), (3, iV (v3))]) X dX7_letters_67 rfl (by decide) rfl ?_
        refine xt_inc (lv2 := [(3, iV (v3 + 1)), (1, iV (((27 * v1) + (M_9 (v0 + 5) v3)) - 96)), (2, iV (z_8)), (0, rV (v0))]) X dX7_letters_68 3 rfl (by decide) rfl ?_
        refine xt_goto (tgt := 22) X dX7_letters_71 (by decide) ?_
        obtain ⟨g_12, h⟩ := h
        obtain ⟨g_13, h⟩ := h
        refine xt_perm (lv2 := [(0, rV (v0)), (1, iV (((27 * v1) + (M_9 (v0 + 5) v3)) - 96)), (2, iV (z_8)), (3, iV (v3 + 1))]) [3, 1, 2, 0] rfl ?_
        exact ih (((27 * v1) + (M_9 (v0 + 5) v3)) - 96) z_8 (v3 + 1) M_9 g_12 z_8r g_13 h
set_option maxHeartbeats 4000000 in
set_option maxRecDepth 100000 in
theorem jX7_letters_74 {p : Program} {l : Launch} {e : Env} {s : State} {m : MethodId} {args : Array Value} {below : List Frame} {meth : Method} {c : Code} {G : GG} (X : Cx p s m args meth c cX7_letters 4 ((some FieldType.int)) RX7 G) {Q : Int → Mm → Prop}  {v1 : Int} {v2 : Int}  (r1 : inR v1) (r2 : inR v2) {M : Mm} (h : JX7_letters_74  Q v1 v2 M) : Wt p l e rmX7_letters s m args below meth c G (MQ below (PostI G Q) args s 0 0 (gA G)) 4 M [(1, iV (v1)), (2, iV (v2))] 74 [] := by
  have hG := X.2.2.2.2.2.2.2.2
  unfold JX7_letters_74 at h
  refine xt_il X dX7_letters_74 rfl 1 rfl ?_
  refine xt_zeq (tgt := 82) X r2 dX7_letters_75 (by decide) (fun hc => ?_) (fun hc => ?_)
  · have h := h.1 hc
    refine xt_ic X dX7_letters_82 ?_
    exact xt_iret X (i_rc 0 rfl) h dX7_letters_83
  · have h := h.2 hc
    refine xt_il X dX7_letters_78 rfl 0 rfl ?_
    refine xt_goto (tgt := 83) X dX7_letters_79 (by decide) ?_
    exact xt_iret X r1 h dX7_letters_83
set_option maxHeartbeats 4000000 in
set_option maxRecDepth 100000 in
theorem ctX7_letters {l : Launch} {G : GG} (hG : Gd G) {v0 : Int} {M : Mm} {Q : Int → Mm → Prop} (k0 : gK G v0 = (7, 0)) (h : PX7_letters v0 M Q) : Met l yX7_letters (Cond.code yX7_letters cX7_letters 4 ((some FieldType.int)) :: tw) rmX7_letters (Pre G M [rV (v0)]) (PostI G Q) 0 0 (gA G) := by
  refine met_of (own := RX7) (by decide) rfl hG (Nat.le_of_ble_eq_true rfl) (fun p e s m below meth c X => ?_)
  generalize hargs : ([rV (v0)] : List Value).toArray = args at X ⊢
  show Wt p l e rmX7_letters s m args below meth c G (MQ below (PostI G Q) args s 0 0 (gA G)) 4 M [(0, rV (v0))] 0 []
  unfold PX7_letters at h
  refine xt_ic X dX7_letters_0 ?_
  refine xt_is (lv2 := [(1, iV (0)), (0, rV (v0))]) X dX7_letters_1 rfl (by decide) rfl ?_
  refine xt_al X dX7_letters_2 rfl 1 rfl ?_
  refine gfX7_144 X k0 dX7_letters_3 (fun r_1 => ?_)
  refine xt_bi X dX7_letters_6 (by decide) ?_
  refine xt_cgt (tgt := 15) X r_1 (i_rc 6 rfl) dX7_letters_8 (by decide) (fun hc => ?_) (fun hc => ?_)
  · have h := h.1 hc
    refine xt_ic X dX7_letters_15 ?_
    refine xt_is (lv2 := [(2, iV (0)), (1, iV (0)), (0, rV (v0))]) X dX7_letters_16 rfl (by decide) rfl ?_
    refine xt_al X dX7_letters_17 rfl 2 rfl ?_
    refine gfX7_141 X k0 dX7_letters_18 (fun r_2 => ?_)
    refine xt_is (lv2 := [(3, iV (M v0 10)), (2, iV (0)), (1, iV (0)), (0, rV (v0))]) X dX7_letters_21 rfl (by decide) rfl ?_
    obtain ⟨n_14, h⟩ := h
    refine xt_perm (lv2 := [(0, rV (v0)), (1, iV (0)), (2, iV (0)), (3, iV (M v0 10))]) [3, 2, 1, 0] rfl ?_
    refine wX7_letters_22 X k0 (fun w1_15 w2_15 M_15 r1_15 r2_15 h => ?_) n_14 0 0 (M v0 10) M (i_rc 0 rfl) (i_rc 0 rfl) r_2 h
    exact jX7_letters_74 X  r1_15 r2_15 h
  · have h := h.2 hc
    refine xt_ic X dX7_letters_11 ?_
    refine xt_goto (tgt := 16) X dX7_letters_12 (by decide) ?_
    refine xt_is (lv2 := [(2, iV (1)), (1, iV (0)), (0, rV (v0))]) X dX7_letters_16 rfl (by decide) rfl ?_
    refine xt_al X dX7_letters_17 rfl 2 rfl ?_
    refine gfX7_141 X k0 dX7_letters_18 (fun r_16 => ?_)
    refine xt_is (lv2 := [(3, iV (M v0 10)), (2, iV (1)), (1, iV (0)), (0, rV (v0))]) X dX7_letters_21 rfl (by decide) rfl ?_
    obtain ⟨n_17, h⟩ := h
    refine xt_perm (lv2 := [(0, rV (v0)), (1, iV (0)), (2, iV (1)), (3, iV (M v0 10))]) [3, 2, 1, 0] rfl ?_
    refine wX7_letters_22 X k0 (fun w1_18 w2_18 M_18 r1_18 r2_18 h => ?_) n_17 0 1 (M v0 10) M (i_rc 0 rfl) (i_rc 1 rfl) r_16 h
    exact jX7_letters_74 X  r1_18 r2_18 h
abbrev rmX7_command : Room := { frames := 2, cells := 0, slots := 0, locals := 45 }
def PX7_command (v0 : Int) (M : Mm) (Q : Int → Mm → Prop) : Prop :=
  (PX7_letters v0 M (fun z_1 M_2 =>
  (((¬ z_1 = 841 ∧ ¬ z_1 = 2774 ∧ ¬ z_1 = 11695 ∧ ¬ z_1 = 12251 ∧ ¬ z_1 = 92275 ∧ ¬ z_1 = 208022 ∧ ¬ z_1 = 774401 ∧ ¬ z_1 = 6476969 ∧ ¬ z_1 = 10421318) → Q ((-9)) M_2) ∧
  (z_1 = 841 → Q 0 M_2) ∧
  (z_1 = 2774 → Q 5 M_2) ∧
  (z_1 = 11695 → Q 7 M_2) ∧
  (z_1 = 12251 → Q 4 M_2) ∧
  (z_1 = 92275 → Q 1 M_2) ∧
  (z_1 = 208022 → Q 3 M_2) ∧
  (z_1 = 774401 → Q 6 M_2) ∧
  (z_1 = 6476969 → Q 8 M_2) ∧
  (z_1 = 10421318 → Q 2 M_2))))
set_option maxHeartbeats 4000000 in
set_option maxRecDepth 100000 in
theorem ctX7_command {l : Launch} {G : GG} (hG : Gd G) {v0 : Int} {M : Mm} {Q : Int → Mm → Prop} (k0 : gK G v0 = (7, 0)) (h : PX7_command v0 M Q) : Met l yX7_command (Cond.code yX7_command cX7_command 1 ((some FieldType.int)) :: tw) rmX7_command (Pre G M [rV (v0)]) (PostI G Q) 0 0 (gA G) := by
  refine met_of (own := RX7) (by decide) rfl hG (Nat.le_of_ble_eq_true rfl) (fun p e s m below meth c X => ?_)
  generalize hargs : ([rV (v0)] : List Value).toArray = args at X ⊢
  show Wt p l e rmX7_command s m args below meth c G (MQ below (PostI G Q) args s 0 0 (gA G)) 1 M [(0, rV (v0))] 0 []
  unfold PX7_command at h
  refine xt_al X dX7_command_0 rfl 0 rfl ?_
  refine xt_cVI X [] [] (ctX7_letters hG k0 h) gdX7_150 pdX7_letters ⟨rfl, rfl⟩ ⟨Nat.le_of_ble_eq_true rfl, Nat.le_of_ble_eq_true rfl⟩ rfl (k_lt k0 (by decide)) (by rw [k0]; rfl) rfl (Nat.le_of_ble_eq_true rfl) dX7_command_1 (fun z_1 M_2 z_1r h => ?_)
  rcases (show (¬ z_1 = 841 ∧ ¬ z_1 = 2774 ∧ ¬ z_1 = 11695 ∧ ¬ z_1 = 12251 ∧ ¬ z_1 = 92275 ∧ ¬ z_1 = 208022 ∧ ¬ z_1 = 774401 ∧ ¬ z_1 = 6476969 ∧ ¬ z_1 = 10421318) ∨ z_1 = 841 ∨ z_1 = 2774 ∨ z_1 = 11695 ∨ z_1 = 12251 ∨ z_1 = 92275 ∨ z_1 = 208022 ∨ z_1 = 774401 ∨ z_1 = 6476969 ∨ z_1 = 10421318 by omega) with hc | hc | hc | hc | hc | hc | hc | hc | hc | hc
  · have h := h.1 hc
    refine xt_look (tgt := 109) (off := 105) X z_1r dX7_command_4 (by decide) (by simp [Op.lookupswitch.offset_cons, Op.lookupswitch.offset_nil]; omega) (by decide) ?_
    refine xt_bi X dX7_command_109 (by decide) ?_
    exact xt_iret X (i_rc (-9) rfl) h dX7_command_111
  · have h := h.2.1 hc
    refine xt_look (tgt := 88) (off := 84) X z_1r dX7_command_4 (by decide) (by rw [hc]; decide) (by decide) ?_
    refine xt_ic X dX7_command_88 ?_
    exact xt_iret X (i_rc 0 rfl) h dX7_command_89
  · have h := h.2.2.1 hc
    refine xt_look (tgt := 98) (off := 94) X z_1r dX7_command_4 (by decide) (by rw [hc]; decide) (by decide) ?_
    refine xt_ic X dX7_command_98 ?_
    exact xt_iret X (i_rc 5 rfl) h dX7_command_99
  · have h := h.2.2.2.1 hc
    refine xt_look (tgt := 103) (off := 99) X z_1r dX7_command_4 (by decide) (by rw [hc]; decide) (by decide) ?_
    refine xt_bi X dX7_command_103 (by decide) ?_
    exact xt_iret X (i_rc 7 rfl) h dX7_command_105
  · have h := h.2.2.2.2.1 hc
    refine xt_look (tgt := 96) (off := 92) X z_1r dX7_command_4 (by decide) (by rw [hc]; decide) (by decide) ?_
    refine xt_ic X dX7_command_96 ?_
    exact xt_iret X (i_rc 4 rfl) h dX7_command_97
  · have h := h.2.2.2.2.2.1 hc
    refine xt_look (tgt := 90) (off := 86) X z_1r dX7_command_4 (by decide) (by rw [hc]; decide) (by decide) ?_
    refine xt_ic X dX7_command_90 ?_
    exact xt_iret X (i_rc 1 rfl) h dX7_command_91
  · have h := h.2.2.2.2.2.2.1 hc
    refine xt_look (tgt := 94) (off := 90) X z_1r dX7_command_4 (by decide) (by rw [hc]; decide) (by decide) ?_
    refine xt_ic X dX7_command_94 ?_
    exact xt_iret X (i_rc 3 rfl) h dX7_command_95
  · have h := h.2.2.2.2.2.2.2.1 hc
    refine xt_look (tgt := 100) (off := 96) X z_1r dX7_command_4 (by decide) (by rw [hc]; decide) (by decide) ?_
    refine xt_bi X dX7_command_100 (by decide) ?_
    exact xt_iret X (i_rc 6 rfl) h dX7_command_102
  · have h := h.2.2.2.2.2.2.2.2.1 hc
    refine xt_look (tgt := 106) (off := 102) X z_1r dX7_command_4 (by decide) (by rw [hc]; decide) (by decide) ?_
    refine xt_bi X dX7_command_106 (by decide) ?_
    exact xt_iret X (i_rc 8 rfl) h dX7_command_108
  · have h := h.2.2.2.2.2.2.2.2.2 hc
    refine xt_look (tgt := 92) (off := 88) X z_1r dX7_command_4 (by decide) (by rw [hc]; decide) (by decide) ?_
    refine xt_ic X dX7_command_92 ?_
    exact xt_iret X (i_rc 2 rfl) h dX7_command_93
abbrev rmX7_way : Room := { frames := 2, cells := 0, slots := 0, locals := 45 }
def PX7_way (v0 : Int) (M : Mm) (Q : Int → Mm → Prop) : Prop :=
  (PX7_letters v0 M (fun z_1 M_2 =>
  (((¬ z_1 = 240023 ∧ ¬ z_1 = 8805260 ∧ ¬ z_1 = 9748424 ∧ ¬ z_1 = 191400737) → Q ((-9)) M_2) ∧
  (z_1 = 240023 → Q 0 M_2) ∧
  (z_1 = 8805260 → Q 3 M_2) ∧
  (z_1 = 9748424 → Q 1 M_2) ∧
  (z_1 = 191400737 → Q 2 M_2))))
set_option maxHeartbeats 4000000 in
set_option maxRecDepth 100000 in
theorem ctX7_way {l : Launch} {G : GG} (hG : Gd G) {v0 : Int} {M : Mm} {Q : Int → Mm → Prop} (k0 : gK G v0 = (7, 0)) (h : PX7_way v0 M Q) : Met l yX7_way (Cond.code yX7_way cX7_way 1 ((some FieldType.int)) :: tw) rmX7_way (Pre G M [rV (v0)]) (PostI G Q) 0 0 (gA G) := by
  refine met_of (own := RX7) (by decide) rfl hG (Nat.le_of_ble_eq_true rfl) (fun p e s m below meth c X => ?_)
  generalize hargs : ([rV (v0)] : List Value).toArray = args at X ⊢
  show Wt p l e rmX7_way s m args below meth c G (MQ below (PostI G Q) args s 0 0 (gA G)) 1 M [(0, rV (v0))] 0 []
  unfold PX7_way at h
  refine xt_al X dX7_way_0 rfl 0 rfl ?_
  refine xt_cVI X [] [] (ctX7_letters hG k0 h) gdX7_150 pdX7_letters ⟨rfl, rfl⟩ ⟨Nat.le_of_ble_eq_true rfl, Nat.le_of_ble_eq_true rfl⟩ rfl (k_lt k0 (by decide)) (by rw [k0]; rfl) rfl (Nat.le_of_ble_eq_true rfl) dX7_way_1 (fun z_1 M_2 z_1r h => ?_)
  rcases (show (¬ z_1 = 240023 ∧ ¬ z_1 = 8805260 ∧ ¬ z_1 = 9748424 ∧ ¬ z_1 = 191400737) ∨ z_1 = 240023 ∨ z_1 = 8805260 ∨ z_1 = 9748424 ∨ z_1 = 191400737 by omega) with hc | hc | hc | hc | hc
  · have h := h.1 hc
    refine xt_look (tgt := 56) (off := 52) X z_1r dX7_way_4 (by decide) (by simp [Op.lookupswitch.offset_cons, Op.lookupswitch.offset_nil]; omega) (by decide) ?_
    refine xt_bi X dX7_way_56 (by decide) ?_
    exact xt_iret X (i_rc (-9) rfl) h dX7_way_58
  · have h := h.2.1 hc
    refine xt_look (tgt := 48) (off := 44) X z_1r dX7_way_4 (by decide) (by rw [hc]; decide) (by decide) ?_
    refine xt_ic X dX7_way_48 ?_
    exact xt_iret X (i_rc 0 rfl) h dX7_way_49
  · have h := h.2.2.1 hc
    refine xt_look (tgt := 54) (off := 50) X z_1r dX7_way_4 (by decide) (by rw [hc]; decide) (by decide) ?_
    refine xt_ic X dX7_way_54 ?_
    exact xt_iret X (i_rc 3 rfl) h dX7_way_55
  · have h := h.2.2.2.1 hc
    refine xt_look (tgt := 50) (off := 46) X z_1r dX7_way_4 (by decide) (by rw [hc]; decide) (by decide) ?_
    refine xt_ic X dX7_way_50 ?_
    exact xt_iret X (i_rc 1 rfl) h dX7_way_51
  · have h := h.2.2.2.2 hc
    refine xt_look (tgt := 52) (off := 48) X z_1r dX7_way_4 (by decide) (by rw [hc]; decide) (by decide) ?_
    refine xt_ic X dX7_way_52 ?_
    exact xt_iret X (i_rc 2 rfl) h dX7_way_53
abbrev rmX7_number : Room := { frames := 3, cells := 0, slots := 0, locals := 62 }
def BX7_number_55 (ke108 : Int → Mm → Prop) (Q : Int → Mm → Prop) (v0 : Int) (rec : Int → Int → Mm → Prop) (v1 : Int) (v2 : Int) (M : Mm) : Prop :=
  (((M v0 9) ≤ v2 → ke108 v1 M) ∧
  (¬ (M v0 9) ≤ v2 → ((v1 = 0 → ke108 v1 M) ∧
  (¬ v1 = 0 → ((0 ≤ v2 ∧ v2 < 150) ∧
  (PX7_in (M (v0 + 5) v2) 48 57 M (fun z_9 M_10 =>
  ((0 ≤ v2 ∧ v2 < 150) ∧
  (inR (((10 * (M_10 v0 13)) + (M_10 (v0 + 5) v2)) - 48) ∧
  (∀ M_14 : Mm, M_14 = um M_10 v0 13 (((10 * (M_10 v0 13)) + (M_10 (v0 + 5) v2)) - 48) →
  (inR (v2 + 1) ∧
  rec z_9 (v2 + 1) M_14)))))))))))
def JX7_number_108  (Q : Int → Mm → Prop) (v0 : Int) (v1 : Int) (M : Mm) : Prop :=
  ((v1 = 0 → (PX7_fails v0 (M v0 10) M (fun z_20 M_21 =>
  ((z_20 = 0 → Q 0 M_21) ∧
  (¬ z_20 = 0 → Q 1 M_21))))) ∧
  (¬ v1 = 0 → Q 1 M))
def JX7_number_48  (Q : Int → Mm → Prop) (v0 : Int) (M : Mm) : Prop :=
  ∃ n_17 : Nat, lp_II (BX7_number_55 (fun w1_18 M_18 => JX7_number_108  Q v0 w1_18 M_18) Q v0) n_17 0 (M v0 10) M
def PX7_number (v0 : Int) (M : Mm) (Q : Int → Mm → Prop) : Prop :=
  (PX7_word v0 M (fun z_1 M_2 =>
  ((z_1 = 0 → Q 0 M_2) ∧
  (¬ z_1 = 0 → (∀ M_3 : Mm, M_3 = um M_2 v0 13 0 →
  ((3 < (M_3 v0 11) → JX7_number_48  Q v0 M_3) ∧
  (¬ 3 < (M_3 v0 11) → (((M_3 v0 11) = 1 → ∃ n_24 : Nat, lp_II (BX7_number_55 (fun w1_25 M_25 => JX7_number_108  Q v0 w1_25 M_25) Q v0) n_24 1 (M_3 v0 10) M_3) ∧
  (¬ (M_3 v0 11) = 1 → ((0 ≤ (M_3 v0 10) ∧ (M_3 v0 10) < 150) ∧
  (((M_3 (v0 + 5) (M_3 v0 10)) = 48 → JX7_number_48  Q v0 M_3) ∧
  (¬ (M_3 (v0 + 5) (M_3 v0 10)) = 48 → ∃ n_30 : Nat, lp_II (BX7_number_55 (fun w1_31 M_31 => JX7_number_108  Q v0 w1_31 M_31) Q v0) n_30 1 (M_3 v0 10) M_3))))))))))))
set_option maxHeartbeats 4000000 in
set_option maxRecDepth 100000 in
theorem wX7_number_55 {p : Program} {l : Launch} {e : Env} {s : State} {m : MethodId} {args : Array Value} {below : List Frame} {meth : Method} {c : Code} {G : GG} (X : Cx p s m args meth c cX7_number 3 ((some FieldType.boolean)) RX7 G) {Q : Int → Mm → Prop} {ke108 : Int → Mm → Prop} {v0 : Int} (k0 : gK G v0 = (7, 0)) (hke108 : ∀ (v1 : Int) (M : Mm), inR v1 → ke108 v1 M → Wt p l e rmX7_number s m args below meth c G (MQ below (PostI G Q) args s 0 0 (gA G)) 3 M [(0, rV (v0)), (1, iV (v1))] 108 []) : ∀ (n : Nat) (v1 : Int) (v2 : Int) (M : Mm), inR v1 → inR v2 → lp_II (BX7_number_55 ke108 Q v0) n v1 v2 M → Wt p l e rmX7_number s m args below meth c G (MQ below (PostI G Q) args s 0 0 (gA G)) 3 M [(0, rV (v0)), (1, iV (v1)), (2, iV (v2))] 55 [] := by
  have hG := X.2.2.2.2.2.2.2.2
  intro n
  induction n with
  | zero => intro v1 v2 M r1 r2 h; exact h.elim
  | succ n ih =>
    intro v1 v2 M r1 r2 h
    have h : BX7_number_55 ke108 Q v0 (lp_II (BX7_number_55 ke108 Q v0) n) v1 v2 M := h
    unfold BX7_number_55 at h
    refine xt_il X dX7_number_55 rfl 2 rfl ?_
    refine xt_al X dX7_number_56 rfl 0 rfl ?_
    refine gfX7_132 X k0 dX7_number_57 (fun r_6 => ?_)
    refine xt_cge (tgt := 108) X r2 r_6 dX7_number_60 (by decide) (fun hc => ?_) (fun hc => ?_)
    · have h := h.1 hc
      refine xt_perm (lv2 := [(0, rV (v0)), (1, iV (v1))]) [0, 1] rfl ?_
      exact hke108 v1 M r1 h
    · have h := h.2 hc
      refine xt_il X dX7_number_63 rfl 1 rfl ?_
      refine xt_zeq (tgt := 108) X r1 dX7_number_64 (by decide) (fun hc => ?_) (fun hc => ?_)
      · have h := h.1 hc
        refine xt_perm (lv2 := [(0, rV (v0)), (1, iV (v1))]) [0, 1] rfl ?_
        exact hke108 v1 M r1 h
      · have h := h.2 hc
        refine xt_al X dX7_number_67 rfl 0 rfl ?_
        refine gfX7_22 X k0 dX7_number_68 ?_
        refine xt_il X dX7_number_71 rfl 2 rfl ?_
        obtain ⟨g_7, h⟩ := h
        refine xt_iald X (kd_X7_8 hG k0) g_7 (by decide) dX7_number_72 (fun r_8 => ?_)
        refine xt_bi X dX7_number_73 (by decide) ?_
        refine xt_bi X dX7_number_75 (by decide) ?_
        refine xt_cSI X [iV (M (v0 + 5) v2), iV (48), iV (57)] [] (ctX7_in hG r_8 (i_rc 48 rfl) (i_rc 57 rfl) h) gdX7_80 pdX7_in ⟨rfl, rfl⟩ ⟨Nat.le_of_ble_eq_true rfl, Nat.le_of_ble_eq_true rfl⟩ rfl (Nat.le_of_ble_eq_true rfl) dX7_number_77 (fun z_9 M_10 z_9r h => ?_)
        refine xt_is (lv2 := [(1, iV (z_9)), (0, rV (v0)), (2, iV (v2))]) X dX7_number_80 rfl (by decide) rfl ?_
        refine xt_al X dX7_number_81 rfl 1 rfl ?_
        refine xt_bi X dX7_number_82 (by decide) ?_
        refine xt_al X dX7_number_84 rfl 1 rfl ?_
        refine gfX7_158 X k0 dX7_number_85 (fun r_11 => ?_)
        refine xt_mul X dX7_number_88 ?_
        refine xt_al X dX7_number_89 rfl 1 rfl ?_
        refine gfX7_22 X k0 dX7_number_90 ?_
        refine xt_il X dX7_number_93 rfl 2 rfl ?_
        obtain ⟨g_12, h⟩ := h
        refine xt_iald X (kd_X7_8 hG k0) g_12 (by decide) dX7_number_94 (fun r_13 => ?_)
        refine xt_add X dX7_number_95 ?_
        refine xt_bi X dX7_number_96 (by decide) ?_
        refine xt_sub X dX7_number_98 ?_
        obtain ⟨g_15, h⟩ := h
        refine pfX7_158 X k0 g_15 dX7_number_99 (fun M_14 hm => ?_)
        have h := h M_14 hm
        refine xt_inc (lv2 := [(2, iV (v2 + 1)), (1, iV (z_9)), (0, rV (v0))]) X dX7_number_102 2 rfl (by decide) rfl ?_
        refine xt_goto (tgt := 55) X dX7_number_105 (by decide) ?_
        obtain ⟨g_16, h⟩ := h
        refine xt_perm (lv2 := [(0, rV (v0)), (1, iV (z_9)), (2, iV (v2 + 1))]) [2, 1, 0] rfl ?_
        exact ih z_9 (v2 + 1) M_14 z_9r g_16 h
set_option maxHeartbeats 4000000 in
set_option maxRecDepth 100000 in
theorem jX7_number_108 {p : Program} {l : Launch} {e : Env} {s : State} {m : MethodId} {args : Array Value} {below : List Frame} {meth : Method} {c : Code} {G : GG} (X : Cx p s m args meth c cX7_number 3 ((some FieldType.boolean)) RX7 G) {Q : Int → Mm → Prop}  {v0 : Int} {v1 : Int}  (k0 : gK G v0 = (7, 0)) (r1 : inR v1) {M : Mm} (h : JX7_number_108  Q v0 v1 M) : Wt p l e rmX7_number s m args below meth c G (MQ below (PostI G Q) args s 0 0 (gA G)) 3 M [(0, rV (v0)), (1, iV (v1))] 108 [] := by
  have hG := X.2.2.2.2.2.2.2.2
  unfold JX7_number_108 at h
  refine xt_il X dX7_number_108 rfl 1 rfl ?_
  refine xt_zne (tgt := 123) X r1 dX7_number_109 (by decide) (fun hc => ?_) (fun hc => ?_)
  · have h := h.2 hc
    refine xt_ic X dX7_number_123 ?_
    refine xt_goto (tgt := 128) X dX7_number_124 (by decide) ?_
    exact xt_zret X (Or.inr rfl) h dX7_number_128
  · have h := h.1 hc
    refine xt_al X dX7_number_112 rfl 0 rfl ?_
    refine xt_al X dX7_number_113 rfl 0 rfl ?_
    refine gfX7_141 X k0 dX7_number_114 (fun r_19 => ?_)
    refine xt_cVI X [iV (M v0 10)] [] (ctX7_fails hG k0 r_19 h) gdX7_147 pdX7_fails ⟨rfl, rfl⟩ ⟨Nat.le_of_ble_eq_true rfl, Nat.le_of_ble_eq_true rfl⟩ rfl (k_lt k0 (by decide)) (by rw [k0]; rfl) rfl (Nat.le_of_ble_eq_true rfl) dX7_number_117 (fun z_20 M_21 z_20r h => ?_)
    refine xt_zeq (tgt := 127) X z_20r dX7_number_120 (by decide) (fun hc => ?_) (fun hc => ?_)
    · have h := h.1 hc
      refine xt_ic X dX7_number_127 ?_
      exact xt_zret X (Or.inl rfl) h dX7_number_128
    · have h := h.2 hc
      refine xt_ic X dX7_number_123 ?_
      refine xt_goto (tgt := 128) X dX7_number_124 (by decide) ?_
      exact xt_zret X (Or.inr rfl) h dX7_number_128
set_option maxHeartbeats 4000000 in
set_option maxRecDepth 100000 in
theorem jX7_number_48 {p : Program} {l : Launch} {e : Env} {s : State} {m : MethodId} {args : Array Value} {below : List Frame} {meth : Method} {c : Code} {G : GG} (X : Cx p s m args meth c cX7_number 3 ((some FieldType.boolean)) RX7 G) {Q : Int → Mm → Prop}  {v0 : Int}  (k0 : gK G v0 = (7, 0)) {M : Mm} (h : JX7_number_48  Q v0 M) : Wt p l e rmX7_number s m args below meth c G (MQ below (PostI G Q) args s 0 0 (gA G)) 3 M [(0, rV (v0))] 48 [] := by
  have hG := X.2.2.2.2.2.2.2.2
  unfold JX7_number_48 at h
  refine xt_ic X dX7_number_48 ?_
  refine xt_is (lv2 := [(1, iV (0)), (0, rV (v0))]) X dX7_number_49 rfl (by decide) rfl ?_
  refine xt_al X dX7_number_50 rfl 1 rfl ?_
  refine gfX7_141 X k0 dX7_number_51 (fun r_5 => ?_)
  refine xt_is (lv2 := [(2, iV (M v0 10)), (1, iV (0)), (0, rV (v0))]) X dX7_number_54 rfl (by decide) rfl ?_
  obtain ⟨n_17, h⟩ := h
  refine xt_perm (lv2 := [(0, rV (v0)), (1, iV (0)), (2, iV (M v0 10))]) [2, 1, 0] rfl ?_
  refine wX7_number_55 X k0 (fun w1_18 M_18 r1_18 h => ?_) n_17 0 (M v0 10) M (i_rc 0 rfl) r_5 h
  exact jX7_number_108 X  k0 r1_18 h
set_option maxHeartbeats 4000000 in
set_option maxRecDepth 100000 in
theorem ctX7_number {l : Launch} {G : GG} (hG : Gd G) {v0 : Int} {M : Mm} {Q : Int → Mm → Prop} (k0 : gK G v0 = (7, 0)) (h : PX7_number v0 M Q) : Met l yX7_number (Cond.code yX7_number cX7_number 3 ((some FieldType.boolean)) :: tw) rmX7_number (Pre G M [rV (v0)]) (PostI G Q) 0 0 (gA G) := by
  refine met_of (own := RX7) (by decide) rfl hG (Nat.le_of_ble_eq_true rfl) (fun p e s m below meth c X => ?_)
  generalize hargs : ([rV (v0)] : List Value).toArray = args at X ⊢
  show Wt p l e rmX7_number s m args below meth c G (MQ below (PostI G Q) args s 0 0 (gA G)) 3 M [(0, rV (v0))] 0 []
  unfold PX7_number at h
  refine xt_al X dX7_number_0 rfl 0 rfl ?_
  refine xt_cVI X [] [] (ctX7_word hG k0 h) gdX7_154 pdX7_word ⟨rfl, rfl⟩ ⟨Nat.le_of_ble_eq_true rfl, Nat.le_of_ble_eq_true rfl⟩ rfl (k_lt k0 (by decide)) (by rw [k0]; rfl) rfl (Nat.le_of_ble_eq_true rfl) dX7_number_1 (fun z_1 M_2 z_1r h => ?_)
  refine xt_zne (tgt := 9) X z_1r dX7_number_4 (by decide) (fun hc => ?_) (fun hc => ?_)
  · have h := h.2 hc
    refine xt_al X dX7_number_9 rfl 0 rfl ?_
    refine xt_ic X dX7_number_10 ?_
    refine pfX7_158 X k0 (i_rc 0 rfl) dX7_number_11 (fun M_3 hm => ?_)
    have h := h M_3 hm
    refine xt_al X dX7_number_14 rfl 0 rfl ?_
    refine gfX7_144 X k0 dX7_number_15 (fun r_4 => ?_)
    refine xt_ic X dX7_number_18 ?_
    refine xt_cgt (tgt := 48) X r_4 (i_rc 3 rfl) dX7_number_19 (by decide) (fun hc => ?_) (fun hc => ?_)
    · have h := h.1 hc
      exact jX7_number_48 X  k0 h
    · have h := h.2 hc
      refine xt_al X dX7_number_22 rfl 0 rfl ?_
      refine gfX7_144 X k0 dX7_number_23 (fun r_22 => ?_)
      refine xt_ic X dX7_number_26 ?_
      refine xt_ceq (tgt := 44) X r_22 (i_rc 1 rfl) dX7_number_27 (by decide) (fun hc => ?_) (fun hc => ?_)
      · have h := h.1 hc
        refine xt_ic X dX7_number_44 ?_
        refine xt_goto (tgt := 49) X dX7_number_45 (by decide) ?_
        refine xt_is (lv2 := [(1, iV (1)), (0, rV (v0))]) X dX7_number_49 rfl (by decide) rfl ?_
        refine xt_al X dX7_number_50 rfl 1 rfl ?_
        refine gfX7_141 X k0 dX7_number_51 (fun r_23 => ?_)
        refine xt_is (lv2 := [(2, iV (M_3 v0 10)), (1, iV (1)), (0, rV (v0))]) X dX7_number_54 rfl (by decide) rfl ?_
        obtain ⟨n_24, h⟩ := h
        refine xt_perm (lv2 := [(0, rV (v0)), (1, iV (1)), (2, iV (M_3 v0 10))]) [2, 1, 0] rfl ?_
        refine wX7_number_55 X k0 (fun w1_25 M_25 r1_25 h => ?_) n_24 1 (M_3 v0 10) M_3 (i_rc 1 rfl) r_23 h
        exact jX7_number_108 X  k0 r1_25 h
      · have h := h.2 hc
        refine xt_al X dX7_number_30 rfl 0 rfl ?_
        refine gfX7_22 X k0 dX7_number_31 ?_
        refine xt_al X dX7_number_34 rfl 0 rfl ?_
        refine gfX7_141 X k0 dX7_number_35 (fun r_26 => ?_)
        obtain ⟨g_27, h⟩ := h
        refine xt_iald X (kd_X7_8 hG k0) g_27 (by decide) dX7_number_38 (fun r_28 => ?_)
        refine xt_bi X dX7_number_39 (by decide) ?_
        refine xt_ceq (tgt := 48) X r_28 (i_rc 48 rfl) dX7_number_41 (by decide) (fun hc => ?_) (fun hc => ?_)
        · have h := h.1 hc
          exact jX7_number_48 X  k0 h
        · have h := h.2 hc
          refine xt_ic X dX7_number_44 ?_
          refine xt_goto (tgt := 49) X dX7_number_45 (by decide) ?_
          refine xt_is (lv2 := [(1, iV (1)), (0, rV (v0))]) X dX7_number_49 rfl (by decide) rfl ?_
          refine xt_al X dX7_number_50 rfl 1 rfl ?_
          refine gfX7_141 X k0 dX7_number_51 (fun r_29 => ?_)
          refine xt_is (lv2 := [(2, iV (M_3 v0 10)), (1, iV (1)), (0, rV (v0))]) X dX7_number_54 rfl (by decide) rfl ?_
          obtain ⟨n_30, h⟩ := h
          refine xt_perm (lv2 := [(0, rV (v0)), (1, iV (1)), (2, iV (M_3 v0 10))]) [2, 1, 0] rfl ?_
          refine wX7_number_55 X k0 (fun w1_31 M_31 r1_31 h => ?_) n_30 1 (M_3 v0 10) M_3 (i_rc 1 rfl) r_29 h
          exact jX7_number_108 X  k0 r1_31 h
  · have h := h.1 hc
    refine xt_ic X dX7_number_7 ?_
    exact xt_zret X (Or.inl rfl) h dX7_number_8
abbrev rmX7_sign : Room := { frames := 3, cells := 0, slots := 0, locals := 62 }
def JX7_sign_30  (Q : Int → Mm → Prop)  (M : Mm) : Prop :=
  Q 0 M
def PX7_sign (v0 : Int) (M : Mm) (Q : Int → Mm → Prop) : Prop :=
  (PX7_word v0 M (fun z_1 M_2 =>
  ((z_1 = 0 → JX7_sign_30  Q M_2) ∧
  (¬ z_1 = 0 → (((M_2 v0 11) = 1 → Q 1 M_2) ∧
  (¬ (M_2 v0 11) = 1 → (PX7_fails v0 (M_2 v0 10) M_2 (fun z_5 M_6 =>
  ((z_5 = 0 → JX7_sign_30  Q M_6) ∧
  (¬ z_5 = 0 → Q 1 M_6))))))))))
set_option maxHeartbeats 4000000 in
set_option maxRecDepth 100000 in
theorem jX7_sign_30 {p : Program} {l : Launch} {e : Env} {s : State} {m : MethodId} {args : Array Value} {below : List Frame} {meth : Method} {c : Code} {G : GG} (X : Cx p s m args meth c cX7_sign 1 ((some FieldType.boolean)) RX7 G) {Q : Int → Mm → Prop}     {M : Mm} (h : JX7_sign_30  Q  M) : Wt p l e rmX7_sign s m args below meth c G (MQ below (PostI G Q) args s 0 0 (gA G)) 1 M [] 30 [] := by
  have hG := X.2.2.2.2.2.2.2.2
  unfold JX7_sign_30 at h
  refine xt_ic X dX7_sign_30 ?_
  exact xt_zret X (Or.inl rfl) h dX7_sign_31
set_option maxHeartbeats 4000000 in
set_option maxRecDepth 100000 in
theorem ctX7_sign {l : Launch} {G : GG} (hG : Gd G) {v0 : Int} {M : Mm} {Q : Int → Mm → Prop} (k0 : gK G v0 = (7, 0)) (h : PX7_sign v0 M Q) : Met l yX7_sign (Cond.code yX7_sign cX7_sign 1 ((some FieldType.boolean)) :: tw) rmX7_sign (Pre G M [rV (v0)]) (PostI G Q) 0 0 (gA G) := by
  refine met_of (own := RX7) (by decide) rfl hG (Nat.le_of_ble_eq_true rfl) (fun p e s m below meth c X => ?_)
  generalize hargs : ([rV (v0)] : List Value).toArray = args at X ⊢
  show Wt p l e rmX7_sign s m args below meth c G (MQ below (PostI G Q) args s 0 0 (gA G)) 1 M [(0, rV (v0))] 0 []
  unfold PX7_sign at h
  refine xt_al X dX7_sign_0 rfl 0 rfl ?_
  refine xt_cVI X [] [] (ctX7_word hG k0 h) gdX7_154 pdX7_word ⟨rfl, rfl⟩ ⟨Nat.le_of_ble_eq_true rfl, Nat.le_of_ble_eq_true rfl⟩ rfl (k_lt k0 (by decide)) (by rw [k0]; rfl) rfl (Nat.le_of_ble_eq_true rfl) dX7_sign_1 (fun z_1 M_2 z_1r h => ?_)
  refine xt_zeq (tgt := 30) X z_1r dX7_sign_4 (by decide) (fun hc => ?_) (fun hc => ?_)
  · have h := h.1 hc
    refine xt_perm (lv2 := []) [] rfl ?_
    exact jX7_sign_30 X   h
  · have h := h.2 hc
    refine xt_al X dX7_sign_7 rfl 0 rfl ?_
    refine gfX7_144 X k0 dX7_sign_8 (fun r_3 => ?_)
    refine xt_ic X dX7_sign_11 ?_
    refine xt_ceq (tgt := 26) X r_3 (i_rc 1 rfl) dX7_sign_12 (by decide) (fun hc => ?_) (fun hc => ?_)
    · have h := h.1 hc
      refine xt_ic X dX7_sign_26 ?_
      refine xt_goto (tgt := 31) X dX7_sign_27 (by decide) ?_
      exact xt_zret X (Or.inr rfl) h dX7_sign_31
    · have h := h.2 hc
      refine xt_al X dX7_sign_15 rfl 0 rfl ?_
      refine xt_al X dX7_sign_16 rfl 0 rfl ?_
      refine gfX7_141 X k0 dX7_sign_17 (fun r_4 => ?_)
      refine xt_cVI X [iV (M_2 v0 10)] [] (ctX7_fails hG k0 r_4 h) gdX7_147 pdX7_fails ⟨rfl, rfl⟩ ⟨Nat.le_of_ble_eq_true rfl, Nat.le_of_ble_eq_true rfl⟩ rfl (k_lt k0 (by decide)) (by rw [k0]; rfl) rfl (Nat.le_of_ble_eq_true rfl) dX7_sign_20 (fun z_5 M_6 z_5r h => ?_)
      refine xt_zeq (tgt := 30) X z_5r dX7_sign_23 (by decide) (fun hc => ?_) (fun hc => ?_)
      · have h := h.1 hc
        refine xt_perm (lv2 := []) [] rfl ?_
        exact jX7_sign_30 X   h
      · have h := h.2 hc
        refine xt_ic X dX7_sign_26 ?_
        refine xt_goto (tgt := 31) X dX7_sign_27 (by decide) ?_
        exact xt_zret X (Or.inr rfl) h dX7_sign_31
abbrev rmX7_signs : Room := { frames := 3, cells := 0, slots := 0, locals := 62 }
def JX7_signs_31  (Q : Int → Mm → Prop)  (M : Mm) : Prop :=
  Q 0 M
def PX7_signs (v0 : Int) (M : Mm) (Q : Int → Mm → Prop) : Prop :=
  (PX7_word v0 M (fun z_1 M_2 =>
  ((z_1 = 0 → JX7_signs_31  Q M_2) ∧
  (¬ z_1 = 0 → (((M_2 v0 11) ≤ 24 → Q 1 M_2) ∧
  (¬ (M_2 v0 11) ≤ 24 → (PX7_fails v0 (M_2 v0 10) M_2 (fun z_5 M_6 =>
  ((z_5 = 0 → JX7_signs_31  Q M_6) ∧
  (¬ z_5 = 0 → Q 1 M_6))))))))))
set_option maxHeartbeats 4000000 in
set_option maxRecDepth 100000 in
theorem jX7_signs_31 {p : Program} {l : Launch} {e : Env} {s : State} {m : MethodId} {args : Array Value} {below : List Frame} {meth : Method} {c : Code} {G : GG} (X : Cx p s m args meth c cX7_signs 1 ((some FieldType.boolean)) RX7 G) {Q : Int → Mm → Prop}     {M : Mm} (h : JX7_signs_31  Q  M) : Wt p l e rmX7_signs s m args below meth c G (MQ below (PostI G Q) args s 0 0 (gA G)) 1 M [] 31 [] := by
  have hG := X.2.2.2.2.2.2.2.2
  unfold JX7_signs_31 at h
  refine xt_ic X dX7_signs_31 ?_
  exact xt_zret X (Or.inl rfl) h dX7_signs_32
set_option maxHeartbeats 4000000 in
set_option maxRecDepth 100000 in
theorem ctX7_signs {l : Launch} {G : GG} (hG : Gd G) {v0 : Int} {M : Mm} {Q : Int → Mm → Prop} (k0 : gK G v0 = (7, 0)) (h : PX7_signs v0 M Q) : Met l yX7_signs (Cond.code yX7_signs cX7_signs 1 ((some FieldType.boolean)) :: tw) rmX7_signs (Pre G M [rV (v0)]) (PostI G Q) 0 0 (gA G) := by
  refine met_of (own := RX7) (by decide) rfl hG (Nat.le_of_ble_eq_true rfl) (fun p e s m below meth c X => ?_)
  generalize hargs : ([rV (v0)] : List Value).toArray = args at X ⊢
  show Wt p l e rmX7_signs s m args below meth c G (MQ below (PostI G Q) args s 0 0 (gA G)) 1 M [(0, rV (v0))] 0 []
  unfold PX7_signs at h
  refine xt_al X dX7_signs_0 rfl 0 rfl ?_
  refine xt_cVI X [] [] (ctX7_word hG k0 h) gdX7_154 pdX7_word ⟨rfl, rfl⟩ ⟨Nat.le_of_ble_eq_true rfl, Nat.le_of_ble_eq_true rfl⟩ rfl (k_lt k0 (by decide)) (by rw [k0]; rfl) rfl (Nat.le_of_ble_eq_true rfl) dX7_signs_1 (fun z_1 M_2 z_1r h => ?_)
  refine xt_zeq (tgt := 31) X z_1r dX7_signs_4 (by decide) (fun hc => ?_) (fun hc => ?_)
  · have h := h.1 hc
    refine xt_perm (lv2 := []) [] rfl ?_
    exact jX7_signs_31 X   h
  · have h := h.2 hc
    refine xt_al X dX7_signs_7 rfl 0 rfl ?_
    refine gfX7_144 X k0 dX7_signs_8 (fun r_3 => ?_)
    refine xt_bi X dX7_signs_11 (by decide) ?_
    refine xt_cle (tgt := 27) X r_3 (i_rc 24 rfl) dX7_signs_13 (by decide) (fun hc => ?_) (fun hc => ?_)
    · have h := h.1 hc
      refine xt_ic X dX7_signs_27 ?_
      refine xt_goto (tgt := 32) X dX7_signs_28 (by decide) ?_
      exact xt_zret X (Or.inr rfl) h dX7_signs_32
    · have h := h.2 hc
      refine xt_al X dX7_signs_16 rfl 0 rfl ?_
      refine xt_al X dX7_signs_17 rfl 0 rfl ?_
      refine gfX7_141 X k0 dX7_signs_18 (fun r_4 => ?_)
      refine xt_cVI X [iV (M_2 v0 10)] [] (ctX7_fails hG k0 r_4 h) gdX7_147 pdX7_fails ⟨rfl, rfl⟩ ⟨Nat.le_of_ble_eq_true rfl, Nat.le_of_ble_eq_true rfl⟩ rfl (k_lt k0 (by decide)) (by rw [k0]; rfl) rfl (Nat.le_of_ble_eq_true rfl) dX7_signs_21 (fun z_5 M_6 z_5r h => ?_)
      refine xt_zeq (tgt := 31) X z_5r dX7_signs_24 (by decide) (fun hc => ?_) (fun hc => ?_)
      · have h := h.1 hc
        refine xt_perm (lv2 := []) [] rfl ?_
        exact jX7_signs_31 X   h
      · have h := h.2 hc
        refine xt_ic X dX7_signs_27 ?_
        refine xt_goto (tgt := 32) X dX7_signs_28 (by decide) ?_
        exact xt_zret X (Or.inr rfl) h dX7_signs_32
abbrev rmX7_aligned : Room := { frames := 3, cells := 0, slots := 0, locals := 65 }
def JX7_aligned_31  (Q : Int → Mm → Prop)  (M : Mm) : Prop :=
  Q 0 M
def PX7_aligned (v0 : Int) (M : Mm) (Q : Int → Mm → Prop) : Prop :=
  (PX7_word v0 M (fun z_1 M_2 =>
  ((z_1 = 0 → JX7_aligned_31  Q M_2) ∧
  (¬ z_1 = 0 → (PX7_way v0 M_2 (fun z_3 M_4 =>
  ((z_3 = ((-9)) → (PX7_fails v0 (M_4 v0 10) M_4 (fun z_6 M_7 =>
  ((z_6 = 0 → JX7_aligned_31  Q M_7) ∧
  (¬ z_6 = 0 → Q 1 M_7))))) ∧
  (¬ z_3 = ((-9)) → Q 1 M_4))))))))
set_option maxHeartbeats 4000000 in
set_option maxRecDepth 100000 in
theorem jX7_aligned_31 {p : Program} {l : Launch} {e : Env} {s : State} {m : MethodId} {args : Array Value} {below : List Frame} {meth : Method} {c : Code} {G : GG} (X : Cx p s m args meth c cX7_aligned 1 ((some FieldType.boolean)) RX7 G) {Q : Int → Mm → Prop}     {M : Mm} (h : JX7_aligned_31  Q  M) : Wt p l e rmX7_aligned s m args below meth c G (MQ below (PostI G Q) args s 0 0 (gA G)) 1 M [] 31 [] := by
  have hG := X.2.2.2.2.2.2.2.2
  unfold JX7_aligned_31 at h
  refine xt_ic X dX7_aligned_31 ?_
  exact xt_zret X (Or.inl rfl) h dX7_aligned_32
set_option maxHeartbeats 4000000 in
set_option maxRecDepth 100000 in
theorem ctX7_aligned {l : Launch} {G : GG} (hG : Gd G) {v0 : Int} {M : Mm} {Q : Int → Mm → Prop} (k0 : gK G v0 = (7, 0)) (h : PX7_aligned v0 M Q) : Met l yX7_aligned (Cond.code yX7_aligned cX7_aligned 1 ((some FieldType.boolean)) :: tw) rmX7_aligned (Pre G M [rV (v0)]) (PostI G Q) 0 0 (gA G) := by
  refine met_of (own := RX7) (by decide) rfl hG (Nat.le_of_ble_eq_true rfl) (fun p e s m below meth c X => ?_)
  generalize hargs : ([rV (v0)] : List Value).toArray = args at X ⊢
  show Wt p l e rmX7_aligned s m args below meth c G (MQ below (PostI G Q) args s 0 0 (gA G)) 1 M [(0, rV (v0))] 0 []
  unfold PX7_aligned at h
  refine xt_al X dX7_aligned_0 rfl 0 rfl ?_
  refine xt_cVI X [] [] (ctX7_word hG k0 h) gdX7_154 pdX7_word ⟨rfl, rfl⟩ ⟨Nat.le_of_ble_eq_true rfl, Nat.le_of_ble_eq_true rfl⟩ rfl (k_lt k0 (by decide)) (by rw [k0]; rfl) rfl (Nat.le_of_ble_eq_true rfl) dX7_aligned_1 (fun z_1 M_2 z_1r h => ?_)
  refine xt_zeq (tgt := 31) X z_1r dX7_aligned_4 (by decide) (fun hc => ?_) (fun hc => ?_)
  · have h := h.1 hc
    refine xt_perm (lv2 := []) [] rfl ?_
    exact jX7_aligned_31 X   h
  · have h := h.2 hc
    refine xt_al X dX7_aligned_7 rfl 0 rfl ?_
    refine xt_cVI X [] [] (ctX7_way hG k0 h) gdX7_161 pdX7_way ⟨rfl, rfl⟩ ⟨Nat.le_of_ble_eq_true rfl, Nat.le_of_ble_eq_true rfl⟩ rfl (k_lt k0 (by decide)) (by rw [k0]; rfl) rfl (Nat.le_of_ble_eq_true rfl) dX7_aligned_8 (fun z_3 M_4 z_3r h => ?_)
    refine xt_bi X dX7_aligned_11 (by decide) ?_
    refine xt_cne (tgt := 27) X z_3r (i_rc (-9) rfl) dX7_aligned_13 (by decide) (fun hc => ?_) (fun hc => ?_)
    · have h := h.2 hc
      refine xt_ic X dX7_aligned_27 ?_
      refine xt_goto (tgt := 32) X dX7_aligned_28 (by decide) ?_
      exact xt_zret X (Or.inr rfl) h dX7_aligned_32
    · have h := h.1 hc
      refine xt_al X dX7_aligned_16 rfl 0 rfl ?_
      refine xt_al X dX7_aligned_17 rfl 0 rfl ?_
      refine gfX7_141 X k0 dX7_aligned_18 (fun r_5 => ?_)
      refine xt_cVI X [iV (M_4 v0 10)] [] (ctX7_fails hG k0 r_5 h) gdX7_147 pdX7_fails ⟨rfl, rfl⟩ ⟨Nat.le_of_ble_eq_true rfl, Nat.le_of_ble_eq_true rfl⟩ rfl (k_lt k0 (by decide)) (by rw [k0]; rfl) rfl (Nat.le_of_ble_eq_true rfl) dX7_aligned_21 (fun z_6 M_7 z_6r h => ?_)
      refine xt_zeq (tgt := 31) X z_6r dX7_aligned_24 (by decide) (fun hc => ?_) (fun hc => ?_)
      · have h := h.1 hc
        refine xt_perm (lv2 := []) [] rfl ?_
        exact jX7_aligned_31 X   h
      · have h := h.2 hc
        refine xt_ic X dX7_aligned_27 ?_
        refine xt_goto (tgt := 32) X dX7_aligned_28 (by decide) ?_
        exact xt_zret X (Or.inr rfl) h dX7_aligned_32
abbrev rmX7_stops : Room := { frames := 1, cells := 0, slots := 0, locals := 21 }
def JX7_stops_33  (Q : Int → Mm → Prop) (v0 : Int) (M : Mm) : Prop :=
  (((0 : Int) = 0 → (PX7_fails v0 (M v0 9) M (fun z_9 M_10 =>
  ((z_9 = 0 ∨ z_9 = 1) ∧
  Q z_9 M_10)))) ∧
  (¬ (0 : Int) = 0 → (inR ((M v0 9) + 1) ∧
  (∀ M_6 : Mm, M_6 = um M v0 9 ((M v0 9) + 1) →
  Q 1 M_6))))
def PX7_stops (v0 : Int) (M : Mm) (Q : Int → Mm → Prop) : Prop :=
  (PX7_blanks v0 M (fun M_2 =>
  (((M_2 v0 7) ≤ (M_2 v0 9) → JX7_stops_33  Q v0 M_2) ∧
  (¬ (M_2 v0 7) ≤ (M_2 v0 9) → ((0 ≤ (M_2 v0 9) ∧ (M_2 v0 9) < 150) ∧
  (((M_2 (v0 + 5) (M_2 v0 9)) = 59 → (((1 : Int) = 0 → (PX7_fails v0 (M_2 v0 9) M_2 (fun z_19 M_20 =>
  ((z_19 = 0 ∨ z_19 = 1) ∧
  Q z_19 M_20)))) ∧
  (¬ (1 : Int) = 0 → (inR ((M_2 v0 9) + 1) ∧
  (∀ M_16 : Mm, M_16 = um M_2 v0 9 ((M_2 v0 9) + 1) →
  Q 1 M_16))))) ∧
  (¬ (M_2 (v0 + 5) (M_2 v0 9)) = 59 → JX7_stops_33  Q v0 M_2)))))))
set_option maxHeartbeats 4000000 in
set_option maxRecDepth 100000 in
theorem jX7_stops_33 {p : Program} {l : Launch} {e : Env} {s : State} {m : MethodId} {args : Array Value} {below : List Frame} {meth : Method} {c : Code} {G : GG} (X : Cx p s m args meth c cX7_stops 2 ((some FieldType.boolean)) RX7 G) {Q : Int → Mm → Prop}  {v0 : Int}  (k0 : gK G v0 = (7, 0)) {M : Mm} (h : JX7_stops_33  Q v0 M) : Wt p l e rmX7_stops s m args below meth c G (MQ below (PostI G Q) args s 0 0 (gA G)) 2 M [(0, rV (v0))] 33 [] := by
  have hG := X.2.2.2.2.2.2.2.2
  unfold JX7_stops_33 at h
  refine xt_ic X dX7_stops_33 ?_
  refine xt_is (lv2 := [(1, iV (0)), (0, rV (v0))]) X dX7_stops_34 rfl (by decide) rfl ?_
  refine xt_il X dX7_stops_35 rfl 0 rfl ?_
  refine xt_zne (tgt := 48) X (i_rc 0 rfl) dX7_stops_36 (by decide) (fun hc => ?_) (fun hc => ?_)
  · have h := h.2 hc
    refine xt_al X dX7_stops_48 rfl 1 rfl ?_
    refine xt_dup X rfl dX7_stops_49 ?_
    refine gfX7_132 X k0 dX7_stops_50 (fun r_5 => ?_)
    refine xt_ic X dX7_stops_53 ?_
    refine xt_add X dX7_stops_54 ?_
    obtain ⟨g_7, h⟩ := h
    refine pfX7_132 X k0 g_7 dX7_stops_55 (fun M_6 hm => ?_)
    have h := h M_6 hm
    refine xt_ic X dX7_stops_58 ?_
    exact xt_zret X (Or.inr rfl) h dX7_stops_59
  · have h := h.1 hc
    refine xt_al X dX7_stops_39 rfl 1 rfl ?_
    refine xt_al X dX7_stops_40 rfl 1 rfl ?_
    refine gfX7_132 X k0 dX7_stops_41 (fun r_8 => ?_)
    refine xt_cVI X [iV (M v0 9)] [] (ctX7_fails hG k0 r_8 h) gdX7_147 pdX7_fails ⟨rfl, rfl⟩ ⟨Nat.le_of_ble_eq_true rfl, Nat.le_of_ble_eq_true rfl⟩ rfl (k_lt k0 (by decide)) (by rw [k0]; rfl) rfl (Nat.le_of_ble_eq_true rfl) dX7_stops_44 (fun z_9 M_10 z_9r h => ?_)
    obtain ⟨g_11, h⟩ := h
    exact xt_zret X g_11 h dX7_stops_47
set_option maxHeartbeats 4000000 in
set_option maxRecDepth 100000 in
theorem ctX7_stops {l : Launch} {G : GG} (hG : Gd G) {v0 : Int} {M : Mm} {Q : Int → Mm → Prop} (k0 : gK G v0 = (7, 0)) (h : PX7_stops v0 M Q) : Met l yX7_stops (Cond.code yX7_stops cX7_stops 2 ((some FieldType.boolean)) :: tw) rmX7_stops (Pre G M [rV (v0)]) (PostI G Q) 0 0 (gA G) := by
  refine met_of (own := RX7) (by decide) rfl hG (Nat.le_of_ble_eq_true rfl) (fun p e s m below meth c X => ?_)
  generalize hargs : ([rV (v0)] : List Value).toArray = args at X ⊢
  show Wt p l e rmX7_stops s m args below meth c G (MQ below (PostI G Q) args s 0 0 (gA G)) 2 M [(0, rV (v0))] 0 []
  unfold PX7_stops at h
  refine xt_al X dX7_stops_0 rfl 0 rfl ?_
  refine xt_cVV X [] [] (ctX7_blanks hG k0 h) gdX7_138 pdX7_blanks ⟨rfl, rfl⟩ ⟨Nat.le_of_ble_eq_true rfl, Nat.le_of_ble_eq_true rfl⟩ rfl (k_lt k0 (by decide)) (by rw [k0]; rfl) rfl (Nat.le_of_ble_eq_true rfl) dX7_stops_1 (fun M_2 h => ?_)
  refine xt_al X dX7_stops_4 rfl 0 rfl ?_
  refine gfX7_132 X k0 dX7_stops_5 (fun r_3 => ?_)
  refine xt_al X dX7_stops_8 rfl 0 rfl ?_
  refine gfX7_129 X k0 dX7_stops_9 (fun r_4 => ?_)
  refine xt_cge (tgt := 33) X r_3 r_4 dX7_stops_12 (by decide) (fun hc => ?_) (fun hc => ?_)
  · have h := h.1 hc
    exact jX7_stops_33 X  k0 h
  · have h := h.2 hc
    refine xt_al X dX7_stops_15 rfl 0 rfl ?_
    refine gfX7_22 X k0 dX7_stops_16 ?_
    refine xt_al X dX7_stops_19 rfl 0 rfl ?_
    refine gfX7_132 X k0 dX7_stops_20 (fun r_12 => ?_)
    obtain ⟨g_13, h⟩ := h
    refine xt_iald X (kd_X7_8 hG k0) g_13 (by decide) dX7_stops_23 (fun r_14 => ?_)
    refine xt_bi X dX7_stops_24 (by decide) ?_
    refine xt_cne (tgt := 33) X r_14 (i_rc 59 rfl) dX7_stops_26 (by decide) (fun hc => ?_) (fun hc => ?_)
    · have h := h.2 hc
      exact jX7_stops_33 X  k0 h
    · have h := h.1 hc
      refine xt_ic X dX7_stops_29 ?_
      refine xt_goto (tgt := 34) X dX7_stops_30 (by decide) ?_
      refine xt_is (lv2 := [(1, iV (1)), (0, rV (v0))]) X dX7_stops_34 rfl (by decide) rfl ?_
      refine xt_il X dX7_stops_35 rfl 0 rfl ?_
      refine xt_zne (tgt := 48) X (i_rc 1 rfl) dX7_stops_36 (by decide) (fun hc => ?_) (fun hc => ?_)
      · have h := h.2 hc
        refine xt_al X dX7_stops_48 rfl 1 rfl ?_
        refine xt_dup X rfl dX7_stops_49 ?_
        refine gfX7_132 X k0 dX7_stops_50 (fun r_15 => ?_)
        refine xt_ic X dX7_stops_53 ?_
        refine xt_add X dX7_stops_54 ?_
        obtain ⟨g_17, h⟩ := h
        refine pfX7_132 X k0 g_17 dX7_stops_55 (fun M_16 hm => ?_)
        have h := h M_16 hm
        refine xt_ic X dX7_stops_58 ?_
        exact xt_zret X (Or.inr rfl) h dX7_stops_59
      · have h := h.1 hc
        refine xt_al X dX7_stops_39 rfl 1 rfl ?_
        refine xt_al X dX7_stops_40 rfl 1 rfl ?_
        refine gfX7_132 X k0 dX7_stops_41 (fun r_18 => ?_)
        refine xt_cVI X [iV (M_2 v0 9)] [] (ctX7_fails hG k0 r_18 h) gdX7_147 pdX7_fails ⟨rfl, rfl⟩ ⟨Nat.le_of_ble_eq_true rfl, Nat.le_of_ble_eq_true rfl⟩ rfl (k_lt k0 (by decide)) (by rw [k0]; rfl) rfl (Nat.le_of_ble_eq_true rfl) dX7_stops_44 (fun z_19 M_20 z_19r h => ?_)
        obtain ⟨g_21, h⟩ := h
        exact xt_zret X g_21 h dX7_stops_47
abbrev rmX7_reads : Room := { frames := 4, cells := 0, slots := 0, locals := 85 }
def JX7_reads_159  (Q : Int → Mm → Prop)  (M : Mm) : Prop :=
  Q 0 M
def JX7_reads_93  (Q : Int → Mm → Prop) (v0 : Int) (M : Mm) : Prop :=
  (((M v0 14) = 0 → (PX7_signs v0 M (fun z_31 M_32 =>
  ((z_31 = 0 → JX7_reads_159  Q M_32) ∧
  (¬ z_31 = 0 → (PX7_stops v0 M_32 (fun z_33 M_34 =>
  ((z_33 = 0 → JX7_reads_159  Q M_34) ∧
  (¬ z_33 = 0 → Q 1 M_34))))))))) ∧
  (¬ (M v0 14) = 0 → (((M v0 14) = 4 → (PX7_sign v0 M (fun z_27 M_28 =>
  ((z_27 = 0 → JX7_reads_159  Q M_28) ∧
  (¬ z_27 = 0 → (PX7_stops v0 M_28 (fun z_29 M_30 =>
  ((z_29 = 0 → JX7_reads_159  Q M_30) ∧
  (¬ z_29 = 0 → Q 1 M_30))))))))) ∧
  (¬ (M v0 14) = 4 → (((M v0 14) = 6 → (PX7_aligned v0 M (fun z_21 M_22 =>
  ((z_21 = 0 → (((0 : Int) = 0 → JX7_reads_159  Q M_22) ∧
  (¬ (0 : Int) = 0 → (PX7_stops v0 M_22 (fun z_23 M_24 =>
  ((z_23 = 0 → JX7_reads_159  Q M_24) ∧
  (¬ z_23 = 0 → Q 1 M_24))))))) ∧
  (¬ z_21 = 0 → (((1 : Int) = 0 → JX7_reads_159  Q M_22) ∧
  (¬ (1 : Int) = 0 → (PX7_stops v0 M_22 (fun z_25 M_26 =>
  ((z_25 = 0 → JX7_reads_159  Q M_26) ∧
  (¬ z_25 = 0 → Q 1 M_26))))))))))) ∧
  (¬ (M v0 14) = 6 → (((1 : Int) = 0 → JX7_reads_159  Q M) ∧
  (¬ (1 : Int) = 0 → (PX7_stops v0 M (fun z_19 M_20 =>
  ((z_19 = 0 → JX7_reads_159  Q M_20) ∧
  (¬ z_19 = 0 → Q 1 M_20))))))))))))
def JX7_reads_76  (Q : Int → Mm → Prop) (v0 : Int) (M : Mm) : Prop :=
  (PX7_number v0 M (fun z_12 M_13 =>
  ((z_12 = 0 → Q 0 M_13) ∧
  (¬ z_12 = 0 → (∀ M_15 : Mm, M_15 = um M_13 v0 16 (M_13 v0 13) →
  JX7_reads_93  Q v0 M_15)))))
def PX7_reads (v0 : Int) (M : Mm) (Q : Int → Mm → Prop) : Prop :=
  (PX7_word v0 M (fun z_1 M_2 =>
  ((z_1 = 0 → Q 0 M_2) ∧
  (¬ z_1 = 0 → (PX7_command v0 M_2 (fun z_3 M_4 =>
  (∀ M_5 : Mm, M_5 = um M_4 v0 14 z_3 →
  (((M_5 v0 14) = ((-9)) → (PX7_fails v0 (M_5 v0 10) M_5 (fun z_38 M_39 =>
  ((z_38 = 0 ∨ z_38 = 1) ∧
  Q z_38 M_39)))) ∧
  (¬ (M_5 v0 14) = ((-9)) → (PX7_number v0 M_5 (fun z_7 M_8 =>
  ((z_7 = 0 → Q 0 M_8) ∧
  (¬ z_7 = 0 → (∀ M_10 : Mm, M_10 = um M_8 v0 15 (M_8 v0 13) →
  (((M_10 v0 14) = 2 → JX7_reads_76  Q v0 M_10) ∧
  (¬ (M_10 v0 14) = 2 → (((M_10 v0 14) = 4 → JX7_reads_76  Q v0 M_10) ∧
  (¬ (M_10 v0 14) = 4 → (((M_10 v0 14) = 5 → JX7_reads_76  Q v0 M_10) ∧
  (¬ (M_10 v0 14) = 5 → JX7_reads_93  Q v0 M_10))))))))))))))))))))
set_option maxHeartbeats 4000000 in
set_option maxRecDepth 100000 in
theorem jX7_reads_159 {p : Program} {l : Launch} {e : Env} {s : State} {m : MethodId} {args : Array Value} {below : List Frame} {meth : Method} {c : Code} {G : GG} (X : Cx p s m args meth c cX7_reads 2 ((some FieldType.boolean)) RX7 G) {Q : Int → Mm → Prop}     {M : Mm} (h : JX7_reads_159  Q  M) : Wt p l e rmX7_reads s m args below meth c G (MQ below (PostI G Q) args s 0 0 (gA G)) 2 M [] 159 [] := by
  have hG := X.2.2.2.2.2.2.2.2
  unfold JX7_reads_159 at h
  refine xt_ic X dX7_reads_159 ?_
  exact xt_zret X (Or.inl rfl) h dX7_reads_160
set_option maxHeartbeats 4000000 in
set_option maxRecDepth 100000 in
theorem jX7_reads_93 {p : Program} {l : Launch} {e : Env} {s : State} {m : MethodId} {args : Array Value} {below : List Frame} {meth : Method} {c : Code} {G : GG} (X : Cx p s m args meth c cX7_reads 2 ((some FieldType.boolean)) RX7 G) {Q : Int → Mm → Prop}  {v0 : Int}  (k0 : gK G v0 = (7, 0)) {M : Mm} (h : JX7_reads_93  Q v0 M) : Wt p l e rmX7_reads s m args below meth c G (MQ below (PostI G Q) args s 0 0 (gA G)) 2 M [(0, rV (v0))] 93 [] := by
  have hG := X.2.2.2.2.2.2.2.2
  unfold JX7_reads_93 at h
  refine xt_al X dX7_reads_93 rfl 0 rfl ?_
  refine gfX7_167 X k0 dX7_reads_94 (fun r_16 => ?_)
  refine xt_zne (tgt := 107) X r_16 dX7_reads_97 (by decide) (fun hc => ?_) (fun hc => ?_)
  · have h := h.2 hc
    refine xt_al X dX7_reads_107 rfl 0 rfl ?_
    refine gfX7_167 X k0 dX7_reads_108 (fun r_17 => ?_)
    refine xt_ic X dX7_reads_111 ?_
    refine xt_cne (tgt := 122) X r_17 (i_rc 4 rfl) dX7_reads_112 (by decide) (fun hc => ?_) (fun hc => ?_)
    · have h := h.2 hc
      refine xt_al X dX7_reads_122 rfl 0 rfl ?_
      refine gfX7_167 X k0 dX7_reads_123 (fun r_18 => ?_)
      refine xt_bi X dX7_reads_126 (by decide) ?_
      refine xt_cne (tgt := 138) X r_18 (i_rc 6 rfl) dX7_reads_128 (by decide) (fun hc => ?_) (fun hc => ?_)
      · have h := h.2 hc
        refine xt_ic X dX7_reads_138 ?_
        refine xt_goto (tgt := 143) X dX7_reads_139 (by decide) ?_
        refine xt_is (lv2 := [(1, iV (1)), (0, rV (v0))]) X dX7_reads_143 rfl (by decide) rfl ?_
        refine xt_il X dX7_reads_144 rfl 0 rfl ?_
        refine xt_zeq (tgt := 159) X (i_rc 1 rfl) dX7_reads_145 (by decide) (fun hc => ?_) (fun hc => ?_)
        · have h := h.1 hc
          refine xt_perm (lv2 := []) [] rfl ?_
          exact jX7_reads_159 X   h
        · have h := h.2 hc
          refine xt_al X dX7_reads_148 rfl 1 rfl ?_
          refine xt_cVI X [] [] (ctX7_stops hG k0 h) gdX7_188 pdX7_stops ⟨rfl, rfl⟩ ⟨Nat.le_of_ble_eq_true rfl, Nat.le_of_ble_eq_true rfl⟩ rfl (k_lt k0 (by decide)) (by rw [k0]; rfl) rfl (Nat.le_of_ble_eq_true rfl) dX7_reads_149 (fun z_19 M_20 z_19r h => ?_)
          refine xt_zeq (tgt := 159) X z_19r dX7_reads_152 (by decide) (fun hc => ?_) (fun hc => ?_)
          · have h := h.1 hc
            refine xt_perm (lv2 := []) [] rfl ?_
            exact jX7_reads_159 X   h
          · have h := h.2 hc
            refine xt_ic X dX7_reads_155 ?_
            refine xt_goto (tgt := 160) X dX7_reads_156 (by decide) ?_
            exact xt_zret X (Or.inr rfl) h dX7_reads_160
      · have h := h.1 hc
        refine xt_al X dX7_reads_131 rfl 0 rfl ?_
        refine xt_cVI X [] [] (ctX7_aligned hG k0 h) gdX7_185 pdX7_aligned ⟨rfl, rfl⟩ ⟨Nat.le_of_ble_eq_true rfl, Nat.le_of_ble_eq_true rfl⟩ rfl (k_lt k0 (by decide)) (by rw [k0]; rfl) rfl (Nat.le_of_ble_eq_true rfl) dX7_reads_132 (fun z_21 M_22 z_21r h => ?_)
        refine xt_zeq (tgt := 142) X z_21r dX7_reads_135 (by decide) (fun hc => ?_) (fun hc => ?_)
        · have h := h.1 hc
          refine xt_ic X dX7_reads_142 ?_
          refine xt_is (lv2 := [(1, iV (0)), (0, rV (v0))]) X dX7_reads_143 rfl (by decide) rfl ?_
          refine xt_il X dX7_reads_144 rfl 0 rfl ?_
          refine xt_zeq (tgt := 159) X (i_rc 0 rfl) dX7_reads_145 (by decide) (fun hc => ?_) (fun hc => ?_)
          · have h := h.1 hc
            refine xt_perm (lv2 := []) [] rfl ?_
            exact jX7_reads_159 X   h
          · have h := h.2 hc
            refine xt_al X dX7_reads_148 rfl 1 rfl ?_
            refine xt_cVI X [] [] (ctX7_stops hG k0 h) gdX7_188 pdX7_stops ⟨rfl, rfl⟩ ⟨Nat.le_of_ble_eq_true rfl, Nat.le_of_ble_eq_true rfl⟩ rfl (k_lt k0 (by decide)) (by rw [k0]; rfl) rfl (Nat.le_of_ble_eq_true rfl) dX7_reads_149 (fun z_23 M_24 z_23r h => ?_)
            refine xt_zeq (tgt := 159) X z_23r dX7_reads_152 (by decide) (fun hc => ?_) (fun hc => ?_)
            · have h := h.1 hc
              refine xt_perm (lv2 := []) [] rfl ?_
              exact jX7_reads_159 X   h
            · have h := h.2 hc
              refine xt_ic X dX7_reads_155 ?_
              refine xt_goto (tgt := 160) X dX7_reads_156 (by decide) ?_
              exact xt_zret X (Or.inr rfl) h dX7_reads_160
        · have h := h.2 hc
          refine xt_ic X dX7_reads_138 ?_
          refine xt_goto (tgt := 143) X dX7_reads_139 (by decide) ?_
          refine xt_is (lv2 := [(1, iV (1)), (0, rV (v0))]) X dX7_reads_143 rfl (by decide) rfl ?_
          refine xt_il X dX7_reads_144 rfl 0 rfl ?_
          refine xt_zeq (tgt := 159) X (i_rc 1 rfl) dX7_reads_145 (by decide) (fun hc => ?_) (fun hc => ?_)
          · have h := h.1 hc
            refine xt_perm (lv2 := []) [] rfl ?_
            exact jX7_reads_159 X   h
          · have h := h.2 hc
            refine xt_al X dX7_reads_148 rfl 1 rfl ?_
            refine xt_cVI X [] [] (ctX7_stops hG k0 h) gdX7_188 pdX7_stops ⟨rfl, rfl⟩ ⟨Nat.le_of_ble_eq_true rfl, Nat.le_of_ble_eq_true rfl⟩ rfl (k_lt k0 (by decide)) (by rw [k0]; rfl) rfl (Nat.le_of_ble_eq_true rfl) dX7_reads_149 (fun z_25 M_26 z_25r h => ?_)
            refine xt_zeq (tgt := 159) X z_25r dX7_reads_152 (by decide) (fun hc => ?_) (fun hc => ?_)
            · have h := h.1 hc
              refine xt_perm (lv2 := []) [] rfl ?_
              exact jX7_reads_159 X   h
            · have h := h.2 hc
              refine xt_ic X dX7_reads_155 ?_
              refine xt_goto (tgt := 160) X dX7_reads_156 (by decide) ?_
              exact xt_zret X (Or.inr rfl) h dX7_reads_160
    · have h := h.1 hc
      refine xt_al X dX7_reads_115 rfl 0 rfl ?_
      refine xt_cVI X [] [] (ctX7_sign hG k0 h) gdX7_182 pdX7_sign ⟨rfl, rfl⟩ ⟨Nat.le_of_ble_eq_true rfl, Nat.le_of_ble_eq_true rfl⟩ rfl (k_lt k0 (by decide)) (by rw [k0]; rfl) rfl (Nat.le_of_ble_eq_true rfl) dX7_reads_116 (fun z_27 M_28 z_27r h => ?_)
      refine xt_goto (tgt := 143) X dX7_reads_119 (by decide) ?_
      refine xt_is (lv2 := [(1, iV (z_27)), (0, rV (v0))]) X dX7_reads_143 rfl (by decide) rfl ?_
      refine xt_il X dX7_reads_144 rfl 0 rfl ?_
      refine xt_zeq (tgt := 159) X z_27r dX7_reads_145 (by decide) (fun hc => ?_) (fun hc => ?_)
      · have h := h.1 hc
        refine xt_perm (lv2 := []) [] rfl ?_
        exact jX7_reads_159 X   h
      · have h := h.2 hc
        refine xt_al X dX7_reads_148 rfl 1 rfl ?_
        refine xt_cVI X [] [] (ctX7_stops hG k0 h) gdX7_188 pdX7_stops ⟨rfl, rfl⟩ ⟨Nat.le_of_ble_eq_true rfl, Nat.le_of_ble_eq_true rfl⟩ rfl (k_lt k0 (by decide)) (by rw [k0]; rfl) rfl (Nat.le_of_ble_eq_true rfl) dX7_reads_149 (fun z_29 M_30 z_29r h => ?_)
        refine xt_zeq (tgt := 159) X z_29r dX7_reads_152 (by decide) (fun hc => ?_) (fun hc => ?_)
        · have h := h.1 hc
          refine xt_perm (lv2 := []) [] rfl ?_
          exact jX7_reads_159 X   h
        · have h := h.2 hc
          refine xt_ic X dX7_reads_155 ?_
          refine xt_goto (tgt := 160) X dX7_reads_156 (by decide) ?_
          exact xt_zret X (Or.inr rfl) h dX7_reads_160
  · have h := h.1 hc
    refine xt_al X dX7_reads_100 rfl 0 rfl ?_
    refine xt_cVI X [] [] (ctX7_signs hG k0 h) gdX7_179 pdX7_signs ⟨rfl, rfl⟩ ⟨Nat.le_of_ble_eq_true rfl, Nat.le_of_ble_eq_true rfl⟩ rfl (k_lt k0 (by decide)) (by rw [k0]; rfl) rfl (Nat.le_of_ble_eq_true rfl) dX7_reads_101 (fun z_31 M_32 z_31r h => ?_)
    refine xt_goto (tgt := 143) X dX7_reads_104 (by decide) ?_
    refine xt_is (lv2 := [(1, iV (z_31)), (0, rV (v0))]) X dX7_reads_143 rfl (by decide) rfl ?_
    refine xt_il X dX7_reads_144 rfl 0 rfl ?_
    refine xt_zeq (tgt := 159) X z_31r dX7_reads_145 (by decide) (fun hc => ?_) (fun hc => ?_)
    · have h := h.1 hc
      refine xt_perm (lv2 := []) [] rfl ?_
      exact jX7_reads_159 X   h
    · have h := h.2 hc
      refine xt_al X dX7_reads_148 rfl 1 rfl ?_
      refine xt_cVI X [] [] (ctX7_stops hG k0 h) gdX7_188 pdX7_stops ⟨rfl, rfl⟩ ⟨Nat.le_of_ble_eq_true rfl, Nat.le_of_ble_eq_true rfl⟩ rfl (k_lt k0 (by decide)) (by rw [k0]; rfl) rfl (Nat.le_of_ble_eq_true rfl) dX7_reads_149 (fun z_33 M_34 z_33r h => ?_)
      refine xt_zeq (tgt := 159) X z_33r dX7_reads_152 (by decide) (fun hc => ?_) (fun hc => ?_)
      · have h := h.1 hc
        refine xt_perm (lv2 := []) [] rfl ?_
        exact jX7_reads_159 X   h
      · have h := h.2 hc
        refine xt_ic X dX7_reads_155 ?_
        refine xt_goto (tgt := 160) X dX7_reads_156 (by decide) ?_
        exact xt_zret X (Or.inr rfl) h dX7_reads_160
set_option maxHeartbeats 4000000 in
set_option maxRecDepth 100000 in
theorem jX7_reads_76 {p : Program} {l : Launch} {e : Env} {s : State} {m : MethodId} {args : Array Value} {below : List Frame} {meth : Method} {c : Code} {G : GG} (X : Cx p s m args meth c cX7_reads 2 ((some FieldType.boolean)) RX7 G) {Q : Int → Mm → Prop}  {v0 : Int}  (k0 : gK G v0 = (7, 0)) {M : Mm} (h : JX7_reads_76  Q v0 M) : Wt p l e rmX7_reads s m args below meth c G (MQ below (PostI G Q) args s 0 0 (gA G)) 2 M [(0, rV (v0))] 76 [] := by
  have hG := X.2.2.2.2.2.2.2.2
  unfold JX7_reads_76 at h
  refine xt_al X dX7_reads_76 rfl 0 rfl ?_
  refine xt_cVI X [] [] (ctX7_number hG k0 h) gdX7_170 pdX7_number ⟨rfl, rfl⟩ ⟨Nat.le_of_ble_eq_true rfl, Nat.le_of_ble_eq_true rfl⟩ rfl (k_lt k0 (by decide)) (by rw [k0]; rfl) rfl (Nat.le_of_ble_eq_true rfl) dX7_reads_77 (fun z_12 M_13 z_12r h => ?_)
  refine xt_zne (tgt := 85) X z_12r dX7_reads_80 (by decide) (fun hc => ?_) (fun hc => ?_)
  · have h := h.2 hc
    refine xt_al X dX7_reads_85 rfl 0 rfl ?_
    refine xt_al X dX7_reads_86 rfl 0 rfl ?_
    refine gfX7_158 X k0 dX7_reads_87 (fun r_14 => ?_)
    refine pfX7_176 X k0 r_14 dX7_reads_90 (fun M_15 hm => ?_)
    have h := h M_15 hm
    exact jX7_reads_93 X  k0 h
  · have h := h.1 hc
    refine xt_ic X dX7_reads_83 ?_
    exact xt_zret X (Or.inl rfl) h dX7_reads_84
set_option maxHeartbeats 4000000 in
set_option maxRecDepth 100000 in
theorem ctX7_reads {l : Launch} {G : GG} (hG : Gd G) {v0 : Int} {M : Mm} {Q : Int → Mm → Prop} (k0 : gK G v0 = (7, 0)) (h : PX7_reads v0 M Q) : Met l yX7_reads (Cond.code yX7_reads cX7_reads 2 ((some FieldType.boolean)) :: tw) rmX7_reads (Pre G M [rV (v0)]) (PostI G Q) 0 0 (gA G) := by
  refine met_of (own := RX7) (by decide) rfl hG (Nat.le_of_ble_eq_true rfl) (fun p e s m below meth c X => ?_)
  generalize hargs : ([rV (v0)] : List Value).toArray = args at X ⊢
  show Wt p l e rmX7_reads s m args below meth c G (MQ below (PostI G Q) args s 0 0 (gA G)) 2 M [(0, rV (v0))] 0 []
  unfold PX7_reads at h
  refine xt_al X dX7_reads_0 rfl 0 rfl ?_
  refine xt_cVI X [] [] (ctX7_word hG k0 h) gdX7_154 pdX7_word ⟨rfl, rfl⟩ ⟨Nat.le_of_ble_eq_true rfl, Nat.le_of_ble_eq_true rfl⟩ rfl (k_lt k0 (by decide)) (by rw [k0]; rfl) rfl (Nat.le_of_ble_eq_true rfl) dX7_reads_1 (fun z_1 M_2 z_1r h => ?_)
  refine xt_zne (tgt := 9) X z_1r dX7_reads_4 (by decide) (fun hc => ?_) (fun hc => ?_)
  · have h := h.2 hc
    refine xt_al X dX7_reads_9 rfl 0 rfl ?_
    refine xt_al X dX7_reads_10 rfl 0 rfl ?_
    refine xt_cVI X [] [rV (v0)] (ctX7_command hG k0 h) gdX7_164 pdX7_command ⟨rfl, rfl⟩ ⟨Nat.le_of_ble_eq_true rfl, Nat.le_of_ble_eq_true rfl⟩ rfl (k_lt k0 (by decide)) (by rw [k0]; rfl) rfl (Nat.le_of_ble_eq_true rfl) dX7_reads_11 (fun z_3 M_4 z_3r h => ?_)
    refine pfX7_167 X k0 z_3r dX7_reads_14 (fun M_5 hm => ?_)
    have h := h M_5 hm
    refine xt_al X dX7_reads_17 rfl 0 rfl ?_
    refine gfX7_167 X k0 dX7_reads_18 (fun r_6 => ?_)
    refine xt_bi X dX7_reads_21 (by decide) ?_
    refine xt_cne (tgt := 35) X r_6 (i_rc (-9) rfl) dX7_reads_23 (by decide) (fun hc => ?_) (fun hc => ?_)
    · have h := h.2 hc
      refine xt_al X dX7_reads_35 rfl 0 rfl ?_
      refine xt_cVI X [] [] (ctX7_number hG k0 h) gdX7_170 pdX7_number ⟨rfl, rfl⟩ ⟨Nat.le_of_ble_eq_true rfl, Nat.le_of_ble_eq_true rfl⟩ rfl (k_lt k0 (by decide)) (by rw [k0]; rfl) rfl (Nat.le_of_ble_eq_true rfl) dX7_reads_36 (fun z_7 M_8 z_7r h => ?_)
      refine xt_zne (tgt := 44) X z_7r dX7_reads_39 (by decide) (fun hc => ?_) (fun hc => ?_)
      · have h := h.2 hc
        refine xt_al X dX7_reads_44 rfl 0 rfl ?_
        refine xt_al X dX7_reads_45 rfl 0 rfl ?_
        refine gfX7_158 X k0 dX7_reads_46 (fun r_9 => ?_)
        refine pfX7_173 X k0 r_9 dX7_reads_49 (fun M_10 hm => ?_)
        have h := h M_10 hm
        refine xt_al X dX7_reads_52 rfl 0 rfl ?_
        refine gfX7_167 X k0 dX7_reads_53 (fun r_11 => ?_)
        refine xt_ic X dX7_reads_56 ?_
        refine xt_ceq (tgt := 76) X r_11 (i_rc 2 rfl) dX7_reads_57 (by decide) (fun hc => ?_) (fun hc => ?_)
        · have h := h.1 hc
          exact jX7_reads_76 X  k0 h
        · have h := h.2 hc
          refine xt_al X dX7_reads_60 rfl 0 rfl ?_
          refine gfX7_167 X k0 dX7_reads_61 (fun r_35 => ?_)
          refine xt_ic X dX7_reads_64 ?_
          refine xt_ceq (tgt := 76) X r_35 (i_rc 4 rfl) dX7_reads_65 (by decide) (fun hc => ?_) (fun hc => ?_)
          · have h := h.1 hc
            exact jX7_reads_76 X  k0 h
          · have h := h.2 hc
            refine xt_al X dX7_reads_68 rfl 0 rfl ?_
            refine gfX7_167 X k0 dX7_reads_69 (fun r_36 => ?_)
            refine xt_ic X dX7_reads_72 ?_
            refine xt_cne (tgt := 93) X r_36 (i_rc 5 rfl) dX7_reads_73 (by decide) (fun hc => ?_) (fun hc => ?_)
            · have h := h.2 hc
              exact jX7_reads_93 X  k0 h
            · have h := h.1 hc
              exact jX7_reads_76 X  k0 h
      · have h := h.1 hc
        refine xt_ic X dX7_reads_42 ?_
        exact xt_zret X (Or.inl rfl) h dX7_reads_43
    · have h := h.1 hc
      refine xt_al X dX7_reads_26 rfl 0 rfl ?_
      refine xt_al X dX7_reads_27 rfl 0 rfl ?_
      refine gfX7_141 X k0 dX7_reads_28 (fun r_37 => ?_)
      refine xt_cVI X [iV (M_5 v0 10)] [] (ctX7_fails hG k0 r_37 h) gdX7_147 pdX7_fails ⟨rfl, rfl⟩ ⟨Nat.le_of_ble_eq_true rfl, Nat.le_of_ble_eq_true rfl⟩ rfl (k_lt k0 (by decide)) (by rw [k0]; rfl) rfl (Nat.le_of_ble_eq_true rfl) dX7_reads_31 (fun z_38 M_39 z_38r h => ?_)
      obtain ⟨g_40, h⟩ := h
      exact xt_zret X g_40 h dX7_reads_34
  · have h := h.1 hc
    refine xt_ic X dX7_reads_7 ?_
    exact xt_zret X (Or.inl rfl) h dX7_reads_8
abbrev rmX7_adds : Room := { frames := 9, cells := 0, slots := 0, locals := 214 }
def BX7_adds_72  (Q : Int → Mm → Prop) (v0 : Int) (v1 : Int) (rec : Int → Mm → Prop) (v2 : Int) (M : Mm) : Prop :=
  (((M v0 11) ≤ v2 → (PX7_ends v0 M (fun M_14 =>
  Q 1 M_14))) ∧
  (¬ (M v0 11) ≤ v2 → ((v1 = 0 → ((0 ≤ ((M v0 10) + v2) ∧ ((M v0 10) + v2) < 150) ∧
  (PX7_appends v0 (M v0 15) (M (v0 + 5) ((M v0 10) + v2)) M (fun M_22 =>
  (inR (v2 + 1) ∧
  rec (v2 + 1) M_22))))) ∧
  (¬ v1 = 0 → (PX7_ends v0 M (fun M_16 =>
  Q 1 M_16))))))
def JX7_adds_68  (Q : Int → Mm → Prop) (v0 : Int) (M : Mm) : Prop :=
  ∃ n_24 : Nat, lp_I (BX7_adds_72  Q v0 0) n_24 0 M
def PX7_adds (v0 : Int) (M : Mm) (Q : Int → Mm → Prop) : Prop :=
  (PX7_in (M v0 15) 0 (M (v0 + 1) 0) M (fun z_3 M_4 =>
  ((z_3 = 0 → Q ((-1)) M_4) ∧
  (¬ z_3 = 0 → (((M_4 (v0 + 1) 0) = 12 → Q ((-1)) M_4) ∧
  (¬ (M_4 (v0 + 1) 0) = 12 → (PX7_begins v0 M_4 (fun M_7 =>
  (PX7_opens v0 (M_7 v0 15) M_7 (fun M_10 =>
  (((M_10 v0 11) = 1 → ((0 ≤ (M_10 v0 10) ∧ (M_10 v0 10) < 150) ∧
  (((M_10 (v0 + 5) (M_10 v0 10)) = 45 → ∃ n_28 : Nat, lp_I (BX7_adds_72  Q v0 1) n_28 0 M_10) ∧
  (¬ (M_10 (v0 + 5) (M_10 v0 10)) = 45 → JX7_adds_68  Q v0 M_10)))) ∧
  (¬ (M_10 v0 11) = 1 → JX7_adds_68  Q v0 M_10))))))))))))
set_option maxHeartbeats 4000000 in
set_option maxRecDepth 100000 in
theorem wX7_adds_72 {p : Program} {l : Launch} {e : Env} {s : State} {m : MethodId} {args : Array Value} {below : List Frame} {meth : Method} {c : Code} {G : GG} (X : Cx p s m args meth c cX7_adds 3 ((some FieldType.int)) RX7 G) {Q : Int → Mm → Prop}  {v0 : Int} {v1 : Int} (k0 : gK G v0 = (7, 0)) (r1 : inR v1)  : ∀ (n : Nat) (v2 : Int) (M : Mm), inR v2 → lp_I (BX7_adds_72  Q v0 v1) n v2 M → Wt p l e rmX7_adds s m args below meth c G (MQ below (PostI G Q) args s 0 0 (gA G)) 3 M [(0, rV (v0)), (1, iV (v1)), (2, iV (v2))] 72 [] := by
  have hG := X.2.2.2.2.2.2.2.2
  intro n
  induction n with
  | zero => intro v2 M r2 h; exact h.elim
  | succ n ih =>
    intro v2 M r2 h
    have h : BX7_adds_72  Q v0 v1 (lp_I (BX7_adds_72  Q v0 v1) n) v2 M := h
    unfold BX7_adds_72 at h
    refine xt_il X dX7_adds_72 rfl 2 rfl ?_
    refine xt_al X dX7_adds_73 rfl 0 rfl ?_
    refine gfX7_144 X k0 dX7_adds_74 (fun r_12 => ?_)
    refine xt_cge (tgt := 109) X r2 r_12 dX7_adds_77 (by decide) (fun hc => ?_) (fun hc => ?_)
    · have h := h.1 hc
      refine xt_al X dX7_adds_109 rfl 0 rfl ?_
      refine xt_cVV X [] [] (ctX7_ends hG k0 h) gdX7_115 pdX7_ends ⟨rfl, rfl⟩ ⟨Nat.le_of_ble_eq_true rfl, Nat.le_of_ble_eq_true rfl⟩ rfl (k_lt k0 (by decide)) (by rw [k0]; rfl) rfl (Nat.le_of_ble_eq_true rfl) dX7_adds_110 (fun M_14 h => ?_)
      refine xt_ic X dX7_adds_113 ?_
      exact xt_iret X (i_rc 1 rfl) h dX7_adds_114
    · have h := h.2 hc
      refine xt_il X dX7_adds_80 rfl 1 rfl ?_
      refine xt_zne (tgt := 109) X r1 dX7_adds_81 (by decide) (fun hc => ?_) (fun hc => ?_)
      · have h := h.2 hc
        refine xt_al X dX7_adds_109 rfl 0 rfl ?_
        refine xt_cVV X [] [] (ctX7_ends hG k0 h) gdX7_115 pdX7_ends ⟨rfl, rfl⟩ ⟨Nat.le_of_ble_eq_true rfl, Nat.le_of_ble_eq_true rfl⟩ rfl (k_lt k0 (by decide)) (by rw [k0]; rfl) rfl (Nat.le_of_ble_eq_true rfl) dX7_adds_110 (fun M_16 h => ?_)
        refine xt_ic X dX7_adds_113 ?_
        exact xt_iret X (i_rc 1 rfl) h dX7_adds_114
      · have h := h.1 hc
        refine xt_al X dX7_adds_84 rfl 0 rfl ?_
        refine xt_al X dX7_adds_85 rfl 0 rfl ?_
        refine gfX7_173 X k0 dX7_adds_86 (fun r_17 => ?_)
        refine xt_al X dX7_adds_89 rfl 0 rfl ?_
        refine gfX7_22 X k0 dX7_adds_90 ?_
        refine xt_al X dX7_adds_93 rfl 0 rfl ?_
        refine gfX7_141 X k0 dX7_adds_94 (fun r_18 => ?_)
        refine xt_il X dX7_adds_97 rfl 2 rfl ?_
        refine xt_add X dX7_adds_98 ?_
        obtain ⟨g_19, h⟩ := h
        refine xt_iald X (kd_X7_8 hG k0) g_19 (by decide) dX7_adds_99 (fun r_20 => ?_)
        refine xt_cVV X [iV (M v0 15), iV (M (v0 + 5) ((M v0 10) + v2))] [] (ctX7_appends hG k0 r_17 r_20 h) gdX7_122 pdX7_appends ⟨rfl, rfl⟩ ⟨Nat.le_of_ble_eq_true rfl, Nat.le_of_ble_eq_true rfl⟩ rfl (k_lt k0 (by decide)) (by rw [k0]; rfl) rfl (Nat.le_of_ble_eq_true rfl) dX7_adds_100 (fun M_22 h => ?_)
        refine xt_inc (lv2 := [(2, iV (v2 + 1)), (0, rV (v0)), (1, iV (v1))]) X dX7_adds_103 2 rfl (by decide) rfl ?_
        refine xt_goto (tgt := 72) X dX7_adds_106 (by decide) ?_
        obtain ⟨g_23, h⟩ := h
        refine xt_perm (lv2 := [(0, rV (v0)), (1, iV (v1)), (2, iV (v2 + 1))]) [1, 2, 0] rfl ?_
        exact ih (v2 + 1) M_22 g_23 h
set_option maxHeartbeats 4000000 in
set_option maxRecDepth 100000 in
theorem jX7_adds_68 {p : Program} {l : Launch} {e : Env} {s : State} {m : MethodId} {args : Array Value} {below : List Frame} {meth : Method} {c : Code} {G : GG} (X : Cx p s m args meth c cX7_adds 3 ((some FieldType.int)) RX7 G) {Q : Int → Mm → Prop}  {v0 : Int}  (k0 : gK G v0 = (7, 0)) {M : Mm} (h : JX7_adds_68  Q v0 M) : Wt p l e rmX7_adds s m args below meth c G (MQ below (PostI G Q) args s 0 0 (gA G)) 3 M [(0, rV (v0))] 68 [] := by
  have hG := X.2.2.2.2.2.2.2.2
  unfold JX7_adds_68 at h
  refine xt_ic X dX7_adds_68 ?_
  refine xt_is (lv2 := [(1, iV (0)), (0, rV (v0))]) X dX7_adds_69 rfl (by decide) rfl ?_
  refine xt_ic X dX7_adds_70 ?_
  refine xt_is (lv2 := [(2, iV (0)), (1, iV (0)), (0, rV (v0))]) X dX7_adds_71 rfl (by decide) rfl ?_
  obtain ⟨n_24, h⟩ := h
  refine xt_perm (lv2 := [(0, rV (v0)), (1, iV (0)), (2, iV (0))]) [2, 1, 0] rfl ?_
  refine wX7_adds_72 X k0 (i_rc 0 rfl)  n_24 0 M (i_rc 0 rfl) h
set_option maxHeartbeats 4000000 in
set_option maxRecDepth 100000 in
theorem ctX7_adds {l : Launch} {G : GG} (hG : Gd G) {v0 : Int} {M : Mm} {Q : Int → Mm → Prop} (k0 : gK G v0 = (7, 0)) (h : PX7_adds v0 M Q) : Met l yX7_adds (Cond.code yX7_adds cX7_adds 3 ((some FieldType.int)) :: tw) rmX7_adds (Pre G M [rV (v0)]) (PostI G Q) 0 0 (gA G) := by
  refine met_of (own := RX7) (by decide) rfl hG (Nat.le_of_ble_eq_true rfl) (fun p e s m below meth c X => ?_)
  generalize hargs : ([rV (v0)] : List Value).toArray = args at X ⊢
  show Wt p l e rmX7_adds s m args below meth c G (MQ below (PostI G Q) args s 0 0 (gA G)) 3 M [(0, rV (v0))] 0 []
  unfold PX7_adds at h
  refine xt_al X dX7_adds_0 rfl 0 rfl ?_
  refine gfX7_173 X k0 dX7_adds_1 (fun r_1 => ?_)
  refine xt_ic X dX7_adds_4 ?_
  refine xt_al X dX7_adds_5 rfl 0 rfl ?_
  refine gfX7_7 X k0 dX7_adds_6 ?_
  refine xt_ic X dX7_adds_9 ?_
  refine xt_iald X (kd_X7_0 hG k0) ⟨by decide, by decide⟩ (by decide) dX7_adds_10 (fun r_2 => ?_)
  refine xt_cSI X [iV (M v0 15), iV (0), iV (M (v0 + 1) 0)] [] (ctX7_in hG r_1 (i_rc 0 rfl) r_2 h) gdX7_80 pdX7_in ⟨rfl, rfl⟩ ⟨Nat.le_of_ble_eq_true rfl, Nat.le_of_ble_eq_true rfl⟩ rfl (Nat.le_of_ble_eq_true rfl) dX7_adds_11 (fun z_3 M_4 z_3r h => ?_)
  refine xt_zeq (tgt := 28) X z_3r dX7_adds_14 (by decide) (fun hc => ?_) (fun hc => ?_)
  · have h := h.1 hc
    refine xt_ic X dX7_adds_28 ?_
    exact xt_iret X (i_rc (-1) rfl) h dX7_adds_29
  · have h := h.2 hc
    refine xt_al X dX7_adds_17 rfl 0 rfl ?_
    refine gfX7_7 X k0 dX7_adds_18 ?_
    refine xt_ic X dX7_adds_21 ?_
    refine xt_iald X (kd_X7_0 hG k0) ⟨by decide, by decide⟩ (by decide) dX7_adds_22 (fun r_5 => ?_)
    refine xt_bi X dX7_adds_23 (by decide) ?_
    refine xt_cne (tgt := 30) X r_5 (i_rc 12 rfl) dX7_adds_25 (by decide) (fun hc => ?_) (fun hc => ?_)
    · have h := h.2 hc
      refine xt_al X dX7_adds_30 rfl 0 rfl ?_
      refine xt_cVV X [] [] (ctX7_begins hG k0 h) gdX7_112 pdX7_begins ⟨rfl, rfl⟩ ⟨Nat.le_of_ble_eq_true rfl, Nat.le_of_ble_eq_true rfl⟩ rfl (k_lt k0 (by decide)) (by rw [k0]; rfl) rfl (Nat.le_of_ble_eq_true rfl) dX7_adds_31 (fun M_7 h => ?_)
      refine xt_al X dX7_adds_34 rfl 0 rfl ?_
      refine xt_al X dX7_adds_35 rfl 0 rfl ?_
      refine gfX7_173 X k0 dX7_adds_36 (fun r_8 => ?_)
      refine xt_cVV X [iV (M_7 v0 15)] [] (ctX7_opens hG k0 r_8 h) gdX7_118 pdX7_opens ⟨rfl, rfl⟩ ⟨Nat.le_of_ble_eq_true rfl, Nat.le_of_ble_eq_true rfl⟩ rfl (k_lt k0 (by decide)) (by rw [k0]; rfl) rfl (Nat.le_of_ble_eq_true rfl) dX7_adds_39 (fun M_10 h => ?_)
      refine xt_al X dX7_adds_42 rfl 0 rfl ?_
      refine gfX7_144 X k0 dX7_adds_43 (fun r_11 => ?_)
      refine xt_ic X dX7_adds_46 ?_
      refine xt_cne (tgt := 68) X r_11 (i_rc 1 rfl) dX7_adds_47 (by decide) (fun hc => ?_) (fun hc => ?_)
      · have h := h.2 hc
        exact jX7_adds_68 X  k0 h
      · have h := h.1 hc
        refine xt_al X dX7_adds_50 rfl 0 rfl ?_
        refine gfX7_22 X k0 dX7_adds_51 ?_
        refine xt_al X dX7_adds_54 rfl 0 rfl ?_
        refine gfX7_141 X k0 dX7_adds_55 (fun r_25 => ?_)
        obtain ⟨g_26, h⟩ := h
        refine xt_iald X (kd_X7_8 hG k0) g_26 (by decide) dX7_adds_58 (fun r_27 => ?_)
        refine xt_bi X dX7_adds_59 (by decide) ?_
        refine xt_cne (tgt := 68) X r_27 (i_rc 45 rfl) dX7_adds_61 (by decide) (fun hc => ?_) (fun hc => ?_)
        · have h := h.2 hc
          exact jX7_adds_68 X  k0 h
        · have h := h.1 hc
          refine xt_ic X dX7_adds_64 ?_
          refine xt_goto (tgt := 69) X dX7_adds_65 (by decide) ?_
          refine xt_is (lv2 := [(1, iV (1)), (0, rV (v0))]) X dX7_adds_69 rfl (by decide) rfl ?_
          refine xt_ic X dX7_adds_70 ?_
          refine xt_is (lv2 := [(2, iV (0)), (1, iV (1)), (0, rV (v0))]) X dX7_adds_71 rfl (by decide) rfl ?_
          obtain ⟨n_28, h⟩ := h
          refine xt_perm (lv2 := [(0, rV (v0)), (1, iV (1)), (2, iV (0))]) [2, 1, 0] rfl ?_
          refine wX7_adds_72 X k0 (i_rc 1 rfl)  n_28 0 M_10 (i_rc 0 rfl) h
    · have h := h.1 hc
      refine xt_ic X dX7_adds_28 ?_
      exact xt_iret X (i_rc (-1) rfl) h dX7_adds_29
abbrev rmX7_drops : Room := { frames := 9, cells := 0, slots := 0, locals := 214 }
def PX7_drops (v0 : Int) (M : Mm) (Q : Int → Mm → Prop) : Prop :=
  (PX7_isLine v0 (M v0 15) M (fun z_2 M_3 =>
  ((z_2 = 0 → Q ((-1)) M_3) ∧
  (¬ z_2 = 0 → (PX7_begins v0 M_3 (fun M_5 =>
  (PX7_shuts v0 (M_5 v0 15) M_5 (fun M_8 =>
  (PX7_ends v0 M_8 (fun M_10 =>
  Q 1 M_10))))))))))
set_option maxHeartbeats 4000000 in
set_option maxRecDepth 100000 in
theorem ctX7_drops {l : Launch} {G : GG} (hG : Gd G) {v0 : Int} {M : Mm} {Q : Int → Mm → Prop} (k0 : gK G v0 = (7, 0)) (h : PX7_drops v0 M Q) : Met l yX7_drops (Cond.code yX7_drops cX7_drops 1 ((some FieldType.int)) :: tw) rmX7_drops (Pre G M [rV (v0)]) (PostI G Q) 0 0 (gA G) := by
  refine met_of (own := RX7) (by decide) rfl hG (Nat.le_of_ble_eq_true rfl) (fun p e s m below meth c X => ?_)
  generalize hargs : ([rV (v0)] : List Value).toArray = args at X ⊢
  show Wt p l e rmX7_drops s m args below meth c G (MQ below (PostI G Q) args s 0 0 (gA G)) 1 M [(0, rV (v0))] 0 []
  unfold PX7_drops at h
  refine xt_al X dX7_drops_0 rfl 0 rfl ?_
  refine xt_al X dX7_drops_1 rfl 0 rfl ?_
  refine gfX7_173 X k0 dX7_drops_2 (fun r_1 => ?_)
  refine xt_cVI X [iV (M v0 15)] [] (ctX7_isLine hG k0 r_1 h) gdX7_102 pdX7_isLine ⟨rfl, rfl⟩ ⟨Nat.le_of_ble_eq_true rfl, Nat.le_of_ble_eq_true rfl⟩ rfl (k_lt k0 (by decide)) (by rw [k0]; rfl) rfl (Nat.le_of_ble_eq_true rfl) dX7_drops_5 (fun z_2 M_3 z_2r h => ?_)
  refine xt_zne (tgt := 13) X z_2r dX7_drops_8 (by decide) (fun hc => ?_) (fun hc => ?_)
  · have h := h.2 hc
    refine xt_al X dX7_drops_13 rfl 0 rfl ?_
    refine xt_cVV X [] [] (ctX7_begins hG k0 h) gdX7_112 pdX7_begins ⟨rfl, rfl⟩ ⟨Nat.le_of_ble_eq_true rfl, Nat.le_of_ble_eq_true rfl⟩ rfl (k_lt k0 (by decide)) (by rw [k0]; rfl) rfl (Nat.le_of_ble_eq_true rfl) dX7_drops_14 (fun M_5 h => ?_)
    refine xt_al X dX7_drops_17 rfl 0 rfl ?_
    refine xt_al X dX7_drops_18 rfl 0 rfl ?_
    refine gfX7_173 X k0 dX7_drops_19 (fun r_6 => ?_)
    refine xt_cVV X [iV (M_5 v0 15)] [] (ctX7_shuts hG k0 r_6 h) gdX7_126 pdX7_shuts ⟨rfl, rfl⟩ ⟨Nat.le_of_ble_eq_true rfl, Nat.le_of_ble_eq_true rfl⟩ rfl (k_lt k0 (by decide)) (by rw [k0]; rfl) rfl (Nat.le_of_ble_eq_true rfl) dX7_drops_22 (fun M_8 h => ?_)
    refine xt_al X dX7_drops_25 rfl 0 rfl ?_
    refine xt_cVV X [] [] (ctX7_ends hG k0 h) gdX7_115 pdX7_ends ⟨rfl, rfl⟩ ⟨Nat.le_of_ble_eq_true rfl, Nat.le_of_ble_eq_true rfl⟩ rfl (k_lt k0 (by decide)) (by rw [k0]; rfl) rfl (Nat.le_of_ble_eq_true rfl) dX7_drops_26 (fun M_10 h => ?_)
    refine xt_ic X dX7_drops_29 ?_
    exact xt_iret X (i_rc 1 rfl) h dX7_drops_30
  · have h := h.1 hc
    refine xt_ic X dX7_drops_11 ?_
    exact xt_iret X (i_rc (-1) rfl) h dX7_drops_12
abbrev rmX7_becomes : Room := { frames := 9, cells := 0, slots := 0, locals := 214 }
def PX7_becomes (v0 : Int) (v1 : Int) (v2 : Int) (v3 : Int) (M : Mm) (Q : Int → Mm → Prop) : Prop :=
  ((v3 = 0 → Q ((-1)) M) ∧
  (¬ v3 = 0 → (PX7_begins v0 M (fun M_2 =>
  ((0 ≤ v1 ∧ v1 < 327) ∧
  (∀ M_4 : Mm, M_4 = um M_2 (v0 + 1) v1 v2 →
  (PX7_ends v0 M_4 (fun M_6 =>
  Q 1 M_6))))))))
set_option maxHeartbeats 4000000 in
set_option maxRecDepth 100000 in
theorem ctX7_becomes {l : Launch} {G : GG} (hG : Gd G) {v0 : Int} {v1 : Int} {v2 : Int} {v3 : Int} {M : Mm} {Q : Int → Mm → Prop} (k0 : gK G v0 = (7, 0)) (r1 : inR v1) (r2 : inR v2) (r3 : inR v3) (h : PX7_becomes v0 v1 v2 v3 M Q) : Met l yX7_becomes (Cond.code yX7_becomes cX7_becomes 4 ((some FieldType.int)) :: tw) rmX7_becomes (Pre G M [rV (v0), iV (v1), iV (v2), iV (v3)]) (PostI G Q) 0 0 (gA G) := by
  refine met_of (own := RX7) (by decide) rfl hG (Nat.le_of_ble_eq_true rfl) (fun p e s m below meth c X => ?_)
  generalize hargs : ([rV (v0), iV (v1), iV (v2), iV (v3)] : List Value).toArray = args at X ⊢
  show Wt p l e rmX7_becomes s m args below meth c G (MQ below (PostI G Q) args s 0 0 (gA G)) 4 M [(0, rV (v0)), (1, iV (v1)), (2, iV (v2)), (3, iV (v3))] 0 []
  unfold PX7_becomes at h
  refine xt_il X dX7_becomes_0 rfl 3 rfl ?_
  refine xt_zne (tgt := 6) X r3 dX7_becomes_1 (by decide) (fun hc => ?_) (fun hc => ?_)
  · have h := h.2 hc
    refine xt_al X dX7_becomes_6 rfl 0 rfl ?_
    refine xt_cVV X [] [] (ctX7_begins hG k0 h) gdX7_112 pdX7_begins ⟨rfl, rfl⟩ ⟨Nat.le_of_ble_eq_true rfl, Nat.le_of_ble_eq_true rfl⟩ rfl (k_lt k0 (by decide)) (by rw [k0]; rfl) rfl (Nat.le_of_ble_eq_true rfl) dX7_becomes_7 (fun M_2 h => ?_)
    refine xt_al X dX7_becomes_10 rfl 0 rfl ?_
    refine gfX7_7 X k0 dX7_becomes_11 ?_
    refine xt_il X dX7_becomes_14 rfl 1 rfl ?_
    refine xt_il X dX7_becomes_15 rfl 2 rfl ?_
    obtain ⟨g_3, h⟩ := h
    refine xt_iast X (kd_X7_0 hG k0) g_3 (by decide) r2 dX7_becomes_16 (fun M_4 hm => ?_)
    have h := h M_4 hm
    refine xt_al X dX7_becomes_17 rfl 0 rfl ?_
    refine xt_cVV X [] [] (ctX7_ends hG k0 h) gdX7_115 pdX7_ends ⟨rfl, rfl⟩ ⟨Nat.le_of_ble_eq_true rfl, Nat.le_of_ble_eq_true rfl⟩ rfl (k_lt k0 (by decide)) (by rw [k0]; rfl) rfl (Nat.le_of_ble_eq_true rfl) dX7_becomes_18 (fun M_6 h => ?_)
    refine xt_ic X dX7_becomes_21 ?_
    exact xt_iret X (i_rc 1 rfl) h dX7_becomes_22
  · have h := h.1 hc
    refine xt_ic X dX7_becomes_4 ?_
    exact xt_iret X (i_rc (-1) rfl) h dX7_becomes_5
abbrev rmX7_does : Room := { frames := 10, cells := 0, slots := 0, locals := 238 }
def PX7_does (v0 : Int) (M : Mm) (Q : Int → Mm → Prop) : Prop :=
  ((((M v0 14) < 0 ∨ 7 < (M v0 14)) → ((10 ≤ (M v0 15) → (PX7_becomes v0 2 (M v0 15) 0 M (fun z_4 M_5 =>
  Q z_4 M_5))) ∧
  (¬ 10 ≤ (M v0 15) → (PX7_becomes v0 2 (M v0 15) 1 M (fun z_6 M_7 =>
  Q z_6 M_7))))) ∧
  ((M v0 14) = 0 → (PX7_adds v0 M (fun z_8 M_9 =>
  Q z_8 M_9))) ∧
  ((M v0 14) = 1 → (PX7_drops v0 M (fun z_10 M_11 =>
  Q z_10 M_11))) ∧
  ((M v0 14) = 2 → (PX7_split v0 (M v0 15) (M v0 16) M (fun z_14 M_15 =>
  Q z_14 M_15))) ∧
  ((M v0 14) = 3 → (PX7_join v0 (M v0 15) M (fun z_17 M_18 =>
  Q z_17 M_18))) ∧
  ((M v0 14) = 4 → ((0 ≤ (M v0 10) ∧ (M v0 10) < 150) ∧
  (PX7_put v0 (M v0 15) (M v0 16) (M (v0 + 5) (M v0 10)) M (fun z_24 M_25 =>
  Q z_24 M_25)))) ∧
  ((M v0 14) = 5 → (PX7_cut v0 (M v0 15) (M v0 16) M (fun z_28 M_29 =>
  Q z_28 M_29))) ∧
  ((M v0 14) = 6 → (PX7_way v0 M (fun z_31 M_32 =>
  ((24 ≤ (M_32 v0 15) → (inR (303 + (M v0 15)) ∧
  (PX7_becomes v0 (303 + (M v0 15)) z_31 0 M_32 (fun z_35 M_36 =>
  Q z_35 M_36)))) ∧
  (¬ 24 ≤ (M_32 v0 15) → (inR (303 + (M v0 15)) ∧
  (PX7_becomes v0 (303 + (M v0 15)) z_31 1 M_32 (fun z_38 M_39 =>
  Q z_38 M_39)))))))) ∧
  ((M v0 14) = 7 → ((5 ≤ (M v0 15) → (PX7_becomes v0 1 (M v0 15) 0 M (fun z_42 M_43 =>
  Q z_42 M_43))) ∧
  (¬ 5 ≤ (M v0 15) → (PX7_becomes v0 1 (M v0 15) 1 M (fun z_44 M_45 =>
  Q z_44 M_45))))))
set_option maxHeartbeats 4000000 in
set_option maxRecDepth 100000 in
theorem ctX7_does {l : Launch} {G : GG} (hG : Gd G) {v0 : Int} {M : Mm} {Q : Int → Mm → Prop} (k0 : gK G v0 = (7, 0)) (h : PX7_does v0 M Q) : Met l yX7_does (Cond.code yX7_does cX7_does 1 ((some FieldType.int)) :: tw) rmX7_does (Pre G M [rV (v0)]) (PostI G Q) 0 0 (gA G) := by
  refine met_of (own := RX7) (by decide) rfl hG (Nat.le_of_ble_eq_true rfl) (fun p e s m below meth c X => ?_)
  generalize hargs : ([rV (v0)] : List Value).toArray = args at X ⊢
  show Wt p l e rmX7_does s m args below meth c G (MQ below (PostI G Q) args s 0 0 (gA G)) 1 M [(0, rV (v0))] 0 []
  unfold PX7_does at h
  refine xt_al X dX7_does_0 rfl 0 rfl ?_
  refine gfX7_167 X k0 dX7_does_1 (fun r_1 => ?_)
  rcases (show ((M v0 14) < 0 ∨ 7 < (M v0 14)) ∨ (M v0 14) = 0 ∨ (M v0 14) = 1 ∨ (M v0 14) = 2 ∨ (M v0 14) = 3 ∨ (M v0 14) = 4 ∨ (M v0 14) = 5 ∨ (M v0 14) = 6 ∨ (M v0 14) = 7 by omega) with hc | hc | hc | hc | hc | hc | hc | hc | hc
  · have h := h.1 hc
    refine xt_tout (tgt := 173) X r_1 dX7_does_4 hc (by decide) ?_
    refine xt_al X dX7_does_173 rfl 0 rfl ?_
    refine xt_ic X dX7_does_174 ?_
    refine xt_al X dX7_does_175 rfl 0 rfl ?_
    refine gfX7_173 X k0 dX7_does_176 (fun r_2 => ?_)
    refine xt_al X dX7_does_179 rfl 0 rfl ?_
    refine gfX7_173 X k0 dX7_does_180 (fun r_3 => ?_)
    refine xt_bi X dX7_does_183 (by decide) ?_
    refine xt_cge (tgt := 192) X r_3 (i_rc 10 rfl) dX7_does_185 (by decide) (fun hc => ?_) (fun hc => ?_)
    · have h := h.1 hc
      refine xt_ic X dX7_does_192 ?_
      refine xt_cVI X [iV (2), iV (M v0 15), iV (0)] [] (ctX7_becomes hG k0 (i_rc 2 rfl) r_2 (i_rc 0 rfl) h) gdX7_212 pdX7_becomes ⟨rfl, rfl⟩ ⟨Nat.le_of_ble_eq_true rfl, Nat.le_of_ble_eq_true rfl⟩ rfl (k_lt k0 (by decide)) (by rw [k0]; rfl) rfl (Nat.le_of_ble_eq_true rfl) dX7_does_193 (fun z_4 M_5 z_4r h => ?_)
      exact xt_iret X z_4r h dX7_does_196
    · have h := h.2 hc
      refine xt_ic X dX7_does_188 ?_
      refine xt_goto (tgt := 193) X dX7_does_189 (by decide) ?_
      refine xt_cVI X [iV (2), iV (M v0 15), iV (1)] [] (ctX7_becomes hG k0 (i_rc 2 rfl) r_2 (i_rc 1 rfl) h) gdX7_212 pdX7_becomes ⟨rfl, rfl⟩ ⟨Nat.le_of_ble_eq_true rfl, Nat.le_of_ble_eq_true rfl⟩ rfl (k_lt k0 (by decide)) (by rw [k0]; rfl) rfl (Nat.le_of_ble_eq_true rfl) dX7_does_193 (fun z_6 M_7 z_6r h => ?_)
      exact xt_iret X z_6r h dX7_does_196
  · have h := h.2.1 hc
    refine xt_tin (tgt := 52) X r_1 dX7_does_4 0 hc (by decide) (by decide) rfl (by decide) ?_
    refine xt_al X dX7_does_52 rfl 0 rfl ?_
    refine xt_cVI X [] [] (ctX7_adds hG k0 h) gdX7_191 pdX7_adds ⟨rfl, rfl⟩ ⟨Nat.le_of_ble_eq_true rfl, Nat.le_of_ble_eq_true rfl⟩ rfl (k_lt k0 (by decide)) (by rw [k0]; rfl) rfl (Nat.le_of_ble_eq_true rfl) dX7_does_53 (fun z_8 M_9 z_8r h => ?_)
    exact xt_iret X z_8r h dX7_does_56
  · have h := h.2.2.1 hc
    refine xt_tin (tgt := 57) X r_1 dX7_does_4 1 hc (by decide) (by decide) rfl (by decide) ?_
    refine xt_al X dX7_does_57 rfl 0 rfl ?_
    refine xt_cVI X [] [] (ctX7_drops hG k0 h) gdX7_194 pdX7_drops ⟨rfl, rfl⟩ ⟨Nat.le_of_ble_eq_true rfl, Nat.le_of_ble_eq_true rfl⟩ rfl (k_lt k0 (by decide)) (by rw [k0]; rfl) rfl (Nat.le_of_ble_eq_true rfl) dX7_does_58 (fun z_10 M_11 z_10r h => ?_)
    exact xt_iret X z_10r h dX7_does_61
  · have h := h.2.2.2.1 hc
    refine xt_tin (tgt := 62) X r_1 dX7_does_4 2 hc (by decide) (by decide) rfl (by decide) ?_
    refine xt_al X dX7_does_62 rfl 0 rfl ?_
    refine xt_al X dX7_does_63 rfl 0 rfl ?_
    refine gfX7_173 X k0 dX7_does_64 (fun r_12 => ?_)
    refine xt_al X dX7_does_67 rfl 0 rfl ?_
    refine gfX7_176 X k0 dX7_does_68 (fun r_13 => ?_)
    refine xt_cVI X [iV (M v0 15), iV (M v0 16)] [] (ctX7_split hG k0 r_12 r_13 h) gdX7_197 pdX7_split ⟨rfl, rfl⟩ ⟨Nat.le_of_ble_eq_true rfl, Nat.le_of_ble_eq_true rfl⟩ rfl (k_lt k0 (by decide)) (by rw [k0]; rfl) rfl (Nat.le_of_ble_eq_true rfl) dX7_does_71 (fun z_14 M_15 z_14r h => ?_)
    exact xt_iret X z_14r h dX7_does_74
  · have h := h.2.2.2.2.1 hc
    refine xt_tin (tgt := 75) X r_1 dX7_does_4 3 hc (by decide) (by decide) rfl (by decide) ?_
    refine xt_al X dX7_does_75 rfl 0 rfl ?_
    refine xt_al X dX7_does_76 rfl 0 rfl ?_
    refine gfX7_173 X k0 dX7_does_77 (fun r_16 => ?_)
    refine xt_cVI X [iV (M v0 15)] [] (ctX7_join hG k0 r_16 h) gdX7_201 pdX7_join ⟨rfl, rfl⟩ ⟨Nat.le_of_ble_eq_true rfl, Nat.le_of_ble_eq_true rfl⟩ rfl (k_lt k0 (by decide)) (by rw [k0]; rfl) rfl (Nat.le_of_ble_eq_true rfl) dX7_does_80 (fun z_17 M_18 z_17r h => ?_)
    exact xt_iret X z_17r h dX7_does_83
  · have h := h.2.2.2.2.2.1 hc
    refine xt_tin (tgt := 84) X r_1 dX7_does_4 4 hc (by decide) (by decide) rfl (by decide) ?_
    refine xt_al X dX7_does_84 rfl 0 rfl ?_
    refine xt_al X dX7_does_85 rfl 0 rfl ?_
    refine gfX7_173 X k0 dX7_does_86 (fun r_19 => ?_)
    refine xt_al X dX7_does_89 rfl 0 rfl ?_
    refine gfX7_176 X k0 dX7_does_90 (fun r_20 => ?_)
    refine xt_al X dX7_does_93 rfl 0 rfl ?_
    refine gfX7_22 X k0 dX7_does_94 ?_
    refine xt_al X dX7_does_97 rfl 0 rfl ?_
    refine gfX7_141 X k0 dX7_does_98 (fun r_21 => ?_)
    obtain ⟨g_22, h⟩ := h
    refine xt_iald X (kd_X7_8 hG k0) g_22 (by decide) dX7_does_101 (fun r_23 => ?_)
    refine xt_cVI X [iV (M v0 15), iV (M v0 16), iV (M (v0 + 5) (M v0 10))] [] (ctX7_put hG k0 r_19 r_20 r_23 h) gdX7_205 pdX7_put ⟨rfl, rfl⟩ ⟨Nat.le_of_ble_eq_true rfl, Nat.le_of_ble_eq_true rfl⟩ rfl (k_lt k0 (by decide)) (by rw [k0]; rfl) rfl (Nat.le_of_ble_eq_true rfl) dX7_does_102 (fun z_24 M_25 z_24r h => ?_)
    exact xt_iret X z_24r h dX7_does_105
  · have h := h.2.2.2.2.2.2.1 hc
    refine xt_tin (tgt := 106) X r_1 dX7_does_4 5 hc (by decide) (by decide) rfl (by decide) ?_
    refine xt_al X dX7_does_106 rfl 0 rfl ?_
    refine xt_al X dX7_does_107 rfl 0 rfl ?_
    refine gfX7_173 X k0 dX7_does_108 (fun r_26 => ?_)
    refine xt_al X dX7_does_111 rfl 0 rfl ?_
    refine gfX7_176 X k0 dX7_does_112 (fun r_27 => ?_)
    refine xt_cVI X [iV (M v0 15), iV (M v0 16)] [] (ctX7_cut hG k0 r_26 r_27 h) gdX7_209 pdX7_cut ⟨rfl, rfl⟩ ⟨Nat.le_of_ble_eq_true rfl, Nat.le_of_ble_eq_true rfl⟩ rfl (k_lt k0 (by decide)) (by rw [k0]; rfl) rfl (Nat.le_of_ble_eq_true rfl) dX7_does_115 (fun z_28 M_29 z_28r h => ?_)
    exact xt_iret X z_28r h dX7_does_118
  · have h := h.2.2.2.2.2.2.2.1 hc
    refine xt_tin (tgt := 119) X r_1 dX7_does_4 6 hc (by decide) (by decide) rfl (by decide) ?_
    refine xt_al X dX7_does_119 rfl 0 rfl ?_
    refine xt_si X dX7_does_120 (by decide) ?_
    refine xt_al X dX7_does_123 rfl 0 rfl ?_
    refine gfX7_173 X k0 dX7_does_124 (fun r_30 => ?_)
    refine xt_add X dX7_does_127 ?_
    refine xt_al X dX7_does_128 rfl 0 rfl ?_
    refine xt_cVI X [] [iV (303 + (M v0 15)), rV (v0)] (ctX7_way hG k0 h) gdX7_161 pdX7_way ⟨rfl, rfl⟩ ⟨Nat.le_of_ble_eq_true rfl, Nat.le_of_ble_eq_true rfl⟩ rfl (k_lt k0 (by decide)) (by rw [k0]; rfl) rfl (Nat.le_of_ble_eq_true rfl) dX7_does_129 (fun z_31 M_32 z_31r h => ?_)
    refine xt_al X dX7_does_132 rfl 0 rfl ?_
    refine gfX7_173 X k0 dX7_does_133 (fun r_33 => ?_)
    refine xt_bi X dX7_does_136 (by decide) ?_
    refine xt_cge (tgt := 145) X r_33 (i_rc 24 rfl) dX7_does_138 (by decide) (fun hc => ?_) (fun hc => ?_)
    · have h := h.1 hc
      refine xt_ic X dX7_does_145 ?_
      obtain ⟨g_34, h⟩ := h
      refine xt_cVI X [iV (303 + (M v0 15)), iV (z_31), iV (0)] [] (ctX7_becomes hG k0 g_34 z_31r (i_rc 0 rfl) h) gdX7_212 pdX7_becomes ⟨rfl, rfl⟩ ⟨Nat.le_of_ble_eq_true rfl, Nat.le_of_ble_eq_true rfl⟩ rfl (k_lt k0 (by decide)) (by rw [k0]; rfl) rfl (Nat.le_of_ble_eq_true rfl) dX7_does_146 (fun z_35 M_36 z_35r h => ?_)
      exact xt_iret X z_35r h dX7_does_149
    · have h := h.2 hc
      refine xt_ic X dX7_does_141 ?_
      refine xt_goto (tgt := 146) X dX7_does_142 (by decide) ?_
      obtain ⟨g_37, h⟩ := h
      refine xt_cVI X [iV (303 + (M v0 15)), iV (z_31), iV (1)] [] (ctX7_becomes hG k0 g_37 z_31r (i_rc 1 rfl) h) gdX7_212 pdX7_becomes ⟨rfl, rfl⟩ ⟨Nat.le_of_ble_eq_true rfl, Nat.le_of_ble_eq_true rfl⟩ rfl (k_lt k0 (by decide)) (by rw [k0]; rfl) rfl (Nat.le_of_ble_eq_true rfl) dX7_does_146 (fun z_38 M_39 z_38r h => ?_)
      exact xt_iret X z_38r h dX7_does_149
  · have h := h.2.2.2.2.2.2.2.2 hc
    refine xt_tin (tgt := 150) X r_1 dX7_does_4 7 hc (by decide) (by decide) rfl (by decide) ?_
    refine xt_al X dX7_does_150 rfl 0 rfl ?_
    refine xt_ic X dX7_does_151 ?_
    refine xt_al X dX7_does_152 rfl 0 rfl ?_
    refine gfX7_173 X k0 dX7_does_153 (fun r_40 => ?_)
    refine xt_al X dX7_does_156 rfl 0 rfl ?_
    refine gfX7_173 X k0 dX7_does_157 (fun r_41 => ?_)
    refine xt_ic X dX7_does_160 ?_
    refine xt_cge (tgt := 168) X r_41 (i_rc 5 rfl) dX7_does_161 (by decide) (fun hc => ?_) (fun hc => ?_)
    · have h := h.1 hc
      refine xt_ic X dX7_does_168 ?_
      refine xt_cVI X [iV (1), iV (M v0 15), iV (0)] [] (ctX7_becomes hG k0 (i_rc 1 rfl) r_40 (i_rc 0 rfl) h) gdX7_212 pdX7_becomes ⟨rfl, rfl⟩ ⟨Nat.le_of_ble_eq_true rfl, Nat.le_of_ble_eq_true rfl⟩ rfl (k_lt k0 (by decide)) (by rw [k0]; rfl) rfl (Nat.le_of_ble_eq_true rfl) dX7_does_169 (fun z_42 M_43 z_42r h => ?_)
      exact xt_iret X z_42r h dX7_does_172
    · have h := h.2 hc
      refine xt_ic X dX7_does_164 ?_
      refine xt_goto (tgt := 169) X dX7_does_165 (by decide) ?_
      refine xt_cVI X [iV (1), iV (M v0 15), iV (1)] [] (ctX7_becomes hG k0 (i_rc 1 rfl) r_40 (i_rc 1 rfl) h) gdX7_212 pdX7_becomes ⟨rfl, rfl⟩ ⟨Nat.le_of_ble_eq_true rfl, Nat.le_of_ble_eq_true rfl⟩ rfl (k_lt k0 (by decide)) (by rw [k0]; rfl) rfl (Nat.le_of_ble_eq_true rfl) dX7_does_169 (fun z_44 M_45 z_44r h => ?_)
      exact xt_iret X z_44r h dX7_does_172
abbrev rmX7_run : Room := { frames := 11, cells := 0, slots := 0, locals := 258 }
def BX7_run_9 (ke42 : Mm → Prop) (ke27 : Mm → Prop) (Q : Int → Mm → Prop) (v0 : Int) (rec : Mm → Prop)  (M : Mm) : Prop :=
  (((M v0 7) ≤ (M v0 9) → ke42 M) ∧
  (¬ (M v0 7) ≤ (M v0 9) → (PX7_reads v0 M (fun z_6 M_7 =>
  ((z_6 = 0 → ke27 M_7) ∧
  (¬ z_6 = 0 → (PX7_blanks v0 M_7 (fun M_9 =>
  rec M_9))))))))
def BX7_run_53 (ke91 : Int → Mm → Prop) (Q : Int → Mm → Prop) (v0 : Int) (rec : Int → Mm → Prop) (v1 : Int) (M : Mm) : Prop :=
  (((M v0 7) ≤ (M v0 9) → ke91 v1 M) ∧
  (¬ (M v0 7) ≤ (M v0 9) → (PX7_reads v0 M (fun z_17 M_18 =>
  (PX7_does v0 M_18 (fun z_19 M_20 =>
  ((z_19 < 0 → (PX7_blanks v0 M_20 (fun M_22 =>
  (inR (v1 + 0) ∧
  rec (v1 + 0) M_22)))) ∧
  (¬ z_19 < 0 → (PX7_blanks v0 M_20 (fun M_25 =>
  (inR (v1 + 1) ∧
  rec (v1 + 1) M_25)))))))))))
def PX7_run (v0 : Int) (M : Mm) (Q : Int → Mm → Prop) : Prop :=
  (∀ M_1 : Mm, M_1 = um M v0 9 0 →
  (PX7_blanks v0 M_1 (fun M_3 =>
  ∃ n_10 : Nat, lp_o (BX7_run_9 (fun M_11 => (∀ M_12 : Mm, M_12 = um M_11 v0 9 0 →
  (PX7_blanks v0 M_12 (fun M_14 =>
  ∃ n_27 : Nat, lp_I (BX7_run_53 (fun w1_28 M_28 => (∀ M_29 : Mm, M_29 = um M_28 v0 7 0 →
  Q w1_28 M_29)) Q v0) n_27 0 M_14)))) (fun M_30 => (inR (((-10)) - (M_30 v0 12)) ∧
  Q (((-10)) - (M_30 v0 12)) M_30)) Q v0) n_10 M_3)))
set_option maxHeartbeats 4000000 in
set_option maxRecDepth 100000 in
theorem wX7_run_9 {p : Program} {l : Launch} {e : Env} {s : State} {m : MethodId} {args : Array Value} {below : List Frame} {meth : Method} {c : Code} {G : GG} (X : Cx p s m args meth c cX7_run 2 ((some FieldType.int)) RX7 G) {Q : Int → Mm → Prop} {ke42 : Mm → Prop} {ke27 : Mm → Prop} {v0 : Int} (k0 : gK G v0 = (7, 0)) (hke42 : ∀ (M : Mm), ke42  M → Wt p l e rmX7_run s m args below meth c G (MQ below (PostI G Q) args s 0 0 (gA G)) 2 M [(0, rV (v0))] 42 []) (hke27 : ∀ (M : Mm), ke27  M → Wt p l e rmX7_run s m args below meth c G (MQ below (PostI G Q) args s 0 0 (gA G)) 2 M [(0, rV (v0))] 27 []) : ∀ (n : Nat)  (M : Mm), lp_o (BX7_run_9 ke42 ke27 Q v0) n  M → Wt p l e rmX7_run s m args below meth c G (MQ below (PostI G Q) args s 0 0 (gA G)) 2 M [(0, rV (v0))] 9 [] := by
  have hG := X.2.2.2.2.2.2.2.2
  intro n
  induction n with
  | zero => intro  M  h; exact h.elim
  | succ n ih =>
    intro  M  h
    have h : BX7_run_9 ke42 ke27 Q v0 (lp_o (BX7_run_9 ke42 ke27 Q v0) n)  M := h
    unfold BX7_run_9 at h
    refine xt_al X dX7_run_9 rfl 0 rfl ?_
    refine gfX7_132 X k0 dX7_run_10 (fun r_4 => ?_)
    refine xt_al X dX7_run_13 rfl 0 rfl ?_
    refine gfX7_129 X k0 dX7_run_14 (fun r_5 => ?_)
    refine xt_cge (tgt := 42) X r_4 r_5 dX7_run_17 (by decide) (fun hc => ?_) (fun hc => ?_)
    · have h := h.1 hc
      exact hke42 M  h
    · have h := h.2 hc
      refine xt_al X dX7_run_20 rfl 0 rfl ?_
      refine xt_cVI X [] [] (ctX7_reads hG k0 h) gdX7_216 pdX7_reads ⟨rfl, rfl⟩ ⟨Nat.le_of_ble_eq_true rfl, Nat.le_of_ble_eq_true rfl⟩ rfl (k_lt k0 (by decide)) (by rw [k0]; rfl) rfl (Nat.le_of_ble_eq_true rfl) dX7_run_21 (fun z_6 M_7 z_6r h => ?_)
      refine xt_zne (tgt := 35) X z_6r dX7_run_24 (by decide) (fun hc => ?_) (fun hc => ?_)
      · have h := h.2 hc
        refine xt_al X dX7_run_35 rfl 0 rfl ?_
        refine xt_cVV X [] [] (ctX7_blanks hG k0 h) gdX7_138 pdX7_blanks ⟨rfl, rfl⟩ ⟨Nat.le_of_ble_eq_true rfl, Nat.le_of_ble_eq_true rfl⟩ rfl (k_lt k0 (by decide)) (by rw [k0]; rfl) rfl (Nat.le_of_ble_eq_true rfl) dX7_run_36 (fun M_9 h => ?_)
        refine xt_goto (tgt := 9) X dX7_run_39 (by decide) ?_
        exact ih M_9  h
      · have h := h.1 hc
        exact hke27 M_7  h
set_option maxHeartbeats 4000000 in
set_option maxRecDepth 100000 in
theorem wX7_run_53 {p : Program} {l : Launch} {e : Env} {s : State} {m : MethodId} {args : Array Value} {below : List Frame} {meth : Method} {c : Code} {G : GG} (X : Cx p s m args meth c cX7_run 2 ((some FieldType.int)) RX7 G) {Q : Int → Mm → Prop} {ke91 : Int → Mm → Prop} {v0 : Int} (k0 : gK G v0 = (7, 0)) (hke91 : ∀ (v1 : Int) (M : Mm), inR v1 → ke91 v1 M → Wt p l e rmX7_run s m args below meth c G (MQ below (PostI G Q) args s 0 0 (gA G)) 2 M [(0, rV (v0)), (1, iV (v1))] 91 []) : ∀ (n : Nat) (v1 : Int) (M : Mm), inR v1 → lp_I (BX7_run_53 ke91 Q v0) n v1 M → Wt p l e rmX7_run s m args below meth c G (MQ below (PostI G Q) args s 0 0 (gA G)) 2 M [(0, rV (v0)), (1, iV (v1))] 53 [] := by
  have hG := X.2.2.2.2.2.2.2.2
  intro n
  induction n with
  | zero => intro v1 M r1 h; exact h.elim
  | succ n ih =>
    intro v1 M r1 h
    have h : BX7_run_53 ke91 Q v0 (lp_I (BX7_run_53 ke91 Q v0) n) v1 M := h
    unfold BX7_run_53 at h
    refine xt_al X dX7_run_53 rfl 0 rfl ?_
    refine gfX7_132 X k0 dX7_run_54 (fun r_15 => ?_)
    refine xt_al X dX7_run_57 rfl 0 rfl ?_
    refine gfX7_129 X k0 dX7_run_58 (fun r_16 => ?_)
    refine xt_cge (tgt := 91) X r_15 r_16 dX7_run_61 (by decide) (fun hc => ?_) (fun hc => ?_)
    · have h := h.1 hc
      exact hke91 v1 M r1 h
    · have h := h.2 hc
      refine xt_al X dX7_run_64 rfl 0 rfl ?_
      refine xt_cVI X [] [] (ctX7_reads hG k0 h) gdX7_216 pdX7_reads ⟨rfl, rfl⟩ ⟨Nat.le_of_ble_eq_true rfl, Nat.le_of_ble_eq_true rfl⟩ rfl (k_lt k0 (by decide)) (by rw [k0]; rfl) rfl (Nat.le_of_ble_eq_true rfl) dX7_run_65 (fun z_17 M_18 z_17r h => ?_)
      refine xt_pop X rfl dX7_run_68 ?_
      refine xt_il X dX7_run_69 rfl 1 rfl ?_
      refine xt_al X dX7_run_70 rfl 0 rfl ?_
      refine xt_cVI X [] [iV (v1)] (ctX7_does hG k0 h) gdX7_219 pdX7_does ⟨rfl, rfl⟩ ⟨Nat.le_of_ble_eq_true rfl, Nat.le_of_ble_eq_true rfl⟩ rfl (k_lt k0 (by decide)) (by rw [k0]; rfl) rfl (Nat.le_of_ble_eq_true rfl) dX7_run_71 (fun z_19 M_20 z_19r h => ?_)
      refine xt_zlt (tgt := 81) X z_19r dX7_run_74 (by decide) (fun hc => ?_) (fun hc => ?_)
      · have h := h.1 hc
        refine xt_ic X dX7_run_81 ?_
        refine xt_add X dX7_run_82 ?_
        refine xt_is (lv2 := [(1, iV (v1 + 0)), (0, rV (v0))]) X dX7_run_83 rfl (by decide) rfl ?_
        refine xt_al X dX7_run_84 rfl 1 rfl ?_
        refine xt_cVV X [] [] (ctX7_blanks hG k0 h) gdX7_138 pdX7_blanks ⟨rfl, rfl⟩ ⟨Nat.le_of_ble_eq_true rfl, Nat.le_of_ble_eq_true rfl⟩ rfl (k_lt k0 (by decide)) (by rw [k0]; rfl) rfl (Nat.le_of_ble_eq_true rfl) dX7_run_85 (fun M_22 h => ?_)
        refine xt_goto (tgt := 53) X dX7_run_88 (by decide) ?_
        obtain ⟨g_23, h⟩ := h
        refine xt_perm (lv2 := [(0, rV (v0)), (1, iV (v1 + 0))]) [1, 0] rfl ?_
        exact ih (v1 + 0) M_22 g_23 h
      · have h := h.2 hc
        refine xt_ic X dX7_run_77 ?_
        refine xt_goto (tgt := 82) X dX7_run_78 (by decide) ?_
        refine xt_add X dX7_run_82 ?_
        refine xt_is (lv2 := [(1, iV (v1 + 1)), (0, rV (v0))]) X dX7_run_83 rfl (by decide) rfl ?_
        refine xt_al X dX7_run_84 rfl 1 rfl ?_
        refine xt_cVV X [] [] (ctX7_blanks hG k0 h) gdX7_138 pdX7_blanks ⟨rfl, rfl⟩ ⟨Nat.le_of_ble_eq_true rfl, Nat.le_of_ble_eq_true rfl⟩ rfl (k_lt k0 (by decide)) (by rw [k0]; rfl) rfl (Nat.le_of_ble_eq_true rfl) dX7_run_85 (fun M_25 h => ?_)
        refine xt_goto (tgt := 53) X dX7_run_88 (by decide) ?_
        obtain ⟨g_26, h⟩ := h
        refine xt_perm (lv2 := [(0, rV (v0)), (1, iV (v1 + 1))]) [1, 0] rfl ?_
        exact ih (v1 + 1) M_25 g_26 h
set_option maxHeartbeats 4000000 in
set_option maxRecDepth 100000 in
theorem ctX7_run {l : Launch} {G : GG} (hG : Gd G) {v0 : Int} {M : Mm} {Q : Int → Mm → Prop} (k0 : gK G v0 = (7, 0)) (h : PX7_run v0 M Q) : Met l yX7_run (Cond.code yX7_run cX7_run 2 ((some FieldType.int)) :: tw) rmX7_run (Pre G M [rV (v0)]) (PostI G Q) 0 0 (gA G) := by
  refine met_of (own := RX7) (by decide) rfl hG (Nat.le_of_ble_eq_true rfl) (fun p e s m below meth c X => ?_)
  generalize hargs : ([rV (v0)] : List Value).toArray = args at X ⊢
  show Wt p l e rmX7_run s m args below meth c G (MQ below (PostI G Q) args s 0 0 (gA G)) 2 M [(0, rV (v0))] 0 []
  unfold PX7_run at h
  refine xt_al X dX7_run_0 rfl 0 rfl ?_
  refine xt_ic X dX7_run_1 ?_
  refine pfX7_132 X k0 (i_rc 0 rfl) dX7_run_2 (fun M_1 hm => ?_)
  have h := h M_1 hm
  refine xt_al X dX7_run_5 rfl 0 rfl ?_
  refine xt_cVV X [] [] (ctX7_blanks hG k0 h) gdX7_138 pdX7_blanks ⟨rfl, rfl⟩ ⟨Nat.le_of_ble_eq_true rfl, Nat.le_of_ble_eq_true rfl⟩ rfl (k_lt k0 (by decide)) (by rw [k0]; rfl) rfl (Nat.le_of_ble_eq_true rfl) dX7_run_6 (fun M_3 h => ?_)
  obtain ⟨n_10, h⟩ := h
  refine wX7_run_9 X k0 (fun M_11 h => ?_) (fun M_30 h => ?_) n_10 M_3  h
  · refine xt_al X dX7_run_42 rfl 0 rfl ?_
    refine xt_ic X dX7_run_43 ?_
    refine pfX7_132 X k0 (i_rc 0 rfl) dX7_run_44 (fun M_12 hm => ?_)
    have h := h M_12 hm
    refine xt_al X dX7_run_47 rfl 0 rfl ?_
    refine xt_cVV X [] [] (ctX7_blanks hG k0 h) gdX7_138 pdX7_blanks ⟨rfl, rfl⟩ ⟨Nat.le_of_ble_eq_true rfl, Nat.le_of_ble_eq_true rfl⟩ rfl (k_lt k0 (by decide)) (by rw [k0]; rfl) rfl (Nat.le_of_ble_eq_true rfl) dX7_run_48 (fun M_14 h => ?_)
    refine xt_ic X dX7_run_51 ?_
    refine xt_is (lv2 := [(1, iV (0)), (0, rV (v0))]) X dX7_run_52 rfl (by decide) rfl ?_
    obtain ⟨n_27, h⟩ := h
    refine xt_perm (lv2 := [(0, rV (v0)), (1, iV (0))]) [1, 0] rfl ?_
    refine wX7_run_53 X k0 (fun w1_28 M_28 r1_28 h => ?_) n_27 0 M_14 (i_rc 0 rfl) h
    refine xt_al X dX7_run_91 rfl 0 rfl ?_
    refine xt_ic X dX7_run_92 ?_
    refine pfX7_129 X k0 (i_rc 0 rfl) dX7_run_93 (fun M_29 hm => ?_)
    have h := h M_29 hm
    refine xt_il X dX7_run_96 rfl 1 rfl ?_
    exact xt_iret X r1_28 h dX7_run_97
  · refine xt_bi X dX7_run_27 (by decide) ?_
    refine xt_al X dX7_run_29 rfl 0 rfl ?_
    refine gfX7_135 X k0 dX7_run_30 (fun r_31 => ?_)
    refine xt_sub X dX7_run_33 ?_
    obtain ⟨g_32, h⟩ := h
    exact xt_iret X g_32 h dX7_run_34
abbrev rmX7_line : Room := { frames := 9, cells := 0, slots := 0, locals := 214 }
def PX7_line (v0 : Int) (v1 : Int) (v2 : Int) (M : Mm) (Q : Int → Mm → Prop) : Prop :=
  (PX7_isLine v0 v1 M (fun z_1 M_2 =>
  ((z_1 = 0 → Q ((-1)) M_2) ∧
  (¬ z_1 = 0 → (((v2 < 0 ∨ 3 < v2) → Q ((-1)) M_2) ∧
  (v2 = 0 → ((0 ≤ (3 + v1) ∧ (3 + v1) < 327) ∧
  Q (M_2 (v0 + 1) (3 + v1)) M_2)) ∧
  (v2 = 1 → (PX7_cellsOf (v0 + 1) v1 M_2 (fun z_5 M_6 =>
  Q z_5 M_6))) ∧
  (v2 = 2 → (PX7_wideOf (v0 + 1) v1 M_2 (fun z_7 M_8 =>
  Q z_7 M_8))) ∧
  (v2 = 3 → (PX7_cellsOf (v0 + 1) v1 M_2 (fun z_9 M_10 =>
  (PX7_beginsOf (v0 + 1) v1 z_9 M_10 (fun z_11 M_12 =>
  Q z_11 M_12))))))))))
set_option maxHeartbeats 4000000 in
set_option maxRecDepth 100000 in
theorem ctX7_line {l : Launch} {G : GG} (hG : Gd G) {v0 : Int} {v1 : Int} {v2 : Int} {M : Mm} {Q : Int → Mm → Prop} (k0 : gK G v0 = (7, 0)) (r1 : inR v1) (r2 : inR v2) (h : PX7_line v0 v1 v2 M Q) : Met l yX7_line (Cond.code yX7_line cX7_line 3 ((some FieldType.int)) :: tw) rmX7_line (Pre G M [rV (v0), iV (v1), iV (v2)]) (PostI G Q) 0 0 (gA G) := by
  refine met_of (own := RX7) (by decide) rfl hG (Nat.le_of_ble_eq_true rfl) (fun p e s m below meth c X => ?_)
  generalize hargs : ([rV (v0), iV (v1), iV (v2)] : List Value).toArray = args at X ⊢
  show Wt p l e rmX7_line s m args below meth c G (MQ below (PostI G Q) args s 0 0 (gA G)) 3 M [(0, rV (v0)), (1, iV (v1)), (2, iV (v2))] 0 []
  unfold PX7_line at h
  refine xt_al X dX7_line_0 rfl 0 rfl ?_
  refine xt_il X dX7_line_1 rfl 1 rfl ?_
  refine xt_cVI X [iV (v1)] [] (ctX7_isLine hG k0 r1 h) gdX7_102 pdX7_isLine ⟨rfl, rfl⟩ ⟨Nat.le_of_ble_eq_true rfl, Nat.le_of_ble_eq_true rfl⟩ rfl (k_lt k0 (by decide)) (by rw [k0]; rfl) rfl (Nat.le_of_ble_eq_true rfl) dX7_line_2 (fun z_1 M_2 z_1r h => ?_)
  refine xt_zne (tgt := 10) X z_1r dX7_line_5 (by decide) (fun hc => ?_) (fun hc => ?_)
  · have h := h.2 hc
    refine xt_il X dX7_line_10 rfl 2 rfl ?_
    rcases (show (v2 < 0 ∨ 3 < v2) ∨ v2 = 0 ∨ v2 = 1 ∨ v2 = 2 ∨ v2 = 3 by omega) with hc | hc | hc | hc | hc
    · have h := h.1 hc
      refine xt_tout (tgt := 84) X r2 dX7_line_11 hc (by decide) ?_
      refine xt_ic X dX7_line_84 ?_
      exact xt_iret X (i_rc (-1) rfl) h dX7_line_85
    · have h := h.2.1 hc
      refine xt_tin (tgt := 40) X r2 dX7_line_11 0 hc (by decide) (by decide) rfl (by decide) ?_
      refine xt_al X dX7_line_40 rfl 0 rfl ?_
      refine gfX7_7 X k0 dX7_line_41 ?_
      refine xt_ic X dX7_line_44 ?_
      refine xt_il X dX7_line_45 rfl 1 rfl ?_
      refine xt_add X dX7_line_46 ?_
      obtain ⟨g_3, h⟩ := h
      refine xt_iald X (kd_X7_0 hG k0) g_3 (by decide) dX7_line_47 (fun r_4 => ?_)
      exact xt_iret X r_4 h dX7_line_48
    · have h := h.2.2.1 hc
      refine xt_tin (tgt := 49) X r2 dX7_line_11 1 hc (by decide) (by decide) rfl (by decide) ?_
      refine xt_al X dX7_line_49 rfl 0 rfl ?_
      refine gfX7_7 X k0 dX7_line_50 ?_
      refine xt_il X dX7_line_53 rfl 1 rfl ?_
      refine xt_cSI X [rV (v0 + 1), iV (v1)] [] (ctX7_cellsOf hG (kd_X7_0 hG k0) r1 h) gdX7_51 pdX7_cellsOf ⟨rfl, rfl⟩ ⟨Nat.le_of_ble_eq_true rfl, Nat.le_of_ble_eq_true rfl⟩ rfl (Nat.le_of_ble_eq_true rfl) dX7_line_54 (fun z_5 M_6 z_5r h => ?_)
      exact xt_iret X z_5r h dX7_line_57
    · have h := h.2.2.2.1 hc
      refine xt_tin (tgt := 58) X r2 dX7_line_11 2 hc (by decide) (by decide) rfl (by decide) ?_
      refine xt_al X dX7_line_58 rfl 0 rfl ?_
      refine gfX7_7 X k0 dX7_line_59 ?_
      refine xt_il X dX7_line_62 rfl 1 rfl ?_
      refine xt_cSI X [rV (v0 + 1), iV (v1)] [] (ctX7_wideOf hG (kd_X7_0 hG k0) r1 h) gdX7_77 pdX7_wideOf ⟨rfl, rfl⟩ ⟨Nat.le_of_ble_eq_true rfl, Nat.le_of_ble_eq_true rfl⟩ rfl (Nat.le_of_ble_eq_true rfl) dX7_line_63 (fun z_7 M_8 z_7r h => ?_)
      exact xt_iret X z_7r h dX7_line_66
    · have h := h.2.2.2.2 hc
      refine xt_tin (tgt := 67) X r2 dX7_line_11 3 hc (by decide) (by decide) rfl (by decide) ?_
      refine xt_al X dX7_line_67 rfl 0 rfl ?_
      refine gfX7_7 X k0 dX7_line_68 ?_
      refine xt_il X dX7_line_71 rfl 1 rfl ?_
      refine xt_al X dX7_line_72 rfl 0 rfl ?_
      refine gfX7_7 X k0 dX7_line_73 ?_
      refine xt_il X dX7_line_76 rfl 1 rfl ?_
      refine xt_cSI X [rV (v0 + 1), iV (v1)] [iV (v1), rV (v0 + 1)] (ctX7_cellsOf hG (kd_X7_0 hG k0) r1 h) gdX7_51 pdX7_cellsOf ⟨rfl, rfl⟩ ⟨Nat.le_of_ble_eq_true rfl, Nat.le_of_ble_eq_true rfl⟩ rfl (Nat.le_of_ble_eq_true rfl) dX7_line_77 (fun z_9 M_10 z_9r h => ?_)
      refine xt_cSI X [rV (v0 + 1), iV (v1), iV (z_9)] [] (ctX7_beginsOf hG (kd_X7_0 hG k0) r1 z_9r h) gdX7_74 pdX7_beginsOf ⟨rfl, rfl⟩ ⟨Nat.le_of_ble_eq_true rfl, Nat.le_of_ble_eq_true rfl⟩ rfl (Nat.le_of_ble_eq_true rfl) dX7_line_80 (fun z_11 M_12 z_11r h => ?_)
      exact xt_iret X z_11r h dX7_line_83
  · have h := h.1 hc
    refine xt_ic X dX7_line_8 ?_
    exact xt_iret X (i_rc (-1) rfl) h dX7_line_9
abbrev rmX7_sign_ : Room := { frames := 3, cells := 0, slots := 0, locals := 65 }
def JX7_sign__33  (Q : Int → Mm → Prop)  (M : Mm) : Prop :=
  Q ((-1)) M
def PX7_sign_ (v0 : Int) (v1 : Int) (v2 : Int) (M : Mm) (Q : Int → Mm → Prop) : Prop :=
  (PX7_isPlace v0 v1 v2 M (fun z_1 M_2 =>
  ((z_1 = 0 → JX7_sign__33  Q M_2) ∧
  (¬ z_1 = 0 → ((0 ≤ (3 + v1) ∧ (3 + v1) < 327) ∧
  (((M_2 (v0 + 1) (3 + v1)) ≤ v2 → JX7_sign__33  Q M_2) ∧
  (¬ (M_2 (v0 + 1) (3 + v1)) ≤ v2 → (PX7_signAt (v0 + 1) v1 v2 M_2 (fun z_5 M_6 =>
  Q z_5 M_6)))))))))
set_option maxHeartbeats 4000000 in
set_option maxRecDepth 100000 in
theorem jX7_sign__33 {p : Program} {l : Launch} {e : Env} {s : State} {m : MethodId} {args : Array Value} {below : List Frame} {meth : Method} {c : Code} {G : GG} (X : Cx p s m args meth c cX7_sign_ 3 ((some FieldType.int)) RX7 G) {Q : Int → Mm → Prop}     {M : Mm} (h : JX7_sign__33  Q  M) : Wt p l e rmX7_sign_ s m args below meth c G (MQ below (PostI G Q) args s 0 0 (gA G)) 3 M [] 33 [] := by
  have hG := X.2.2.2.2.2.2.2.2
  unfold JX7_sign__33 at h
  refine xt_ic X dX7_sign__33 ?_
  exact xt_iret X (i_rc (-1) rfl) h dX7_sign__34
set_option maxHeartbeats 4000000 in
set_option maxRecDepth 100000 in
theorem ctX7_sign_ {l : Launch} {G : GG} (hG : Gd G) {v0 : Int} {v1 : Int} {v2 : Int} {M : Mm} {Q : Int → Mm → Prop} (k0 : gK G v0 = (7, 0)) (r1 : inR v1) (r2 : inR v2) (h : PX7_sign_ v0 v1 v2 M Q) : Met l yX7_sign_ (Cond.code yX7_sign_ cX7_sign_ 3 ((some FieldType.int)) :: tw) rmX7_sign_ (Pre G M [rV (v0), iV (v1), iV (v2)]) (PostI G Q) 0 0 (gA G) := by
  refine met_of (own := RX7) (by decide) rfl hG (Nat.le_of_ble_eq_true rfl) (fun p e s m below meth c X => ?_)
  generalize hargs : ([rV (v0), iV (v1), iV (v2)] : List Value).toArray = args at X ⊢
  show Wt p l e rmX7_sign_ s m args below meth c G (MQ below (PostI G Q) args s 0 0 (gA G)) 3 M [(0, rV (v0)), (1, iV (v1)), (2, iV (v2))] 0 []
  unfold PX7_sign_ at h
  refine xt_al X dX7_sign__0 rfl 0 rfl ?_
  refine xt_il X dX7_sign__1 rfl 1 rfl ?_
  refine xt_il X dX7_sign__2 rfl 2 rfl ?_
  refine xt_cVI X [iV (v1), iV (v2)] [] (ctX7_isPlace hG k0 r1 r2 h) gdX7_105 pdX7_isPlace ⟨rfl, rfl⟩ ⟨Nat.le_of_ble_eq_true rfl, Nat.le_of_ble_eq_true rfl⟩ rfl (k_lt k0 (by decide)) (by rw [k0]; rfl) rfl (Nat.le_of_ble_eq_true rfl) dX7_sign__3 (fun z_1 M_2 z_1r h => ?_)
  refine xt_zeq (tgt := 33) X z_1r dX7_sign__6 (by decide) (fun hc => ?_) (fun hc => ?_)
  · have h := h.1 hc
    refine xt_perm (lv2 := []) [] rfl ?_
    exact jX7_sign__33 X   h
  · have h := h.2 hc
    refine xt_il X dX7_sign__9 rfl 2 rfl ?_
    refine xt_al X dX7_sign__10 rfl 0 rfl ?_
    refine gfX7_7 X k0 dX7_sign__11 ?_
    refine xt_ic X dX7_sign__14 ?_
    refine xt_il X dX7_sign__15 rfl 1 rfl ?_
    refine xt_add X dX7_sign__16 ?_
    obtain ⟨g_3, h⟩ := h
    refine xt_iald X (kd_X7_0 hG k0) g_3 (by decide) dX7_sign__17 (fun r_4 => ?_)
    refine xt_cge (tgt := 33) X r2 r_4 dX7_sign__18 (by decide) (fun hc => ?_) (fun hc => ?_)
    · have h := h.1 hc
      refine xt_perm (lv2 := []) [] rfl ?_
      exact jX7_sign__33 X   h
    · have h := h.2 hc
      refine xt_al X dX7_sign__21 rfl 0 rfl ?_
      refine gfX7_7 X k0 dX7_sign__22 ?_
      refine xt_il X dX7_sign__25 rfl 1 rfl ?_
      refine xt_il X dX7_sign__26 rfl 2 rfl ?_
      refine xt_cSI X [rV (v0 + 1), iV (v1), iV (v2)] [] (ctX7_signAt hG (kd_X7_0 hG k0) r1 r2 h) gdX7_41 pdX7_signAt ⟨rfl, rfl⟩ ⟨Nat.le_of_ble_eq_true rfl, Nat.le_of_ble_eq_true rfl⟩ rfl (Nat.le_of_ble_eq_true rfl) dX7_sign__27 (fun z_5 M_6 z_5r h => ?_)
      refine xt_goto (tgt := 34) X dX7_sign__30 (by decide) ?_
      exact xt_iret X z_5r h dX7_sign__34
abbrev rmX7_widest : Room := { frames := 6, cells := 0, slots := 0, locals := 145 }
def BX7_widest_72  (Q : Int → Mm → Prop) (v0 : Int) (v2 : Int) (v3 : Int) (v4 : Int) (rec : Int → Mm → Prop) (v5 : Int) (M : Mm) : Prop :=
  ((v3 = 0 → (PX7_sizeOf (v0 + 1) v5 v2 M (fun z_10 M_11 =>
  ((v4 ≤ z_10 → Q v5 M_11) ∧
  (¬ v4 ≤ z_10 → (inR (v5 + 1) ∧
  rec (v5 + 1) M_11)))))) ∧
  (¬ v3 = 0 → (PX7_aheadOf (v0 + 1) v5 v2 M (fun z_13 M_14 =>
  ((v4 ≤ z_13 → Q v5 M_14) ∧
  (¬ v4 ≤ z_13 → (inR (v5 + 1) ∧
  rec (v5 + 1) M_14)))))))
def PX7_widest (v0 : Int) (v1 : Int) (v2 : Int) (M : Mm) (Q : Int → Mm → Prop) : Prop :=
  (PX7_needOf (v0 + 1) v1 v2 M (fun z_1 M_2 =>
  (((M_2 (v0 + 1) 2) ≤ z_1 → ((0 ≤ (303 + v2) ∧ (303 + v2) < 327) ∧
  (((M_2 (v0 + 1) (303 + v2)) = 3 → (((1 : Int) = 0 → (PX7_mostOf (v0 + 1) v1 v2 0 M_2 (fun z_22 M_23 =>
  (PX7_firstOf (v0 + 1) v1 v2 M_23 (fun z_24 M_25 =>
  ∃ n_26 : Nat, lp_I (BX7_widest_72  Q v0 v2 1 z_22) n_26 z_24 M_25))))) ∧
  (¬ (1 : Int) = 0 → (PX7_mostOf (v0 + 1) v1 v2 1 M_2 (fun z_27 M_28 =>
  (PX7_firstOf (v0 + 1) v1 v2 M_28 (fun z_29 M_30 =>
  ∃ n_31 : Nat, lp_I (BX7_widest_72  Q v0 v2 1 z_27) n_31 z_29 M_30))))))) ∧
  (¬ (M_2 (v0 + 1) (303 + v2)) = 3 → (((0 : Int) = 0 → (PX7_mostOf (v0 + 1) v1 v2 0 M_2 (fun z_6 M_7 =>
  (PX7_firstOf (v0 + 1) v1 v2 M_7 (fun z_8 M_9 =>
  ∃ n_16 : Nat, lp_I (BX7_widest_72  Q v0 v2 0 z_6) n_16 z_8 M_9))))) ∧
  (¬ (0 : Int) = 0 → (PX7_mostOf (v0 + 1) v1 v2 1 M_2 (fun z_17 M_18 =>
  (PX7_firstOf (v0 + 1) v1 v2 M_18 (fun z_19 M_20 =>
  ∃ n_21 : Nat, lp_I (BX7_widest_72  Q v0 v2 0 z_17) n_21 z_19 M_20)))))))))) ∧
  (¬ (M_2 (v0 + 1) 2) ≤ z_1 → Q ((-9)) M_2))))
set_option maxHeartbeats 4000000 in
set_option maxRecDepth 100000 in
theorem wX7_widest_72 {p : Program} {l : Launch} {e : Env} {s : State} {m : MethodId} {args : Array Value} {below : List Frame} {meth : Method} {c : Code} {G : GG} (X : Cx p s m args meth c cX7_widest 6 ((some FieldType.int)) RX7 G) {Q : Int → Mm → Prop}  {v0 : Int} {v2 : Int} {v3 : Int} {v4 : Int} (k0 : gK G v0 = (7, 0)) (r2 : inR v2) (r3 : inR v3) (r4 : inR v4)  : ∀ (n : Nat) (v5 : Int) (M : Mm), inR v5 → lp_I (BX7_widest_72  Q v0 v2 v3 v4) n v5 M → Wt p l e rmX7_widest s m args below meth c G (MQ below (PostI G Q) args s 0 0 (gA G)) 6 M [(0, rV (v0)), (2, iV (v2)), (3, iV (v3)), (4, iV (v4)), (5, iV (v5))] 72 [] := by
  have hG := X.2.2.2.2.2.2.2.2
  intro n
  induction n with
  | zero => intro v5 M r5 h; exact h.elim
  | succ n ih =>
    intro v5 M r5 h
    have h : BX7_widest_72  Q v0 v2 v3 v4 (lp_I (BX7_widest_72  Q v0 v2 v3 v4) n) v5 M := h
    unfold BX7_widest_72 at h
    refine xt_il X dX7_widest_72 rfl 2 rfl ?_
    refine xt_zeq (tgt := 89) X r3 dX7_widest_73 (by decide) (fun hc => ?_) (fun hc => ?_)
    · have h := h.1 hc
      refine xt_al X dX7_widest_89 rfl 0 rfl ?_
      refine gfX7_7 X k0 dX7_widest_90 ?_
      refine xt_ilw X dX7_widest_93 4 rfl ?_
      refine xt_il X dX7_widest_95 rfl 1 rfl ?_
      refine xt_cSI X [rV (v0 + 1), iV (v5), iV (v2)] [] (ctX7_sizeOf hG (kd_X7_0 hG k0) r5 r2 h) gdX7_48 pdX7_sizeOf ⟨rfl, rfl⟩ ⟨Nat.le_of_ble_eq_true rfl, Nat.le_of_ble_eq_true rfl⟩ rfl (Nat.le_of_ble_eq_true rfl) dX7_widest_96 (fun z_10 M_11 z_10r h => ?_)
      refine xt_ilw X dX7_widest_99 3 rfl ?_
      refine xt_cge (tgt := 110) X z_10r r4 dX7_widest_101 (by decide) (fun hc => ?_) (fun hc => ?_)
      · have h := h.1 hc
        refine xt_ilw X dX7_widest_110 4 rfl ?_
        exact xt_iret X r5 h dX7_widest_112
      · have h := h.2 hc
        refine xt_inc (lv2 := [(5, iV (v5 + 1)), (0, rV (v0)), (2, iV (v2)), (3, iV (v3)), (4, iV (v4))]) X dX7_widest_104 4 rfl (by decide) rfl ?_
        refine xt_goto (tgt := 72) X dX7_widest_107 (by decide) ?_
        obtain ⟨g_12, h⟩ := h
        refine xt_perm (lv2 := [(0, rV (v0)), (2, iV (v2)), (3, iV (v3)), (4, iV (v4)), (5, iV (v5 + 1))]) [1, 2, 3, 4, 0] rfl ?_
        exact ih (v5 + 1) M_11 g_12 h
    · have h := h.2 hc
      refine xt_al X dX7_widest_76 rfl 0 rfl ?_
      refine gfX7_7 X k0 dX7_widest_77 ?_
      refine xt_ilw X dX7_widest_80 4 rfl ?_
      refine xt_il X dX7_widest_82 rfl 1 rfl ?_
      refine xt_cSI X [rV (v0 + 1), iV (v5), iV (v2)] [] (ctX7_aheadOf hG (kd_X7_0 hG k0) r5 r2 h) gdX7_61 pdX7_aheadOf ⟨rfl, rfl⟩ ⟨Nat.le_of_ble_eq_true rfl, Nat.le_of_ble_eq_true rfl⟩ rfl (Nat.le_of_ble_eq_true rfl) dX7_widest_83 (fun z_13 M_14 z_13r h => ?_)
      refine xt_goto (tgt := 99) X dX7_widest_86 (by decide) ?_
      refine xt_ilw X dX7_widest_99 3 rfl ?_
      refine xt_cge (tgt := 110) X z_13r r4 dX7_widest_101 (by decide) (fun hc => ?_) (fun hc => ?_)
      · have h := h.1 hc
        refine xt_ilw X dX7_widest_110 4 rfl ?_
        exact xt_iret X r5 h dX7_widest_112
      · have h := h.2 hc
        refine xt_inc (lv2 := [(5, iV (v5 + 1)), (0, rV (v0)), (2, iV (v2)), (3, iV (v3)), (4, iV (v4))]) X dX7_widest_104 4 rfl (by decide) rfl ?_
        refine xt_goto (tgt := 72) X dX7_widest_107 (by decide) ?_
        obtain ⟨g_15, h⟩ := h
        refine xt_perm (lv2 := [(0, rV (v0)), (2, iV (v2)), (3, iV (v3)), (4, iV (v4)), (5, iV (v5 + 1))]) [1, 2, 3, 4, 0] rfl ?_
        exact ih (v5 + 1) M_14 g_15 h
set_option maxHeartbeats 4000000 in
set_option maxRecDepth 100000 in
theorem ctX7_widest {l : Launch} {G : GG} (hG : Gd G) {v0 : Int} {v1 : Int} {v2 : Int} {M : Mm} {Q : Int → Mm → Prop} (k0 : gK G v0 = (7, 0)) (r1 : inR v1) (r2 : inR v2) (h : PX7_widest v0 v1 v2 M Q) : Met l yX7_widest (Cond.code yX7_widest cX7_widest 6 ((some FieldType.int)) :: tw) rmX7_widest (Pre G M [rV (v0), iV (v1), iV (v2)]) (PostI G Q) 0 0 (gA G) := by
  refine met_of (own := RX7) (by decide) rfl hG (Nat.le_of_ble_eq_true rfl) (fun p e s m below meth c X => ?_)
  generalize hargs : ([rV (v0), iV (v1), iV (v2)] : List Value).toArray = args at X ⊢
  show Wt p l e rmX7_widest s m args below meth c G (MQ below (PostI G Q) args s 0 0 (gA G)) 6 M [(0, rV (v0)), (1, iV (v1)), (2, iV (v2))] 0 []
  unfold PX7_widest at h
  refine xt_al X dX7_widest_0 rfl 0 rfl ?_
  refine gfX7_7 X k0 dX7_widest_1 ?_
  refine xt_il X dX7_widest_4 rfl 1 rfl ?_
  refine xt_il X dX7_widest_5 rfl 2 rfl ?_
  refine xt_cSI X [rV (v0 + 1), iV (v1), iV (v2)] [] (ctX7_needOf hG (kd_X7_0 hG k0) r1 r2 h) gdX7_68 pdX7_needOf ⟨rfl, rfl⟩ ⟨Nat.le_of_ble_eq_true rfl, Nat.le_of_ble_eq_true rfl⟩ rfl (Nat.le_of_ble_eq_true rfl) dX7_widest_6 (fun z_1 M_2 z_1r h => ?_)
  refine xt_al X dX7_widest_9 rfl 0 rfl ?_
  refine gfX7_7 X k0 dX7_widest_10 ?_
  refine xt_ic X dX7_widest_13 ?_
  refine xt_iald X (kd_X7_0 hG k0) ⟨by decide, by decide⟩ (by decide) dX7_widest_14 (fun r_3 => ?_)
  refine xt_cge (tgt := 21) X z_1r r_3 dX7_widest_15 (by decide) (fun hc => ?_) (fun hc => ?_)
  · have h := h.1 hc
    refine xt_al X dX7_widest_21 rfl 0 rfl ?_
    refine gfX7_7 X k0 dX7_widest_22 ?_
    refine xt_si X dX7_widest_25 (by decide) ?_
    refine xt_il X dX7_widest_28 rfl 2 rfl ?_
    refine xt_add X dX7_widest_29 ?_
    obtain ⟨g_4, h⟩ := h
    refine xt_iald X (kd_X7_0 hG k0) g_4 (by decide) dX7_widest_30 (fun r_5 => ?_)
    refine xt_ic X dX7_widest_31 ?_
    refine xt_cne (tgt := 39) X r_5 (i_rc 3 rfl) dX7_widest_32 (by decide) (fun hc => ?_) (fun hc => ?_)
    · have h := h.2 hc
      refine xt_ic X dX7_widest_39 ?_
      refine xt_is (lv2 := [(3, iV (0)), (0, rV (v0)), (1, iV (v1)), (2, iV (v2))]) X dX7_widest_40 rfl (by decide) rfl ?_
      refine xt_al X dX7_widest_41 rfl 1 rfl ?_
      refine gfX7_7 X k0 dX7_widest_42 ?_
      refine xt_il X dX7_widest_45 rfl 2 rfl ?_
      refine xt_il X dX7_widest_46 rfl 3 rfl ?_
      refine xt_il X dX7_widest_47 rfl 0 rfl ?_
      refine xt_zeq (tgt := 55) X (i_rc 0 rfl) dX7_widest_48 (by decide) (fun hc => ?_) (fun hc => ?_)
      · have h := h.1 hc
        refine xt_ic X dX7_widest_55 ?_
        refine xt_cSI X [rV (v0 + 1), iV (v1), iV (v2), iV (0)] [] (ctX7_mostOf hG (kd_X7_0 hG k0) r1 r2 (i_rc 0 rfl) h) gdX7_64 pdX7_mostOf ⟨rfl, rfl⟩ ⟨Nat.le_of_ble_eq_true rfl, Nat.le_of_ble_eq_true rfl⟩ rfl (Nat.le_of_ble_eq_true rfl) dX7_widest_56 (fun z_6 M_7 z_6r h => ?_)
        refine xt_isw (lv2 := [(4, iV (z_6)), (3, iV (0)), (0, rV (v0)), (1, iV (v1)), (2, iV (v2))]) X dX7_widest_59 (by decide) rfl ?_
        refine xt_al X dX7_widest_61 rfl 2 rfl ?_
        refine gfX7_7 X k0 dX7_widest_62 ?_
        refine xt_il X dX7_widest_65 rfl 3 rfl ?_
        refine xt_il X dX7_widest_66 rfl 4 rfl ?_
        refine xt_cSI X [rV (v0 + 1), iV (v1), iV (v2)] [] (ctX7_firstOf hG (kd_X7_0 hG k0) r1 r2 h) gdX7_58 pdX7_firstOf ⟨rfl, rfl⟩ ⟨Nat.le_of_ble_eq_true rfl, Nat.le_of_ble_eq_true rfl⟩ rfl (Nat.le_of_ble_eq_true rfl) dX7_widest_67 (fun z_8 M_9 z_8r h => ?_)
        refine xt_isw (lv2 := [(5, iV (z_8)), (4, iV (z_6)), (3, iV (0)), (0, rV (v0)), (1, iV (v1)), (2, iV (v2))]) X dX7_widest_70 (by decide) rfl ?_
        obtain ⟨n_16, h⟩ := h
        refine xt_perm (lv2 := [(0, rV (v0)), (2, iV (v2)), (3, iV (0)), (4, iV (z_6)), (5, iV (z_8))]) [3, 5, 2, 1, 0] rfl ?_
        refine wX7_widest_72 X k0 r2 (i_rc 0 rfl) z_6r  n_16 z_8 M_9 z_8r h
      · have h := h.2 hc
        refine xt_ic X dX7_widest_51 ?_
        refine xt_goto (tgt := 56) X dX7_widest_52 (by decide) ?_
        refine xt_cSI X [rV (v0 + 1), iV (v1), iV (v2), iV (1)] [] (ctX7_mostOf hG (kd_X7_0 hG k0) r1 r2 (i_rc 1 rfl) h) gdX7_64 pdX7_mostOf ⟨rfl, rfl⟩ ⟨Nat.le_of_ble_eq_true rfl, Nat.le_of_ble_eq_true rfl⟩ rfl (Nat.le_of_ble_eq_true rfl) dX7_widest_56 (fun z_17 M_18 z_17r h => ?_)
        refine xt_isw (lv2 := [(4, iV (z_17)), (3, iV (0)), (0, rV (v0)), (1, iV (v1)), (2, iV (v2))]) X dX7_widest_59 (by decide) rfl ?_
        refine xt_al X dX7_widest_61 rfl 2 rfl ?_
        refine gfX7_7 X k0 dX7_widest_62 ?_
        refine xt_il X dX7_widest_65 rfl 3 rfl ?_
        refine xt_il X dX7_widest_66 rfl 4 rfl ?_
        refine xt_cSI X [rV (v0 + 1), iV (v1), iV (v2)] [] (ctX7_firstOf hG (kd_X7_0 hG k0) r1 r2 h) gdX7_58 pdX7_firstOf ⟨rfl, rfl⟩ ⟨Nat.le_of_ble_eq_true rfl, Nat.le_of_ble_eq_true rfl⟩ rfl (Nat.le_of_ble_eq_true rfl) dX7_widest_67 (fun z_19 M_20 z_19r h => ?_)
        refine xt_isw (lv2 := [(5, iV (z_19)), (4, iV (z_17)), (3, iV (0)), (0, rV (v0)), (1, iV (v1)), (2, iV (v2))]) X dX7_widest_70 (by decide) rfl ?_
        obtain ⟨n_21, h⟩ := h
        refine xt_perm (lv2 := [(0, rV (v0)), (2, iV (v2)), (3, iV (0)), (4, iV (z_17)), (5, iV (z_19))]) [3, 5, 2, 1, 0] rfl ?_
        refine wX7_widest_72 X k0 r2 (i_rc 0 rfl) z_17r  n_21 z_19 M_20 z_19r h
    · have h := h.1 hc
      refine xt_ic X dX7_widest_35 ?_
      refine xt_goto (tgt := 40) X dX7_widest_36 (by decide) ?_
      refine xt_is (lv2 := [(3, iV (1)), (0, rV (v0)), (1, iV (v1)), (2, iV (v2))]) X dX7_widest_40 rfl (by decide) rfl ?_
      refine xt_al X dX7_widest_41 rfl 1 rfl ?_
      refine gfX7_7 X k0 dX7_widest_42 ?_
      refine xt_il X dX7_widest_45 rfl 2 rfl ?_
      refine xt_il X dX7_widest_46 rfl 3 rfl ?_
      refine xt_il X dX7_widest_47 rfl 0 rfl ?_
      refine xt_zeq (tgt := 55) X (i_rc 1 rfl) dX7_widest_48 (by decide) (fun hc => ?_) (fun hc => ?_)
      · have h := h.1 hc
        refine xt_ic X dX7_widest_55 ?_
        refine xt_cSI X [rV (v0 + 1), iV (v1), iV (v2), iV (0)] [] (ctX7_mostOf hG (kd_X7_0 hG k0) r1 r2 (i_rc 0 rfl) h) gdX7_64 pdX7_mostOf ⟨rfl, rfl⟩ ⟨Nat.le_of_ble_eq_true rfl, Nat.le_of_ble_eq_true rfl⟩ rfl (Nat.le_of_ble_eq_true rfl) dX7_widest_56 (fun z_22 M_23 z_22r h => ?_)
        refine xt_isw (lv2 := [(4, iV (z_22)), (3, iV (1)), (0, rV (v0)), (1, iV (v1)), (2, iV (v2))]) X dX7_widest_59 (by decide) rfl ?_
        refine xt_al X dX7_widest_61 rfl 2 rfl ?_
        refine gfX7_7 X k0 dX7_widest_62 ?_
        refine xt_il X dX7_widest_65 rfl 3 rfl ?_
        refine xt_il X dX7_widest_66 rfl 4 rfl ?_
        refine xt_cSI X [rV (v0 + 1), iV (v1), iV (v2)] [] (ctX7_firstOf hG (kd_X7_0 hG k0) r1 r2 h) gdX7_58 pdX7_firstOf ⟨rfl, rfl⟩ ⟨Nat.le_of_ble_eq_true rfl, Nat.le_of_ble_eq_true rfl⟩ rfl (Nat.le_of_ble_eq_true rfl) dX7_widest_67 (fun z_24 M_25 z_24r h => ?_)
        refine xt_isw (lv2 := [(5, iV (z_24)), (4, iV (z_22)), (3, iV (1)), (0, rV (v0)), (1, iV (v1)), (2, iV (v2))]) X dX7_widest_70 (by decide) rfl ?_
        obtain ⟨n_26, h⟩ := h
        refine xt_perm (lv2 := [(0, rV (v0)), (2, iV (v2)), (3, iV (1)), (4, iV (z_22)), (5, iV (z_24))]) [3, 5, 2, 1, 0] rfl ?_
        refine wX7_widest_72 X k0 r2 (i_rc 1 rfl) z_22r  n_26 z_24 M_25 z_24r h
      · have h := h.2 hc
        refine xt_ic X dX7_widest_51 ?_
        refine xt_goto (tgt := 56) X dX7_widest_52 (by decide) ?_
        refine xt_cSI X [rV (v0 + 1), iV (v1), iV (v2), iV (1)] [] (ctX7_mostOf hG (kd_X7_0 hG k0) r1 r2 (i_rc 1 rfl) h) gdX7_64 pdX7_mostOf ⟨rfl, rfl⟩ ⟨Nat.le_of_ble_eq_true rfl, Nat.le_of_ble_eq_true rfl⟩ rfl (Nat.le_of_ble_eq_true rfl) dX7_widest_56 (fun z_27 M_28 z_27r h => ?_)
        refine xt_isw (lv2 := [(4, iV (z_27)), (3, iV (1)), (0, rV (v0)), (1, iV (v1)), (2, iV (v2))]) X dX7_widest_59 (by decide) rfl ?_
        refine xt_al X dX7_widest_61 rfl 2 rfl ?_
        refine gfX7_7 X k0 dX7_widest_62 ?_
        refine xt_il X dX7_widest_65 rfl 3 rfl ?_
        refine xt_il X dX7_widest_66 rfl 4 rfl ?_
        refine xt_cSI X [rV (v0 + 1), iV (v1), iV (v2)] [] (ctX7_firstOf hG (kd_X7_0 hG k0) r1 r2 h) gdX7_58 pdX7_firstOf ⟨rfl, rfl⟩ ⟨Nat.le_of_ble_eq_true rfl, Nat.le_of_ble_eq_true rfl⟩ rfl (Nat.le_of_ble_eq_true rfl) dX7_widest_67 (fun z_29 M_30 z_29r h => ?_)
        refine xt_isw (lv2 := [(5, iV (z_29)), (4, iV (z_27)), (3, iV (1)), (0, rV (v0)), (1, iV (v1)), (2, iV (v2))]) X dX7_widest_70 (by decide) rfl ?_
        obtain ⟨n_31, h⟩ := h
        refine xt_perm (lv2 := [(0, rV (v0)), (2, iV (v2)), (3, iV (1)), (4, iV (z_27)), (5, iV (z_29))]) [3, 5, 2, 1, 0] rfl ?_
        refine wX7_widest_72 X k0 r2 (i_rc 1 rfl) z_27r  n_31 z_29 M_30 z_29r h
  · have h := h.2 hc
    refine xt_bi X dX7_widest_18 (by decide) ?_
    exact xt_iret X (i_rc (-9) rfl) h dX7_widest_20
abbrev rmX7_saves : Room := { frames := 10, cells := 0, slots := 0, locals := 236 }
def BX7_saves_54 (ke100 : Mm → Prop) (Q : Int → Mm → Prop) (v0 : Int) (v1 : Int) (rec : Int → Mm → Prop) (v4 : Int) (M : Mm) : Prop :=
  ((0 ≤ (3 + v1) ∧ (3 + v1) < 327) ∧
  (((M (v0 + 2) (3 + v1)) ≤ v4 → ke100 M) ∧
  (¬ (M (v0 + 2) (3 + v1)) ≤ v4 → (inR (v4 + 1) ∧
  (PX7_signAt (v0 + 1) v1 (v4 + 1) M (fun z_15 M_16 =>
  ((0 ≤ ((15 + (24 * v1)) + v4) ∧ ((15 + (24 * v1)) + v4) < 327) ∧
  (∀ M_18 : Mm, M_18 = um M_16 (v0 + 2) ((15 + (24 * v1)) + v4) z_15 →
  (inR (v4 + 1) ∧
  rec (v4 + 1) M_18)))))))))
def PX7_saves (v0 : Int) (v1 : Int) (v2 : Int) (M : Mm) (Q : Int → Mm → Prop) : Prop :=
  (PX7_sizeOf (v0 + 1) v1 v2 M (fun z_1 M_2 =>
  ((z_1 = 0 → Q 0 M_2) ∧
  (¬ z_1 = 0 → (PX7_copies (v0 + 1) (v0 + 2) M_2 (fun M_4 =>
  ((0 ≤ (3 + v1) ∧ (3 + v1) < 327) ∧
  ((0 ≤ (3 + v1) ∧ (3 + v1) < 327) ∧
  (inR ((M_4 (v0 + 2) (3 + v1)) - 1) ∧
  (∀ M_9 : Mm, M_9 = um M_4 (v0 + 2) (3 + v1) ((M_4 (v0 + 2) (3 + v1)) - 1) →
  (PX7_fromOf (v0 + 1) v1 v2 M_9 (fun z_10 M_11 =>
  (inR ((z_10 + z_1) - 1) ∧
  ∃ n_20 : Nat, lp_I (BX7_saves_54 (fun M_22 => (PX7_allWide (v0 + 1) M_22 (fun z_23 M_24 =>
  (PX7_allWide (v0 + 2) M_24 (fun z_25 M_26 =>
  (inR (z_23 - z_25) ∧
  Q (z_23 - z_25) M_26)))))) Q v0 v1) n_20 ((z_10 + z_1) - 1) M_11)))))))))))))
set_option maxHeartbeats 4000000 in
set_option maxRecDepth 100000 in
theorem wX7_saves_54 {p : Program} {l : Launch} {e : Env} {s : State} {m : MethodId} {args : Array Value} {below : List Frame} {meth : Method} {c : Code} {G : GG} (X : Cx p s m args meth c cX7_saves 5 ((some FieldType.int)) RX7 G) {Q : Int → Mm → Prop} {ke100 : Mm → Prop} {v0 : Int} {v1 : Int} (k0 : gK G v0 = (7, 0)) (r1 : inR v1) (hke100 : ∀ (M : Mm), ke100  M → Wt p l e rmX7_saves s m args below meth c G (MQ below (PostI G Q) args s 0 0 (gA G)) 5 M [(0, rV (v0))] 100 []) : ∀ (n : Nat) (v4 : Int) (M : Mm), inR v4 → lp_I (BX7_saves_54 ke100 Q v0 v1) n v4 M → Wt p l e rmX7_saves s m args below meth c G (MQ below (PostI G Q) args s 0 0 (gA G)) 5 M [(0, rV (v0)), (1, iV (v1)), (4, iV (v4))] 54 [] := by
  have hG := X.2.2.2.2.2.2.2.2
  intro n
  induction n with
  | zero => intro v4 M r4 h; exact h.elim
  | succ n ih =>
    intro v4 M r4 h
    have h : BX7_saves_54 ke100 Q v0 v1 (lp_I (BX7_saves_54 ke100 Q v0 v1) n) v4 M := h
    unfold BX7_saves_54 at h
    refine xt_ilw X dX7_saves_54 2 rfl ?_
    refine xt_al X dX7_saves_56 rfl 0 rfl ?_
    refine gfX7_13 X k0 dX7_saves_57 ?_
    refine xt_ic X dX7_saves_60 ?_
    refine xt_il X dX7_saves_61 rfl 1 rfl ?_
    refine xt_add X dX7_saves_62 ?_
    obtain ⟨g_12, h⟩ := h
    refine xt_iald X (kd_X7_1 hG k0) g_12 (by decide) dX7_saves_63 (fun r_13 => ?_)
    refine xt_cge (tgt := 100) X r4 r_13 dX7_saves_64 (by decide) (fun hc => ?_) (fun hc => ?_)
    · have h := h.1 hc
      refine xt_perm (lv2 := [(0, rV (v0))]) [0] rfl ?_
      exact hke100 M  h
    · have h := h.2 hc
      refine xt_al X dX7_saves_67 rfl 0 rfl ?_
      refine gfX7_13 X k0 dX7_saves_68 ?_
      refine xt_bi X dX7_saves_71 (by decide) ?_
      refine xt_bi X dX7_saves_73 (by decide) ?_
      refine xt_il X dX7_saves_75 rfl 1 rfl ?_
      refine xt_mul X dX7_saves_76 ?_
      refine xt_add X dX7_saves_77 ?_
      refine xt_ilw X dX7_saves_78 2 rfl ?_
      refine xt_add X dX7_saves_80 ?_
      refine xt_al X dX7_saves_81 rfl 0 rfl ?_
      refine gfX7_7 X k0 dX7_saves_82 ?_
      refine xt_il X dX7_saves_85 rfl 1 rfl ?_
      refine xt_ilw X dX7_saves_86 2 rfl ?_
      refine xt_ic X dX7_saves_88 ?_
      refine xt_add X dX7_saves_89 ?_
      obtain ⟨g_14, h⟩ := h
      refine xt_cSI X [rV (v0 + 1), iV (v1), iV (v4 + 1)] [iV ((15 + (24 * v1)) + v4), rV (v0 + 2)] (ctX7_signAt hG (kd_X7_0 hG k0) r1 g_14 h) gdX7_41 pdX7_signAt ⟨rfl, rfl⟩ ⟨Nat.le_of_ble_eq_true rfl, Nat.le_of_ble_eq_true rfl⟩ rfl (Nat.le_of_ble_eq_true rfl) dX7_saves_90 (fun z_15 M_16 z_15r h => ?_)
      obtain ⟨g_17, h⟩ := h
      refine xt_iast X (kd_X7_1 hG k0) g_17 (by decide) z_15r dX7_saves_93 (fun M_18 hm => ?_)
      have h := h M_18 hm
      refine xt_inc (lv2 := [(4, iV (v4 + 1)), (0, rV (v0)), (1, iV (v1))]) X dX7_saves_94 2 rfl (by decide) rfl ?_
      refine xt_goto (tgt := 54) X dX7_saves_97 (by decide) ?_
      obtain ⟨g_19, h⟩ := h
      refine xt_perm (lv2 := [(0, rV (v0)), (1, iV (v1)), (4, iV (v4 + 1))]) [1, 2, 0] rfl ?_
      exact ih (v4 + 1) M_18 g_19 h
set_option maxHeartbeats 4000000 in
set_option maxRecDepth 100000 in
theorem ctX7_saves {l : Launch} {G : GG} (hG : Gd G) {v0 : Int} {v1 : Int} {v2 : Int} {M : Mm} {Q : Int → Mm → Prop} (k0 : gK G v0 = (7, 0)) (r1 : inR v1) (r2 : inR v2) (h : PX7_saves v0 v1 v2 M Q) : Met l yX7_saves (Cond.code yX7_saves cX7_saves 5 ((some FieldType.int)) :: tw) rmX7_saves (Pre G M [rV (v0), iV (v1), iV (v2)]) (PostI G Q) 0 0 (gA G) := by
  refine met_of (own := RX7) (by decide) rfl hG (Nat.le_of_ble_eq_true rfl) (fun p e s m below meth c X => ?_)
  generalize hargs : ([rV (v0), iV (v1), iV (v2)] : List Value).toArray = args at X ⊢
  show Wt p l e rmX7_saves s m args below meth c G (MQ below (PostI G Q) args s 0 0 (gA G)) 5 M [(0, rV (v0)), (1, iV (v1)), (2, iV (v2))] 0 []
  unfold PX7_saves at h
  refine xt_al X dX7_saves_0 rfl 0 rfl ?_
  refine gfX7_7 X k0 dX7_saves_1 ?_
  refine xt_il X dX7_saves_4 rfl 1 rfl ?_
  refine xt_il X dX7_saves_5 rfl 2 rfl ?_
  refine xt_cSI X [rV (v0 + 1), iV (v1), iV (v2)] [] (ctX7_sizeOf hG (kd_X7_0 hG k0) r1 r2 h) gdX7_48 pdX7_sizeOf ⟨rfl, rfl⟩ ⟨Nat.le_of_ble_eq_true rfl, Nat.le_of_ble_eq_true rfl⟩ rfl (Nat.le_of_ble_eq_true rfl) dX7_saves_6 (fun z_1 M_2 z_1r h => ?_)
  refine xt_is (lv2 := [(3, iV (z_1)), (0, rV (v0)), (1, iV (v1)), (2, iV (v2))]) X dX7_saves_9 rfl (by decide) rfl ?_
  refine xt_il X dX7_saves_10 rfl 0 rfl ?_
  refine xt_zne (tgt := 16) X z_1r dX7_saves_11 (by decide) (fun hc => ?_) (fun hc => ?_)
  · have h := h.2 hc
    refine xt_al X dX7_saves_16 rfl 1 rfl ?_
    refine gfX7_7 X k0 dX7_saves_17 ?_
    refine xt_al X dX7_saves_20 rfl 1 rfl ?_
    refine gfX7_13 X k0 dX7_saves_21 ?_
    refine xt_cSV X [rV (v0 + 1), rV (v0 + 2)] [] (ctX7_copies hG (kd_X7_0 hG k0) (kd_X7_1 hG k0) h) gdX7_84 pdX7_copies ⟨rfl, rfl⟩ ⟨Nat.le_of_ble_eq_true rfl, Nat.le_of_ble_eq_true rfl⟩ rfl (Nat.le_of_ble_eq_true rfl) dX7_saves_24 (fun M_4 h => ?_)
    refine xt_al X dX7_saves_27 rfl 1 rfl ?_
    refine gfX7_13 X k0 dX7_saves_28 ?_
    refine xt_ic X dX7_saves_31 ?_
    refine xt_il X dX7_saves_32 rfl 2 rfl ?_
    refine xt_add X dX7_saves_33 ?_
    refine xt_dup2 X rfl rfl dX7_saves_34 ?_
    obtain ⟨g_5, h⟩ := h
    refine xt_iald X (kd_X7_1 hG k0) g_5 (by decide) dX7_saves_35 (fun r_6 => ?_)
    refine xt_ic X dX7_saves_36 ?_
    refine xt_sub X dX7_saves_37 ?_
    obtain ⟨g_7, h⟩ := h
    obtain ⟨g_8, h⟩ := h
    refine xt_iast X (kd_X7_1 hG k0) g_7 (by decide) g_8 dX7_saves_38 (fun M_9 hm => ?_)
    have h := h M_9 hm
    refine xt_al X dX7_saves_39 rfl 1 rfl ?_
    refine gfX7_7 X k0 dX7_saves_40 ?_
    refine xt_il X dX7_saves_43 rfl 2 rfl ?_
    refine xt_il X dX7_saves_44 rfl 3 rfl ?_
    refine xt_cSI X [rV (v0 + 1), iV (v1), iV (v2)] [] (ctX7_fromOf hG (kd_X7_0 hG k0) r1 r2 h) gdX7_45 pdX7_fromOf ⟨rfl, rfl⟩ ⟨Nat.le_of_ble_eq_true rfl, Nat.le_of_ble_eq_true rfl⟩ rfl (Nat.le_of_ble_eq_true rfl) dX7_saves_45 (fun z_10 M_11 z_10r h => ?_)
    refine xt_il X dX7_saves_48 rfl 0 rfl ?_
    refine xt_add X dX7_saves_49 ?_
    refine xt_ic X dX7_saves_50 ?_
    refine xt_sub X dX7_saves_51 ?_
    refine xt_isw (lv2 := [(4, iV ((z_10 + z_1) - 1)), (3, iV (z_1)), (0, rV (v0)), (1, iV (v1)), (2, iV (v2))]) X dX7_saves_52 (by decide) rfl ?_
    obtain ⟨g_21, h⟩ := h
    obtain ⟨n_20, h⟩ := h
    refine xt_perm (lv2 := [(0, rV (v0)), (1, iV (v1)), (4, iV ((z_10 + z_1) - 1))]) [2, 3, 0] rfl ?_
    refine wX7_saves_54 X k0 r1 (fun M_22 h => ?_) n_20 ((z_10 + z_1) - 1) M_11 g_21 h
    refine xt_al X dX7_saves_100 rfl 0 rfl ?_
    refine gfX7_7 X k0 dX7_saves_101 ?_
    refine xt_cSI X [rV (v0 + 1)] [] (ctX7_allWide hG (kd_X7_0 hG k0) h) gdX7_222 pdX7_allWide ⟨rfl, rfl⟩ ⟨Nat.le_of_ble_eq_true rfl, Nat.le_of_ble_eq_true rfl⟩ rfl (Nat.le_of_ble_eq_true rfl) dX7_saves_104 (fun z_23 M_24 z_23r h => ?_)
    refine xt_al X dX7_saves_107 rfl 0 rfl ?_
    refine gfX7_13 X k0 dX7_saves_108 ?_
    refine xt_cSI X [rV (v0 + 2)] [iV (z_23)] (ctX7_allWide hG (kd_X7_1 hG k0) h) gdX7_222 pdX7_allWide ⟨rfl, rfl⟩ ⟨Nat.le_of_ble_eq_true rfl, Nat.le_of_ble_eq_true rfl⟩ rfl (Nat.le_of_ble_eq_true rfl) dX7_saves_111 (fun z_25 M_26 z_25r h => ?_)
    refine xt_sub X dX7_saves_114 ?_
    obtain ⟨g_27, h⟩ := h
    exact xt_iret X g_27 h dX7_saves_115
  · have h := h.1 hc
    refine xt_ic X dX7_saves_14 ?_
    exact xt_iret X (i_rc 0 rfl) h dX7_saves_15
abbrev rmX7_cell : Room := { frames := 11, cells := 0, slots := 0, locals := 260 }
def PX7_cell (v0 : Int) (v1 : Int) (v2 : Int) (v3 : Int) (M : Mm) (Q : Int → Mm → Prop) : Prop :=
  (PX7_isLine v0 v1 M (fun z_1 M_2 =>
  ((z_1 = 0 → Q ((-1)) M_2) ∧
  (¬ z_1 = 0 → (PX7_cellsOf (v0 + 1) v1 M_2 (fun z_3 M_4 =>
  (inR (z_3 - 1) ∧
  (PX7_in v2 0 (z_3 - 1) M_4 (fun z_6 M_7 =>
  ((z_6 = 0 → Q ((-1)) M_7) ∧
  (¬ z_6 = 0 → (((v3 < 0 ∨ 6 < v3) → Q ((-1)) M_7) ∧
  (v3 = 0 → (PX7_sizeOf (v0 + 1) v1 v2 M_7 (fun z_8 M_9 =>
  Q z_8 M_9))) ∧
  (v3 = 1 → (PX7_widthOf (v0 + 1) v1 v2 M_7 (fun z_10 M_11 =>
  Q z_10 M_11))) ∧
  (v3 = 2 → (PX7_beginsOf (v0 + 1) v1 v2 M_7 (fun z_12 M_13 =>
  Q z_12 M_13))) ∧
  (v3 = 3 → (PX7_firstOf (v0 + 1) v1 v2 M_7 (fun z_14 M_15 =>
  Q z_14 M_15))) ∧
  (v3 = 4 → (PX7_lastOf (v0 + 1) v1 v2 M_7 (fun z_16 M_17 =>
  Q z_16 M_17))) ∧
  (v3 = 5 → (PX7_widest v0 v1 v2 M_7 (fun z_18 M_19 =>
  Q z_18 M_19))) ∧
  (v3 = 6 → (PX7_saves v0 v1 v2 M_7 (fun z_20 M_21 =>
  Q z_20 M_21)))))))))))))))
set_option maxHeartbeats 4000000 in
set_option maxRecDepth 100000 in
theorem ctX7_cell {l : Launch} {G : GG} (hG : Gd G) {v0 : Int} {v1 : Int} {v2 : Int} {v3 : Int} {M : Mm} {Q : Int → Mm → Prop} (k0 : gK G v0 = (7, 0)) (r1 : inR v1) (r2 : inR v2) (r3 : inR v3) (h : PX7_cell v0 v1 v2 v3 M Q) : Met l yX7_cell (Cond.code yX7_cell cX7_cell 4 ((some FieldType.int)) :: tw) rmX7_cell (Pre G M [rV (v0), iV (v1), iV (v2), iV (v3)]) (PostI G Q) 0 0 (gA G) := by
  refine met_of (own := RX7) (by decide) rfl hG (Nat.le_of_ble_eq_true rfl) (fun p e s m below meth c X => ?_)
  generalize hargs : ([rV (v0), iV (v1), iV (v2), iV (v3)] : List Value).toArray = args at X ⊢
  show Wt p l e rmX7_cell s m args below meth c G (MQ below (PostI G Q) args s 0 0 (gA G)) 4 M [(0, rV (v0)), (1, iV (v1)), (2, iV (v2)), (3, iV (v3))] 0 []
  unfold PX7_cell at h
  refine xt_al X dX7_cell_0 rfl 0 rfl ?_
  refine xt_il X dX7_cell_1 rfl 1 rfl ?_
  refine xt_cVI X [iV (v1)] [] (ctX7_isLine hG k0 r1 h) gdX7_102 pdX7_isLine ⟨rfl, rfl⟩ ⟨Nat.le_of_ble_eq_true rfl, Nat.le_of_ble_eq_true rfl⟩ rfl (k_lt k0 (by decide)) (by rw [k0]; rfl) rfl (Nat.le_of_ble_eq_true rfl) dX7_cell_2 (fun z_1 M_2 z_1r h => ?_)
  refine xt_zeq (tgt := 26) X z_1r dX7_cell_5 (by decide) (fun hc => ?_) (fun hc => ?_)
  · have h := h.1 hc
    refine xt_ic X dX7_cell_26 ?_
    exact xt_iret X (i_rc (-1) rfl) h dX7_cell_27
  · have h := h.2 hc
    refine xt_il X dX7_cell_8 rfl 2 rfl ?_
    refine xt_ic X dX7_cell_9 ?_
    refine xt_al X dX7_cell_10 rfl 0 rfl ?_
    refine gfX7_7 X k0 dX7_cell_11 ?_
    refine xt_il X dX7_cell_14 rfl 1 rfl ?_
    refine xt_cSI X [rV (v0 + 1), iV (v1)] [iV (0), iV (v2)] (ctX7_cellsOf hG (kd_X7_0 hG k0) r1 h) gdX7_51 pdX7_cellsOf ⟨rfl, rfl⟩ ⟨Nat.le_of_ble_eq_true rfl, Nat.le_of_ble_eq_true rfl⟩ rfl (Nat.le_of_ble_eq_true rfl) dX7_cell_15 (fun z_3 M_4 z_3r h => ?_)
    refine xt_ic X dX7_cell_18 ?_
    refine xt_sub X dX7_cell_19 ?_
    obtain ⟨g_5, h⟩ := h
    refine xt_cSI X [iV (v2), iV (0), iV (z_3 - 1)] [] (ctX7_in hG r2 (i_rc 0 rfl) g_5 h) gdX7_80 pdX7_in ⟨rfl, rfl⟩ ⟨Nat.le_of_ble_eq_true rfl, Nat.le_of_ble_eq_true rfl⟩ rfl (Nat.le_of_ble_eq_true rfl) dX7_cell_20 (fun z_6 M_7 z_6r h => ?_)
    refine xt_zne (tgt := 28) X z_6r dX7_cell_23 (by decide) (fun hc => ?_) (fun hc => ?_)
    · have h := h.2 hc
      refine xt_il X dX7_cell_28 rfl 3 rfl ?_
      rcases (show (v3 < 0 ∨ 6 < v3) ∨ v3 = 0 ∨ v3 = 1 ∨ v3 = 2 ∨ v3 = 3 ∨ v3 = 4 ∨ v3 = 5 ∨ v3 = 6 by omega) with hc | hc | hc | hc | hc | hc | hc | hc
      · have h := h.1 hc
        refine xt_tout (tgt := 136) X r3 dX7_cell_29 hc (by decide) ?_
        refine xt_ic X dX7_cell_136 ?_
        exact xt_iret X (i_rc (-1) rfl) h dX7_cell_137
      · have h := h.2.1 hc
        refine xt_tin (tgt := 72) X r3 dX7_cell_29 0 hc (by decide) (by decide) rfl (by decide) ?_
        refine xt_al X dX7_cell_72 rfl 0 rfl ?_
        refine gfX7_7 X k0 dX7_cell_73 ?_
        refine xt_il X dX7_cell_76 rfl 1 rfl ?_
        refine xt_il X dX7_cell_77 rfl 2 rfl ?_
        refine xt_cSI X [rV (v0 + 1), iV (v1), iV (v2)] [] (ctX7_sizeOf hG (kd_X7_0 hG k0) r1 r2 h) gdX7_48 pdX7_sizeOf ⟨rfl, rfl⟩ ⟨Nat.le_of_ble_eq_true rfl, Nat.le_of_ble_eq_true rfl⟩ rfl (Nat.le_of_ble_eq_true rfl) dX7_cell_78 (fun z_8 M_9 z_8r h => ?_)
        exact xt_iret X z_8r h dX7_cell_81
      · have h := h.2.2.1 hc
        refine xt_tin (tgt := 82) X r3 dX7_cell_29 1 hc (by decide) (by decide) rfl (by decide) ?_
        refine xt_al X dX7_cell_82 rfl 0 rfl ?_
        refine gfX7_7 X k0 dX7_cell_83 ?_
        refine xt_il X dX7_cell_86 rfl 1 rfl ?_
        refine xt_il X dX7_cell_87 rfl 2 rfl ?_
        refine xt_cSI X [rV (v0 + 1), iV (v1), iV (v2)] [] (ctX7_widthOf hG (kd_X7_0 hG k0) r1 r2 h) gdX7_71 pdX7_widthOf ⟨rfl, rfl⟩ ⟨Nat.le_of_ble_eq_true rfl, Nat.le_of_ble_eq_true rfl⟩ rfl (Nat.le_of_ble_eq_true rfl) dX7_cell_88 (fun z_10 M_11 z_10r h => ?_)
        exact xt_iret X z_10r h dX7_cell_91
      · have h := h.2.2.2.1 hc
        refine xt_tin (tgt := 92) X r3 dX7_cell_29 2 hc (by decide) (by decide) rfl (by decide) ?_
        refine xt_al X dX7_cell_92 rfl 0 rfl ?_
        refine gfX7_7 X k0 dX7_cell_93 ?_
        refine xt_il X dX7_cell_96 rfl 1 rfl ?_
        refine xt_il X dX7_cell_97 rfl 2 rfl ?_
        refine xt_cSI X [rV (v0 + 1), iV (v1), iV (v2)] [] (ctX7_beginsOf hG (kd_X7_0 hG k0) r1 r2 h) gdX7_74 pdX7_beginsOf ⟨rfl, rfl⟩ ⟨Nat.le_of_ble_eq_true rfl, Nat.le_of_ble_eq_true rfl⟩ rfl (Nat.le_of_ble_eq_true rfl) dX7_cell_98 (fun z_12 M_13 z_12r h => ?_)
        exact xt_iret X z_12r h dX7_cell_101
      · have h := h.2.2.2.2.1 hc
        refine xt_tin (tgt := 102) X r3 dX7_cell_29 3 hc (by decide) (by decide) rfl (by decide) ?_
        refine xt_al X dX7_cell_102 rfl 0 rfl ?_
        refine gfX7_7 X k0 dX7_cell_103 ?_
        refine xt_il X dX7_cell_106 rfl 1 rfl ?_
        refine xt_il X dX7_cell_107 rfl 2 rfl ?_
        refine xt_cSI X [rV (v0 + 1), iV (v1), iV (v2)] [] (ctX7_firstOf hG (kd_X7_0 hG k0) r1 r2 h) gdX7_58 pdX7_firstOf ⟨rfl, rfl⟩ ⟨Nat.le_of_ble_eq_true rfl, Nat.le_of_ble_eq_true rfl⟩ rfl (Nat.le_of_ble_eq_true rfl) dX7_cell_108 (fun z_14 M_15 z_14r h => ?_)
        exact xt_iret X z_14r h dX7_cell_111
      · have h := h.2.2.2.2.2.1 hc
        refine xt_tin (tgt := 112) X r3 dX7_cell_29 4 hc (by decide) (by decide) rfl (by decide) ?_
        refine xt_al X dX7_cell_112 rfl 0 rfl ?_
        refine gfX7_7 X k0 dX7_cell_113 ?_
        refine xt_il X dX7_cell_116 rfl 1 rfl ?_
        refine xt_il X dX7_cell_117 rfl 2 rfl ?_
        refine xt_cSI X [rV (v0 + 1), iV (v1), iV (v2)] [] (ctX7_lastOf hG (kd_X7_0 hG k0) r1 r2 h) gdX7_55 pdX7_lastOf ⟨rfl, rfl⟩ ⟨Nat.le_of_ble_eq_true rfl, Nat.le_of_ble_eq_true rfl⟩ rfl (Nat.le_of_ble_eq_true rfl) dX7_cell_118 (fun z_16 M_17 z_16r h => ?_)
        exact xt_iret X z_16r h dX7_cell_121
      · have h := h.2.2.2.2.2.2.1 hc
        refine xt_tin (tgt := 122) X r3 dX7_cell_29 5 hc (by decide) (by decide) rfl (by decide) ?_
        refine xt_al X dX7_cell_122 rfl 0 rfl ?_
        refine xt_il X dX7_cell_123 rfl 1 rfl ?_
        refine xt_il X dX7_cell_124 rfl 2 rfl ?_
        refine xt_cVI X [iV (v1), iV (v2)] [] (ctX7_widest hG k0 r1 r2 h) gdX7_226 pdX7_widest ⟨rfl, rfl⟩ ⟨Nat.le_of_ble_eq_true rfl, Nat.le_of_ble_eq_true rfl⟩ rfl (k_lt k0 (by decide)) (by rw [k0]; rfl) rfl (Nat.le_of_ble_eq_true rfl) dX7_cell_125 (fun z_18 M_19 z_18r h => ?_)
        exact xt_iret X z_18r h dX7_cell_128
      · have h := h.2.2.2.2.2.2.2 hc
        refine xt_tin (tgt := 129) X r3 dX7_cell_29 6 hc (by decide) (by decide) rfl (by decide) ?_
        refine xt_al X dX7_cell_129 rfl 0 rfl ?_
        refine xt_il X dX7_cell_130 rfl 1 rfl ?_
        refine xt_il X dX7_cell_131 rfl 2 rfl ?_
        refine xt_cVI X [iV (v1), iV (v2)] [] (ctX7_saves hG k0 r1 r2 h) gdX7_229 pdX7_saves ⟨rfl, rfl⟩ ⟨Nat.le_of_ble_eq_true rfl, Nat.le_of_ble_eq_true rfl⟩ rfl (k_lt k0 (by decide)) (by rw [k0]; rfl) rfl (Nat.le_of_ble_eq_true rfl) dX7_cell_132 (fun z_20 M_21 z_20r h => ?_)
        exact xt_iret X z_20r h dX7_cell_135
    · have h := h.1 hc
      refine xt_ic X dX7_cell_26 ?_
      exact xt_iret X (i_rc (-1) rfl) h dX7_cell_27
abbrev rmX7_startOf : Room := { frames := 8, cells := 0, slots := 0, locals := 192 }
def PX7_startOf (v0 : Int) (v1 : Int) (v2 : Int) (M : Mm) (Q : Int → Mm → Prop) : Prop :=
  (PX7_beginsOf (v0 + 1) v1 v2 M (fun z_1 M_2 =>
  (PX7_cellsOf (v0 + 1) v1 M_2 (fun z_3 M_4 =>
  ((v2 = z_3 → Q z_1 M_4) ∧
  (¬ v2 = z_3 → (PX7_widthOf (v0 + 1) v1 v2 M_4 (fun z_5 M_6 =>
  (PX7_sizeOf (v0 + 1) v1 v2 M_6 (fun z_8 M_9 =>
  ((0 ≤ (303 + v2) ∧ (303 + v2) < 327) ∧
  ((((M_9 (v0 + 1) (303 + v2)) < 1 ∨ 3 < (M_9 (v0 + 1) (303 + v2))) → Q z_1 M_9) ∧
  ((M_9 (v0 + 1) (303 + v2)) = 1 → (inR (z_1 + ((z_5 - (M_6 (v0 + 1) 1)) - z_8)) ∧
  Q (z_1 + ((z_5 - (M_6 (v0 + 1) 1)) - z_8)) M_9)) ∧
  ((M_9 (v0 + 1) (303 + v2)) = 2 → ((0 ≤ ((z_5 - (M_6 (v0 + 1) 1)) - z_8) ∧ ((z_5 - (M_6 (v0 + 1) 1)) - z_8) < 2147483648) ∧
  (inR (z_1 + (((z_5 - (M_6 (v0 + 1) 1)) - z_8) / 2)) ∧
  Q (z_1 + (((z_5 - (M_6 (v0 + 1) 1)) - z_8) / 2)) M_9))) ∧
  ((M_9 (v0 + 1) (303 + v2)) = 3 → (PX7_mostOf (v0 + 1) v1 v2 1 M_9 (fun z_15 M_16 =>
  (PX7_aheadOf (v0 + 1) v1 v2 M_16 (fun z_17 M_18 =>
  (inR ((z_1 + z_15) - z_17) ∧
  Q ((z_1 + z_15) - z_17) M_18))))))))))))))))))
set_option maxHeartbeats 4000000 in
set_option maxRecDepth 100000 in
theorem ctX7_startOf {l : Launch} {G : GG} (hG : Gd G) {v0 : Int} {v1 : Int} {v2 : Int} {M : Mm} {Q : Int → Mm → Prop} (k0 : gK G v0 = (7, 0)) (r1 : inR v1) (r2 : inR v2) (h : PX7_startOf v0 v1 v2 M Q) : Met l yX7_startOf (Cond.code yX7_startOf cX7_startOf 5 ((some FieldType.int)) :: tw) rmX7_startOf (Pre G M [rV (v0), iV (v1), iV (v2)]) (PostI G Q) 0 0 (gA G) := by
  refine met_of (own := RX7) (by decide) rfl hG (Nat.le_of_ble_eq_true rfl) (fun p e s m below meth c X => ?_)
  generalize hargs : ([rV (v0), iV (v1), iV (v2)] : List Value).toArray = args at X ⊢
  show Wt p l e rmX7_startOf s m args below meth c G (MQ below (PostI G Q) args s 0 0 (gA G)) 5 M [(0, rV (v0)), (1, iV (v1)), (2, iV (v2))] 0 []
  unfold PX7_startOf at h
  refine xt_al X dX7_startOf_0 rfl 0 rfl ?_
  refine gfX7_7 X k0 dX7_startOf_1 ?_
  refine xt_il X dX7_startOf_4 rfl 1 rfl ?_
  refine xt_il X dX7_startOf_5 rfl 2 rfl ?_
  refine xt_cSI X [rV (v0 + 1), iV (v1), iV (v2)] [] (ctX7_beginsOf hG (kd_X7_0 hG k0) r1 r2 h) gdX7_74 pdX7_beginsOf ⟨rfl, rfl⟩ ⟨Nat.le_of_ble_eq_true rfl, Nat.le_of_ble_eq_true rfl⟩ rfl (Nat.le_of_ble_eq_true rfl) dX7_startOf_6 (fun z_1 M_2 z_1r h => ?_)
  refine xt_is (lv2 := [(3, iV (z_1)), (0, rV (v0)), (1, iV (v1)), (2, iV (v2))]) X dX7_startOf_9 rfl (by decide) rfl ?_
  refine xt_il X dX7_startOf_10 rfl 3 rfl ?_
  refine xt_al X dX7_startOf_11 rfl 1 rfl ?_
  refine gfX7_7 X k0 dX7_startOf_12 ?_
  refine xt_il X dX7_startOf_15 rfl 2 rfl ?_
  refine xt_cSI X [rV (v0 + 1), iV (v1)] [iV (v2)] (ctX7_cellsOf hG (kd_X7_0 hG k0) r1 h) gdX7_51 pdX7_cellsOf ⟨rfl, rfl⟩ ⟨Nat.le_of_ble_eq_true rfl, Nat.le_of_ble_eq_true rfl⟩ rfl (Nat.le_of_ble_eq_true rfl) dX7_startOf_16 (fun z_3 M_4 z_3r h => ?_)
  refine xt_cne (tgt := 24) X r2 z_3r dX7_startOf_19 (by decide) (fun hc => ?_) (fun hc => ?_)
  · have h := h.2 hc
    refine xt_al X dX7_startOf_24 rfl 1 rfl ?_
    refine gfX7_7 X k0 dX7_startOf_25 ?_
    refine xt_il X dX7_startOf_28 rfl 2 rfl ?_
    refine xt_il X dX7_startOf_29 rfl 3 rfl ?_
    refine xt_cSI X [rV (v0 + 1), iV (v1), iV (v2)] [] (ctX7_widthOf hG (kd_X7_0 hG k0) r1 r2 h) gdX7_71 pdX7_widthOf ⟨rfl, rfl⟩ ⟨Nat.le_of_ble_eq_true rfl, Nat.le_of_ble_eq_true rfl⟩ rfl (Nat.le_of_ble_eq_true rfl) dX7_startOf_30 (fun z_5 M_6 z_5r h => ?_)
    refine xt_al X dX7_startOf_33 rfl 1 rfl ?_
    refine gfX7_7 X k0 dX7_startOf_34 ?_
    refine xt_ic X dX7_startOf_37 ?_
    refine xt_iald X (kd_X7_0 hG k0) ⟨by decide, by decide⟩ (by decide) dX7_startOf_38 (fun r_7 => ?_)
    refine xt_sub X dX7_startOf_39 ?_
    refine xt_al X dX7_startOf_40 rfl 1 rfl ?_
    refine gfX7_7 X k0 dX7_startOf_41 ?_
    refine xt_il X dX7_startOf_44 rfl 2 rfl ?_
    refine xt_il X dX7_startOf_45 rfl 3 rfl ?_
    refine xt_cSI X [rV (v0 + 1), iV (v1), iV (v2)] [iV (z_5 - (M_6 (v0 + 1) 1))] (ctX7_sizeOf hG (kd_X7_0 hG k0) r1 r2 h) gdX7_48 pdX7_sizeOf ⟨rfl, rfl⟩ ⟨Nat.le_of_ble_eq_true rfl, Nat.le_of_ble_eq_true rfl⟩ rfl (Nat.le_of_ble_eq_true rfl) dX7_startOf_46 (fun z_8 M_9 z_8r h => ?_)
    refine xt_sub X dX7_startOf_49 ?_
    refine xt_isw (lv2 := [(4, iV ((z_5 - (M_6 (v0 + 1) 1)) - z_8)), (3, iV (z_1)), (0, rV (v0)), (1, iV (v1)), (2, iV (v2))]) X dX7_startOf_50 (by decide) rfl ?_
    refine xt_al X dX7_startOf_52 rfl 2 rfl ?_
    refine gfX7_7 X k0 dX7_startOf_53 ?_
    refine xt_si X dX7_startOf_56 (by decide) ?_
    refine xt_il X dX7_startOf_59 rfl 4 rfl ?_
    refine xt_add X dX7_startOf_60 ?_
    obtain ⟨g_10, h⟩ := h
    refine xt_iald X (kd_X7_0 hG k0) g_10 (by decide) dX7_startOf_61 (fun r_11 => ?_)
    rcases (show ((M_9 (v0 + 1) (303 + v2)) < 1 ∨ 3 < (M_9 (v0 + 1) (303 + v2))) ∨ (M_9 (v0 + 1) (303 + v2)) = 1 ∨ (M_9 (v0 + 1) (303 + v2)) = 2 ∨ (M_9 (v0 + 1) (303 + v2)) = 3 by omega) with hc | hc | hc | hc
    · have h := h.1 hc
      refine xt_tout (tgt := 123) X r_11 dX7_startOf_62 hc (by decide) ?_
      refine xt_il X dX7_startOf_123 rfl 1 rfl ?_
      exact xt_iret X z_1r h dX7_startOf_124
    · have h := h.2.1 hc
      refine xt_tin (tgt := 88) X r_11 dX7_startOf_62 1 hc (by decide) (by decide) rfl (by decide) ?_
      refine xt_il X dX7_startOf_88 rfl 1 rfl ?_
      refine xt_ilw X dX7_startOf_89 0 rfl ?_
      refine xt_add X dX7_startOf_91 ?_
      obtain ⟨g_12, h⟩ := h
      exact xt_iret X g_12 h dX7_startOf_92
    · have h := h.2.2.1 hc
      refine xt_tin (tgt := 93) X r_11 dX7_startOf_62 2 hc (by decide) (by decide) rfl (by decide) ?_
      refine xt_il X dX7_startOf_93 rfl 1 rfl ?_
      refine xt_ilw X dX7_startOf_94 0 rfl ?_
      refine xt_ic X dX7_startOf_96 ?_
      obtain ⟨g_13, h⟩ := h
      refine xt_div X g_13 (by decide) dX7_startOf_97 ?_
      refine xt_add X dX7_startOf_98 ?_
      obtain ⟨g_14, h⟩ := h
      exact xt_iret X g_14 h dX7_startOf_99
    · have h := h.2.2.2 hc
      refine xt_tin (tgt := 100) X r_11 dX7_startOf_62 3 hc (by decide) (by decide) rfl (by decide) ?_
      refine xt_il X dX7_startOf_100 rfl 1 rfl ?_
      refine xt_al X dX7_startOf_101 rfl 2 rfl ?_
      refine gfX7_7 X k0 dX7_startOf_102 ?_
      refine xt_il X dX7_startOf_105 rfl 3 rfl ?_
      refine xt_il X dX7_startOf_106 rfl 4 rfl ?_
      refine xt_ic X dX7_startOf_107 ?_
      refine xt_cSI X [rV (v0 + 1), iV (v1), iV (v2), iV (1)] [iV (z_1)] (ctX7_mostOf hG (kd_X7_0 hG k0) r1 r2 (i_rc 1 rfl) h) gdX7_64 pdX7_mostOf ⟨rfl, rfl⟩ ⟨Nat.le_of_ble_eq_true rfl, Nat.le_of_ble_eq_true rfl⟩ rfl (Nat.le_of_ble_eq_true rfl) dX7_startOf_108 (fun z_15 M_16 z_15r h => ?_)
      refine xt_add X dX7_startOf_111 ?_
      refine xt_al X dX7_startOf_112 rfl 2 rfl ?_
      refine gfX7_7 X k0 dX7_startOf_113 ?_
      refine xt_il X dX7_startOf_116 rfl 3 rfl ?_
      refine xt_il X dX7_startOf_117 rfl 4 rfl ?_
      refine xt_cSI X [rV (v0 + 1), iV (v1), iV (v2)] [iV (z_1 + z_15)] (ctX7_aheadOf hG (kd_X7_0 hG k0) r1 r2 h) gdX7_61 pdX7_aheadOf ⟨rfl, rfl⟩ ⟨Nat.le_of_ble_eq_true rfl, Nat.le_of_ble_eq_true rfl⟩ rfl (Nat.le_of_ble_eq_true rfl) dX7_startOf_118 (fun z_17 M_18 z_17r h => ?_)
      refine xt_sub X dX7_startOf_121 ?_
      obtain ⟨g_19, h⟩ := h
      exact xt_iret X g_19 h dX7_startOf_122
  · have h := h.1 hc
    refine xt_il X dX7_startOf_22 rfl 0 rfl ?_
    exact xt_iret X z_1r h dX7_startOf_23
abbrev rmX7_shownAt : Room := { frames := 9, cells := 0, slots := 0, locals := 216 }
def BX7_shownAt_12 (ke50 : Int → Int → Mm → Prop) (Q : Int → Mm → Prop) (v0 : Int) (v1 : Int) (v2 : Int) (v3 : Int) (rec : Int → Mm → Prop) (v4 : Int) (M : Mm) : Prop :=
  ((v3 < v4 → Q 32 M) ∧
  (¬ v3 < v4 → (PX7_startOf v0 v1 v4 M (fun z_3 M_4 =>
  (PX7_sizeOf (v0 + 1) v1 v4 M_4 (fun z_5 M_6 =>
  (inR (v2 - z_3) ∧
  (inR (z_5 - 1) ∧
  (PX7_in (v2 - z_3) 0 (z_5 - 1) M_6 (fun z_9 M_10 =>
  ((z_9 = 0 → (inR (v4 + 1) ∧
  rec (v4 + 1) M_10)) ∧
  (¬ z_9 = 0 → ke50 v4 (v2 - z_3) M_10))))))))))))
def PX7_shownAt (v0 : Int) (v1 : Int) (v2 : Int) (M : Mm) (Q : Int → Mm → Prop) : Prop :=
  (PX7_cellsOf (v0 + 1) v1 M (fun z_1 M_2 =>
  ∃ n_12 : Nat, lp_I (BX7_shownAt_12 (fun w4_13 w5_13 M_13 => (PX7_fromOf (v0 + 1) v1 w4_13 M_13 (fun z_14 M_15 =>
  (inR (z_14 + w5_13) ∧
  (PX7_signAt (v0 + 1) v1 (z_14 + w5_13) M_15 (fun z_17 M_18 =>
  Q z_17 M_18)))))) Q v0 v1 v2 z_1) n_12 0 M_2))
set_option maxHeartbeats 4000000 in
set_option maxRecDepth 100000 in
theorem wX7_shownAt_12 {p : Program} {l : Launch} {e : Env} {s : State} {m : MethodId} {args : Array Value} {below : List Frame} {meth : Method} {c : Code} {G : GG} (X : Cx p s m args meth c cX7_shownAt 6 ((some FieldType.int)) RX7 G) {Q : Int → Mm → Prop} {ke50 : Int → Int → Mm → Prop} {v0 : Int} {v1 : Int} {v2 : Int} {v3 : Int} (k0 : gK G v0 = (7, 0)) (r1 : inR v1) (r2 : inR v2) (r3 : inR v3) (hke50 : ∀ (v4 : Int) (v5 : Int) (M : Mm), inR v4 → inR v5 → ke50 v4 v5 M → Wt p l e rmX7_shownAt s m args below meth c G (MQ below (PostI G Q) args s 0 0 (gA G)) 6 M [(0, rV (v0)), (1, iV (v1)), (4, iV (v4)), (5, iV (v5))] 50 []) : ∀ (n : Nat) (v4 : Int) (M : Mm), inR v4 → lp_I (BX7_shownAt_12 ke50 Q v0 v1 v2 v3) n v4 M → Wt p l e rmX7_shownAt s m args below meth c G (MQ below (PostI G Q) args s 0 0 (gA G)) 6 M [(0, rV (v0)), (1, iV (v1)), (2, iV (v2)), (3, iV (v3)), (4, iV (v4))] 12 [] := by
  have hG := X.2.2.2.2.2.2.2.2
  intro n
  induction n with
  | zero => intro v4 M r4 h; exact h.elim
  | succ n ih =>
    intro v4 M r4 h
    have h : BX7_shownAt_12 ke50 Q v0 v1 v2 v3 (lp_I (BX7_shownAt_12 ke50 Q v0 v1 v2 v3) n) v4 M := h
    unfold BX7_shownAt_12 at h
    refine xt_ilw X dX7_shownAt_12 4 rfl ?_
    refine xt_il X dX7_shownAt_14 rfl 3 rfl ?_
    refine xt_cgt (tgt := 78) X r4 r3 dX7_shownAt_15 (by decide) (fun hc => ?_) (fun hc => ?_)
    · have h := h.1 hc
      refine xt_bi X dX7_shownAt_78 (by decide) ?_
      exact xt_iret X (i_rc 32 rfl) h dX7_shownAt_80
    · have h := h.2 hc
      refine xt_il X dX7_shownAt_18 rfl 2 rfl ?_
      refine xt_al X dX7_shownAt_19 rfl 0 rfl ?_
      refine xt_il X dX7_shownAt_20 rfl 1 rfl ?_
      refine xt_ilw X dX7_shownAt_21 4 rfl ?_
      refine xt_cVI X [iV (v1), iV (v4)] [iV (v2)] (ctX7_startOf hG k0 r1 r4 h) gdX7_232 pdX7_startOf ⟨rfl, rfl⟩ ⟨Nat.le_of_ble_eq_true rfl, Nat.le_of_ble_eq_true rfl⟩ rfl (k_lt k0 (by decide)) (by rw [k0]; rfl) rfl (Nat.le_of_ble_eq_true rfl) dX7_shownAt_23 (fun z_3 M_4 z_3r h => ?_)
      refine xt_sub X dX7_shownAt_26 ?_
      refine xt_isw (lv2 := [(5, iV (v2 - z_3)), (0, rV (v0)), (1, iV (v1)), (2, iV (v2)), (3, iV (v3)), (4, iV (v4))]) X dX7_shownAt_27 (by decide) rfl ?_
      refine xt_ilw X dX7_shownAt_29 0 rfl ?_
      refine xt_ic X dX7_shownAt_31 ?_
      refine xt_al X dX7_shownAt_32 rfl 1 rfl ?_
      refine gfX7_7 X k0 dX7_shownAt_33 ?_
      refine xt_il X dX7_shownAt_36 rfl 2 rfl ?_
      refine xt_ilw X dX7_shownAt_37 5 rfl ?_
      refine xt_cSI X [rV (v0 + 1), iV (v1), iV (v4)] [iV (0), iV (v2 - z_3)] (ctX7_sizeOf hG (kd_X7_0 hG k0) r1 r4 h) gdX7_48 pdX7_sizeOf ⟨rfl, rfl⟩ ⟨Nat.le_of_ble_eq_true rfl, Nat.le_of_ble_eq_true rfl⟩ rfl (Nat.le_of_ble_eq_true rfl) dX7_shownAt_39 (fun z_5 M_6 z_5r h => ?_)
      refine xt_ic X dX7_shownAt_42 ?_
      refine xt_sub X dX7_shownAt_43 ?_
      obtain ⟨g_7, h⟩ := h
      obtain ⟨g_8, h⟩ := h
      refine xt_cSI X [iV (v2 - z_3), iV (0), iV (z_5 - 1)] [] (ctX7_in hG g_7 (i_rc 0 rfl) g_8 h) gdX7_80 pdX7_in ⟨rfl, rfl⟩ ⟨Nat.le_of_ble_eq_true rfl, Nat.le_of_ble_eq_true rfl⟩ rfl (Nat.le_of_ble_eq_true rfl) dX7_shownAt_44 (fun z_9 M_10 z_9r h => ?_)
      refine xt_zeq (tgt := 72) X z_9r dX7_shownAt_47 (by decide) (fun hc => ?_) (fun hc => ?_)
      · have h := h.1 hc
        refine xt_inc (lv2 := [(4, iV (v4 + 1)), (5, iV (v2 - z_3)), (0, rV (v0)), (1, iV (v1)), (2, iV (v2)), (3, iV (v3))]) X dX7_shownAt_72 5 rfl (by decide) rfl ?_
        refine xt_goto (tgt := 12) X dX7_shownAt_75 (by decide) ?_
        obtain ⟨g_11, h⟩ := h
        refine xt_perm (lv2 := [(0, rV (v0)), (1, iV (v1)), (2, iV (v2)), (3, iV (v3)), (4, iV (v4 + 1))]) [2, 3, 4, 5, 0] rfl ?_
        exact ih (v4 + 1) M_10 g_11 h
      · have h := h.2 hc
        refine xt_perm (lv2 := [(0, rV (v0)), (1, iV (v1)), (4, iV (v4)), (5, iV (v2 - z_3))]) [1, 2, 5, 0] rfl ?_
        exact hke50 v4 (v2 - z_3) M_10 r4 g_7 h
set_option maxHeartbeats 4000000 in
set_option maxRecDepth 100000 in
theorem ctX7_shownAt {l : Launch} {G : GG} (hG : Gd G) {v0 : Int} {v1 : Int} {v2 : Int} {M : Mm} {Q : Int → Mm → Prop} (k0 : gK G v0 = (7, 0)) (r1 : inR v1) (r2 : inR v2) (h : PX7_shownAt v0 v1 v2 M Q) : Met l yX7_shownAt (Cond.code yX7_shownAt cX7_shownAt 6 ((some FieldType.int)) :: tw) rmX7_shownAt (Pre G M [rV (v0), iV (v1), iV (v2)]) (PostI G Q) 0 0 (gA G) := by
  refine met_of (own := RX7) (by decide) rfl hG (Nat.le_of_ble_eq_true rfl) (fun p e s m below meth c X => ?_)
  generalize hargs : ([rV (v0), iV (v1), iV (v2)] : List Value).toArray = args at X ⊢
  show Wt p l e rmX7_shownAt s m args below meth c G (MQ below (PostI G Q) args s 0 0 (gA G)) 6 M [(0, rV (v0)), (1, iV (v1)), (2, iV (v2))] 0 []
  unfold PX7_shownAt at h
  refine xt_al X dX7_shownAt_0 rfl 0 rfl ?_
  refine gfX7_7 X k0 dX7_shownAt_1 ?_
  refine xt_il X dX7_shownAt_4 rfl 1 rfl ?_
  refine xt_cSI X [rV (v0 + 1), iV (v1)] [] (ctX7_cellsOf hG (kd_X7_0 hG k0) r1 h) gdX7_51 pdX7_cellsOf ⟨rfl, rfl⟩ ⟨Nat.le_of_ble_eq_true rfl, Nat.le_of_ble_eq_true rfl⟩ rfl (Nat.le_of_ble_eq_true rfl) dX7_shownAt_5 (fun z_1 M_2 z_1r h => ?_)
  refine xt_is (lv2 := [(3, iV (z_1)), (0, rV (v0)), (1, iV (v1)), (2, iV (v2))]) X dX7_shownAt_8 rfl (by decide) rfl ?_
  refine xt_ic X dX7_shownAt_9 ?_
  refine xt_isw (lv2 := [(4, iV (0)), (3, iV (z_1)), (0, rV (v0)), (1, iV (v1)), (2, iV (v2))]) X dX7_shownAt_10 (by decide) rfl ?_
  obtain ⟨n_12, h⟩ := h
  refine xt_perm (lv2 := [(0, rV (v0)), (1, iV (v1)), (2, iV (v2)), (3, iV (z_1)), (4, iV (0))]) [2, 3, 4, 1, 0] rfl ?_
  refine wX7_shownAt_12 X k0 r1 r2 z_1r (fun w4_13 w5_13 M_13 r4_13 r5_13 h => ?_) n_12 0 M_2 (i_rc 0 rfl) h
  refine xt_al X dX7_shownAt_50 rfl 0 rfl ?_
  refine gfX7_7 X k0 dX7_shownAt_51 ?_
  refine xt_il X dX7_shownAt_54 rfl 1 rfl ?_
  refine xt_al X dX7_shownAt_55 rfl 0 rfl ?_
  refine gfX7_7 X k0 dX7_shownAt_56 ?_
  refine xt_il X dX7_shownAt_59 rfl 1 rfl ?_
  refine xt_ilw X dX7_shownAt_60 2 rfl ?_
  refine xt_cSI X [rV (v0 + 1), iV (v1), iV (w4_13)] [iV (v1), rV (v0 + 1)] (ctX7_fromOf hG (kd_X7_0 hG k0) r1 r4_13 h) gdX7_45 pdX7_fromOf ⟨rfl, rfl⟩ ⟨Nat.le_of_ble_eq_true rfl, Nat.le_of_ble_eq_true rfl⟩ rfl (Nat.le_of_ble_eq_true rfl) dX7_shownAt_62 (fun z_14 M_15 z_14r h => ?_)
  refine xt_ilw X dX7_shownAt_65 3 rfl ?_
  refine xt_add X dX7_shownAt_67 ?_
  obtain ⟨g_16, h⟩ := h
  refine xt_cSI X [rV (v0 + 1), iV (v1), iV (z_14 + w5_13)] [] (ctX7_signAt hG (kd_X7_0 hG k0) r1 g_16 h) gdX7_41 pdX7_signAt ⟨rfl, rfl⟩ ⟨Nat.le_of_ble_eq_true rfl, Nat.le_of_ble_eq_true rfl⟩ rfl (Nat.le_of_ble_eq_true rfl) dX7_shownAt_68 (fun z_17 M_18 z_17r h => ?_)
  exact xt_iret X z_17r h dX7_shownAt_71
abbrev rmX7_shown : Room := { frames := 10, cells := 0, slots := 0, locals := 241 }
def JX7_shown_35  (Q : Int → Mm → Prop)  (M : Mm) : Prop :=
  Q ((-1)) M
def PX7_shown (v0 : Int) (v1 : Int) (v2 : Int) (M : Mm) (Q : Int → Mm → Prop) : Prop :=
  (PX7_isLine v0 v1 M (fun z_1 M_2 =>
  ((z_1 = 0 → JX7_shown_35  Q M_2) ∧
  (¬ z_1 = 0 → (PX7_wideOf (v0 + 1) v1 M_2 (fun z_3 M_4 =>
  (inR (z_3 - 1) ∧
  (PX7_in v2 0 (z_3 - 1) M_4 (fun z_6 M_7 =>
  ((z_6 = 0 → JX7_shown_35  Q M_7) ∧
  (¬ z_6 = 0 → (PX7_shownAt v0 v1 v2 M_7 (fun z_8 M_9 =>
  Q z_8 M_9)))))))))))))
set_option maxHeartbeats 4000000 in
set_option maxRecDepth 100000 in
theorem jX7_shown_35 {p : Program} {l : Launch} {e : Env} {s : State} {m : MethodId} {args : Array Value} {below : List Frame} {meth : Method} {c : Code} {G : GG} (X : Cx p s m args meth c cX7_shown 3 ((some FieldType.int)) RX7 G) {Q : Int → Mm → Prop}     {M : Mm} (h : JX7_shown_35  Q  M) : Wt p l e rmX7_shown s m args below meth c G (MQ below (PostI G Q) args s 0 0 (gA G)) 3 M [] 35 [] := by
  have hG := X.2.2.2.2.2.2.2.2
  unfold JX7_shown_35 at h
  refine xt_ic X dX7_shown_35 ?_
  exact xt_iret X (i_rc (-1) rfl) h dX7_shown_36
set_option maxHeartbeats 4000000 in
set_option maxRecDepth 100000 in
theorem ctX7_shown {l : Launch} {G : GG} (hG : Gd G) {v0 : Int} {v1 : Int} {v2 : Int} {M : Mm} {Q : Int → Mm → Prop} (k0 : gK G v0 = (7, 0)) (r1 : inR v1) (r2 : inR v2) (h : PX7_shown v0 v1 v2 M Q) : Met l yX7_shown (Cond.code yX7_shown cX7_shown 3 ((some FieldType.int)) :: tw) rmX7_shown (Pre G M [rV (v0), iV (v1), iV (v2)]) (PostI G Q) 0 0 (gA G) := by
  refine met_of (own := RX7) (by decide) rfl hG (Nat.le_of_ble_eq_true rfl) (fun p e s m below meth c X => ?_)
  generalize hargs : ([rV (v0), iV (v1), iV (v2)] : List Value).toArray = args at X ⊢
  show Wt p l e rmX7_shown s m args below meth c G (MQ below (PostI G Q) args s 0 0 (gA G)) 3 M [(0, rV (v0)), (1, iV (v1)), (2, iV (v2))] 0 []
  unfold PX7_shown at h
  refine xt_al X dX7_shown_0 rfl 0 rfl ?_
  refine xt_il X dX7_shown_1 rfl 1 rfl ?_
  refine xt_cVI X [iV (v1)] [] (ctX7_isLine hG k0 r1 h) gdX7_102 pdX7_isLine ⟨rfl, rfl⟩ ⟨Nat.le_of_ble_eq_true rfl, Nat.le_of_ble_eq_true rfl⟩ rfl (k_lt k0 (by decide)) (by rw [k0]; rfl) rfl (Nat.le_of_ble_eq_true rfl) dX7_shown_2 (fun z_1 M_2 z_1r h => ?_)
  refine xt_zeq (tgt := 35) X z_1r dX7_shown_5 (by decide) (fun hc => ?_) (fun hc => ?_)
  · have h := h.1 hc
    refine xt_perm (lv2 := []) [] rfl ?_
    exact jX7_shown_35 X   h
  · have h := h.2 hc
    refine xt_il X dX7_shown_8 rfl 2 rfl ?_
    refine xt_ic X dX7_shown_9 ?_
    refine xt_al X dX7_shown_10 rfl 0 rfl ?_
    refine gfX7_7 X k0 dX7_shown_11 ?_
    refine xt_il X dX7_shown_14 rfl 1 rfl ?_
    refine xt_cSI X [rV (v0 + 1), iV (v1)] [iV (0), iV (v2)] (ctX7_wideOf hG (kd_X7_0 hG k0) r1 h) gdX7_77 pdX7_wideOf ⟨rfl, rfl⟩ ⟨Nat.le_of_ble_eq_true rfl, Nat.le_of_ble_eq_true rfl⟩ rfl (Nat.le_of_ble_eq_true rfl) dX7_shown_15 (fun z_3 M_4 z_3r h => ?_)
    refine xt_ic X dX7_shown_18 ?_
    refine xt_sub X dX7_shown_19 ?_
    obtain ⟨g_5, h⟩ := h
    refine xt_cSI X [iV (v2), iV (0), iV (z_3 - 1)] [] (ctX7_in hG r2 (i_rc 0 rfl) g_5 h) gdX7_80 pdX7_in ⟨rfl, rfl⟩ ⟨Nat.le_of_ble_eq_true rfl, Nat.le_of_ble_eq_true rfl⟩ rfl (Nat.le_of_ble_eq_true rfl) dX7_shown_20 (fun z_6 M_7 z_6r h => ?_)
    refine xt_zeq (tgt := 35) X z_6r dX7_shown_23 (by decide) (fun hc => ?_) (fun hc => ?_)
    · have h := h.1 hc
      refine xt_perm (lv2 := []) [] rfl ?_
      exact jX7_shown_35 X   h
    · have h := h.2 hc
      refine xt_al X dX7_shown_26 rfl 0 rfl ?_
      refine xt_il X dX7_shown_27 rfl 1 rfl ?_
      refine xt_il X dX7_shown_28 rfl 2 rfl ?_
      refine xt_cVI X [iV (v1), iV (v2)] [] (ctX7_shownAt hG k0 r1 r2 h) gdX7_235 pdX7_shownAt ⟨rfl, rfl⟩ ⟨Nat.le_of_ble_eq_true rfl, Nat.le_of_ble_eq_true rfl⟩ rfl (k_lt k0 (by decide)) (by rw [k0]; rfl) rfl (Nat.le_of_ble_eq_true rfl) dX7_shown_29 (fun z_8 M_9 z_8r h => ?_)
      refine xt_goto (tgt := 36) X dX7_shown_32 (by decide) ?_
      exact xt_iret X z_8r h dX7_shown_36
abbrev rmX7_align : Room := { frames := 1, cells := 0, slots := 0, locals := 22 }
def PX7_align (v0 : Int) (v1 : Int) (M : Mm) (Q : Int → Mm → Prop) : Prop :=
  (PX7_in v1 0 23 M (fun z_1 M_2 =>
  ((z_1 = 0 → Q ((-1)) M_2) ∧
  (¬ z_1 = 0 → ((0 ≤ (303 + v1) ∧ (303 + v1) < 327) ∧
  Q (M_2 (v0 + 1) (303 + v1)) M_2)))))
set_option maxHeartbeats 4000000 in
set_option maxRecDepth 100000 in
theorem ctX7_align {l : Launch} {G : GG} (hG : Gd G) {v0 : Int} {v1 : Int} {M : Mm} {Q : Int → Mm → Prop} (k0 : gK G v0 = (7, 0)) (r1 : inR v1) (h : PX7_align v0 v1 M Q) : Met l yX7_align (Cond.code yX7_align cX7_align 2 ((some FieldType.int)) :: tw) rmX7_align (Pre G M [rV (v0), iV (v1)]) (PostI G Q) 0 0 (gA G) := by
  refine met_of (own := RX7) (by decide) rfl hG (Nat.le_of_ble_eq_true rfl) (fun p e s m below meth c X => ?_)
  generalize hargs : ([rV (v0), iV (v1)] : List Value).toArray = args at X ⊢
  show Wt p l e rmX7_align s m args below meth c G (MQ below (PostI G Q) args s 0 0 (gA G)) 2 M [(0, rV (v0)), (1, iV (v1))] 0 []
  unfold PX7_align at h
  refine xt_il X dX7_align_0 rfl 1 rfl ?_
  refine xt_ic X dX7_align_1 ?_
  refine xt_bi X dX7_align_2 (by decide) ?_
  refine xt_cSI X [iV (v1), iV (0), iV (23)] [] (ctX7_in hG r1 (i_rc 0 rfl) (i_rc 23 rfl) h) gdX7_80 pdX7_in ⟨rfl, rfl⟩ ⟨Nat.le_of_ble_eq_true rfl, Nat.le_of_ble_eq_true rfl⟩ rfl (Nat.le_of_ble_eq_true rfl) dX7_align_4 (fun z_1 M_2 z_1r h => ?_)
  refine xt_zeq (tgt := 23) X z_1r dX7_align_7 (by decide) (fun hc => ?_) (fun hc => ?_)
  · have h := h.1 hc
    refine xt_ic X dX7_align_23 ?_
    exact xt_iret X (i_rc (-1) rfl) h dX7_align_24
  · have h := h.2 hc
    refine xt_al X dX7_align_10 rfl 0 rfl ?_
    refine gfX7_7 X k0 dX7_align_11 ?_
    refine xt_si X dX7_align_14 (by decide) ?_
    refine xt_il X dX7_align_17 rfl 1 rfl ?_
    refine xt_add X dX7_align_18 ?_
    obtain ⟨g_3, h⟩ := h
    refine xt_iald X (kd_X7_0 hG k0) g_3 (by decide) dX7_align_19 (fun r_4 => ?_)
    refine xt_goto (tgt := 24) X dX7_align_20 (by decide) ?_
    exact xt_iret X r_4 h dX7_align_24
abbrev rmX7_blocks : Room := { frames := 2, cells := 0, slots := 0, locals := 45 }
def BX7_blocks_4  (Q : Int → Mm → Prop) (v0 : Int) (rec : Int → Int → Mm → Prop) (v1 : Int) (v2 : Int) (M : Mm) : Prop :=
  (((M (v0 + 1) 0) ≤ v2 → Q v1 M) ∧
  (¬ (M (v0 + 1) 0) ≤ v2 → ((v2 ≤ 0 → (PX7_cellsOf (v0 + 1) v2 M (fun z_2 M_3 =>
  ((z_2 ≤ 0 → (inR (v1 + 0) ∧
  (inR (v2 + 1) ∧
  rec (v1 + 0) (v2 + 1) M_3))) ∧
  (¬ z_2 ≤ 0 → (inR (v1 + (z_2 - 0)) ∧
  (inR (v2 + 1) ∧
  rec (v1 + (z_2 - 0)) (v2 + 1) M_3))))))) ∧
  (¬ v2 ≤ 0 → (inR (v2 - 1) ∧
  (PX7_cellsOf (v0 + 1) (v2 - 1) M (fun z_9 M_10 =>
  (PX7_cellsOf (v0 + 1) v2 M_10 (fun z_11 M_12 =>
  ((z_11 ≤ z_9 → (inR (v1 + 0) ∧
  (inR (v2 + 1) ∧
  rec (v1 + 0) (v2 + 1) M_12))) ∧
  (¬ z_11 ≤ z_9 → (inR (v1 + (z_11 - z_9)) ∧
  (inR (v2 + 1) ∧
  rec (v1 + (z_11 - z_9)) (v2 + 1) M_12)))))))))))))
def PX7_blocks (v0 : Int) (M : Mm) (Q : Int → Mm → Prop) : Prop :=
  ∃ n_17 : Nat, lp_II (BX7_blocks_4  Q v0) n_17 0 0 M
set_option maxHeartbeats 4000000 in
set_option maxRecDepth 100000 in
theorem wX7_blocks_4 {p : Program} {l : Launch} {e : Env} {s : State} {m : MethodId} {args : Array Value} {below : List Frame} {meth : Method} {c : Code} {G : GG} (X : Cx p s m args meth c cX7_blocks 5 ((some FieldType.int)) RX7 G) {Q : Int → Mm → Prop}  {v0 : Int} (k0 : gK G v0 = (7, 0))  : ∀ (n : Nat) (v1 : Int) (v2 : Int) (M : Mm), inR v1 → inR v2 → lp_II (BX7_blocks_4  Q v0) n v1 v2 M → Wt p l e rmX7_blocks s m args below meth c G (MQ below (PostI G Q) args s 0 0 (gA G)) 5 M [(0, rV (v0)), (1, iV (v1)), (2, iV (v2))] 4 [] := by
  have hG := X.2.2.2.2.2.2.2.2
  intro n
  induction n with
  | zero => intro v1 v2 M r1 r2 h; exact h.elim
  | succ n ih =>
    intro v1 v2 M r1 r2 h
    have h : BX7_blocks_4  Q v0 (lp_II (BX7_blocks_4  Q v0) n) v1 v2 M := h
    unfold BX7_blocks_4 at h
    refine xt_il X dX7_blocks_4 rfl 2 rfl ?_
    refine xt_al X dX7_blocks_5 rfl 0 rfl ?_
    refine gfX7_7 X k0 dX7_blocks_6 ?_
    refine xt_ic X dX7_blocks_9 ?_
    refine xt_iald X (kd_X7_0 hG k0) ⟨by decide, by decide⟩ (by decide) dX7_blocks_10 (fun r_1 => ?_)
    refine xt_cge (tgt := 66) X r2 r_1 dX7_blocks_11 (by decide) (fun hc => ?_) (fun hc => ?_)
    · have h := h.1 hc
      refine xt_il X dX7_blocks_66 rfl 1 rfl ?_
      exact xt_iret X r1 h dX7_blocks_67
    · have h := h.2 hc
      refine xt_il X dX7_blocks_14 rfl 2 rfl ?_
      refine xt_zle (tgt := 31) X r2 dX7_blocks_15 (by decide) (fun hc => ?_) (fun hc => ?_)
      · have h := h.1 hc
        refine xt_ic X dX7_blocks_31 ?_
        refine xt_is (lv2 := [(3, iV (0)), (0, rV (v0)), (1, iV (v1)), (2, iV (v2))]) X dX7_blocks_32 rfl (by decide) rfl ?_
        refine xt_al X dX7_blocks_33 rfl 1 rfl ?_
        refine gfX7_7 X k0 dX7_blocks_34 ?_
        refine xt_il X dX7_blocks_37 rfl 3 rfl ?_
        refine xt_cSI X [rV (v0 + 1), iV (v2)] [] (ctX7_cellsOf hG (kd_X7_0 hG k0) r2 h) gdX7_51 pdX7_cellsOf ⟨rfl, rfl⟩ ⟨Nat.le_of_ble_eq_true rfl, Nat.le_of_ble_eq_true rfl⟩ rfl (Nat.le_of_ble_eq_true rfl) dX7_blocks_38 (fun z_2 M_3 z_2r h => ?_)
        refine xt_isw (lv2 := [(4, iV (z_2)), (3, iV (0)), (0, rV (v0)), (1, iV (v1)), (2, iV (v2))]) X dX7_blocks_41 (by decide) rfl ?_
        refine xt_il X dX7_blocks_43 rfl 3 rfl ?_
        refine xt_ilw X dX7_blocks_44 0 rfl ?_
        refine xt_il X dX7_blocks_46 rfl 1 rfl ?_
        refine xt_cle (tgt := 57) X z_2r (i_rc 0 rfl) dX7_blocks_47 (by decide) (fun hc => ?_) (fun hc => ?_)
        · have h := h.1 hc
          refine xt_ic X dX7_blocks_57 ?_
          refine xt_add X dX7_blocks_58 ?_
          refine xt_is (lv2 := [(1, iV (v1 + 0)), (4, iV (z_2)), (3, iV (0)), (0, rV (v0)), (2, iV (v2))]) X dX7_blocks_59 rfl (by decide) rfl ?_
          refine xt_inc (lv2 := [(2, iV (v2 + 1)), (1, iV (v1 + 0)), (4, iV (z_2)), (3, iV (0)), (0, rV (v0))]) X dX7_blocks_60 4 rfl (by decide) rfl ?_
          refine xt_goto (tgt := 4) X dX7_blocks_63 (by decide) ?_
          obtain ⟨g_4, h⟩ := h
          obtain ⟨g_5, h⟩ := h
          refine xt_perm (lv2 := [(0, rV (v0)), (1, iV (v1 + 0)), (2, iV (v2 + 1))]) [4, 1, 0] rfl ?_
          exact ih (v1 + 0) (v2 + 1) M_3 g_4 g_5 h
        · have h := h.2 hc
          refine xt_ilw X dX7_blocks_50 0 rfl ?_
          refine xt_il X dX7_blocks_52 rfl 1 rfl ?_
          refine xt_sub X dX7_blocks_53 ?_
          refine xt_goto (tgt := 58) X dX7_blocks_54 (by decide) ?_
          refine xt_add X dX7_blocks_58 ?_
          refine xt_is (lv2 := [(1, iV (v1 + (z_2 - 0))), (4, iV (z_2)), (3, iV (0)), (0, rV (v0)), (2, iV (v2))]) X dX7_blocks_59 rfl (by decide) rfl ?_
          refine xt_inc (lv2 := [(2, iV (v2 + 1)), (1, iV (v1 + (z_2 - 0))), (4, iV (z_2)), (3, iV (0)), (0, rV (v0))]) X dX7_blocks_60 4 rfl (by decide) rfl ?_
          refine xt_goto (tgt := 4) X dX7_blocks_63 (by decide) ?_
          obtain ⟨g_6, h⟩ := h
          obtain ⟨g_7, h⟩ := h
          refine xt_perm (lv2 := [(0, rV (v0)), (1, iV (v1 + (z_2 - 0))), (2, iV (v2 + 1))]) [4, 1, 0] rfl ?_
          exact ih (v1 + (z_2 - 0)) (v2 + 1) M_3 g_6 g_7 h
      · have h := h.2 hc
        refine xt_al X dX7_blocks_18 rfl 0 rfl ?_
        refine gfX7_7 X k0 dX7_blocks_19 ?_
        refine xt_il X dX7_blocks_22 rfl 2 rfl ?_
        refine xt_ic X dX7_blocks_23 ?_
        refine xt_sub X dX7_blocks_24 ?_
        obtain ⟨g_8, h⟩ := h
        refine xt_cSI X [rV (v0 + 1), iV (v2 - 1)] [] (ctX7_cellsOf hG (kd_X7_0 hG k0) g_8 h) gdX7_51 pdX7_cellsOf ⟨rfl, rfl⟩ ⟨Nat.le_of_ble_eq_true rfl, Nat.le_of_ble_eq_true rfl⟩ rfl (Nat.le_of_ble_eq_true rfl) dX7_blocks_25 (fun z_9 M_10 z_9r h => ?_)
        refine xt_goto (tgt := 32) X dX7_blocks_28 (by decide) ?_
        refine xt_is (lv2 := [(3, iV (z_9)), (0, rV (v0)), (1, iV (v1)), (2, iV (v2))]) X dX7_blocks_32 rfl (by decide) rfl ?_
        refine xt_al X dX7_blocks_33 rfl 1 rfl ?_
        refine gfX7_7 X k0 dX7_blocks_34 ?_
        refine xt_il X dX7_blocks_37 rfl 3 rfl ?_
        refine xt_cSI X [rV (v0 + 1), iV (v2)] [] (ctX7_cellsOf hG (kd_X7_0 hG k0) r2 h) gdX7_51 pdX7_cellsOf ⟨rfl, rfl⟩ ⟨Nat.le_of_ble_eq_true rfl, Nat.le_of_ble_eq_true rfl⟩ rfl (Nat.le_of_ble_eq_true rfl) dX7_blocks_38 (fun z_11 M_12 z_11r h => ?_)
        refine xt_isw (lv2 := [(4, iV (z_11)), (3, iV (z_9)), (0, rV (v0)), (1, iV (v1)), (2, iV (v2))]) X dX7_blocks_41 (by decide) rfl ?_
        refine xt_il X dX7_blocks_43 rfl 3 rfl ?_
        refine xt_ilw X dX7_blocks_44 0 rfl ?_
        refine xt_il X dX7_blocks_46 rfl 1 rfl ?_
        refine xt_cle (tgt := 57) X z_11r z_9r dX7_blocks_47 (by decide) (fun hc => ?_) (fun hc => ?_)
        · have h := h.1 hc
          refine xt_ic X dX7_blocks_57 ?_
          refine xt_add X dX7_blocks_58 ?_
          refine xt_is (lv2 := [(1, iV (v1 + 0)), (4, iV (z_11)), (3, iV (z_9)), (0, rV (v0)), (2, iV (v2))]) X dX7_blocks_59 rfl (by decide) rfl ?_
          refine xt_inc (lv2 := [(2, iV (v2 + 1)), (1, iV (v1 + 0)), (4, iV (z_11)), (3, iV (z_9)), (0, rV (v0))]) X dX7_blocks_60 4 rfl (by decide) rfl ?_
          refine xt_goto (tgt := 4) X dX7_blocks_63 (by decide) ?_
          obtain ⟨g_13, h⟩ := h
          obtain ⟨g_14, h⟩ := h
          refine xt_perm (lv2 := [(0, rV (v0)), (1, iV (v1 + 0)), (2, iV (v2 + 1))]) [4, 1, 0] rfl ?_
          exact ih (v1 + 0) (v2 + 1) M_12 g_13 g_14 h
        · have h := h.2 hc
          refine xt_ilw X dX7_blocks_50 0 rfl ?_
          refine xt_il X dX7_blocks_52 rfl 1 rfl ?_
          refine xt_sub X dX7_blocks_53 ?_
          refine xt_goto (tgt := 58) X dX7_blocks_54 (by decide) ?_
          refine xt_add X dX7_blocks_58 ?_
          refine xt_is (lv2 := [(1, iV (v1 + (z_11 - z_9))), (4, iV (z_11)), (3, iV (z_9)), (0, rV (v0)), (2, iV (v2))]) X dX7_blocks_59 rfl (by decide) rfl ?_
          refine xt_inc (lv2 := [(2, iV (v2 + 1)), (1, iV (v1 + (z_11 - z_9))), (4, iV (z_11)), (3, iV (z_9)), (0, rV (v0))]) X dX7_blocks_60 4 rfl (by decide) rfl ?_
          refine xt_goto (tgt := 4) X dX7_blocks_63 (by decide) ?_
          obtain ⟨g_15, h⟩ := h
          obtain ⟨g_16, h⟩ := h
          refine xt_perm (lv2 := [(0, rV (v0)), (1, iV (v1 + (z_11 - z_9))), (2, iV (v2 + 1))]) [4, 1, 0] rfl ?_
          exact ih (v1 + (z_11 - z_9)) (v2 + 1) M_12 g_15 g_16 h
set_option maxHeartbeats 4000000 in
set_option maxRecDepth 100000 in
theorem ctX7_blocks {l : Launch} {G : GG} (hG : Gd G) {v0 : Int} {M : Mm} {Q : Int → Mm → Prop} (k0 : gK G v0 = (7, 0)) (h : PX7_blocks v0 M Q) : Met l yX7_blocks (Cond.code yX7_blocks cX7_blocks 5 ((some FieldType.int)) :: tw) rmX7_blocks (Pre G M [rV (v0)]) (PostI G Q) 0 0 (gA G) := by
  refine met_of (own := RX7) (by decide) rfl hG (Nat.le_of_ble_eq_true rfl) (fun p e s m below meth c X => ?_)
  generalize hargs : ([rV (v0)] : List Value).toArray = args at X ⊢
  show Wt p l e rmX7_blocks s m args below meth c G (MQ below (PostI G Q) args s 0 0 (gA G)) 5 M [(0, rV (v0))] 0 []
  unfold PX7_blocks at h
  refine xt_ic X dX7_blocks_0 ?_
  refine xt_is (lv2 := [(1, iV (0)), (0, rV (v0))]) X dX7_blocks_1 rfl (by decide) rfl ?_
  refine xt_ic X dX7_blocks_2 ?_
  refine xt_is (lv2 := [(2, iV (0)), (1, iV (0)), (0, rV (v0))]) X dX7_blocks_3 rfl (by decide) rfl ?_
  obtain ⟨n_17, h⟩ := h
  refine xt_perm (lv2 := [(0, rV (v0)), (1, iV (0)), (2, iV (0))]) [2, 1, 0] rfl ?_
  refine wX7_blocks_4 X k0  n_17 0 0 M (i_rc 0 rfl) (i_rc 0 rfl) h
abbrev rmX7_widestLine : Room := { frames := 9, cells := 0, slots := 0, locals := 214 }
def BX7_widestLine_4  (Q : Int → Mm → Prop) (v0 : Int) (rec : Int → Int → Mm → Prop) (v1 : Int) (v2 : Int) (M : Mm) : Prop :=
  (((M (v0 + 1) 0) ≤ v2 → Q v1 M) ∧
  (¬ (M (v0 + 1) 0) ≤ v2 → (PX7_wideOf (v0 + 1) v2 M (fun z_2 M_3 =>
  ((z_2 ≤ v1 → (inR (v2 + 1) ∧
  rec v1 (v2 + 1) M_3)) ∧
  (¬ z_2 ≤ v1 → (PX7_wideOf (v0 + 1) v2 M_3 (fun z_5 M_6 =>
  (inR (v2 + 1) ∧
  rec z_5 (v2 + 1) M_6)))))))))
def PX7_widestLine (v0 : Int) (M : Mm) (Q : Int → Mm → Prop) : Prop :=
  ∃ n_8 : Nat, lp_II (BX7_widestLine_4  Q v0) n_8 0 0 M
set_option maxHeartbeats 4000000 in
set_option maxRecDepth 100000 in
theorem wX7_widestLine_4 {p : Program} {l : Launch} {e : Env} {s : State} {m : MethodId} {args : Array Value} {below : List Frame} {meth : Method} {c : Code} {G : GG} (X : Cx p s m args meth c cX7_widestLine 3 ((some FieldType.int)) RX7 G) {Q : Int → Mm → Prop}  {v0 : Int} (k0 : gK G v0 = (7, 0))  : ∀ (n : Nat) (v1 : Int) (v2 : Int) (M : Mm), inR v1 → inR v2 → lp_II (BX7_widestLine_4  Q v0) n v1 v2 M → Wt p l e rmX7_widestLine s m args below meth c G (MQ below (PostI G Q) args s 0 0 (gA G)) 3 M [(0, rV (v0)), (1, iV (v1)), (2, iV (v2))] 4 [] := by
  have hG := X.2.2.2.2.2.2.2.2
  intro n
  induction n with
  | zero => intro v1 v2 M r1 r2 h; exact h.elim
  | succ n ih =>
    intro v1 v2 M r1 r2 h
    have h : BX7_widestLine_4  Q v0 (lp_II (BX7_widestLine_4  Q v0) n) v1 v2 M := h
    unfold BX7_widestLine_4 at h
    refine xt_il X dX7_widestLine_4 rfl 2 rfl ?_
    refine xt_al X dX7_widestLine_5 rfl 0 rfl ?_
    refine gfX7_7 X k0 dX7_widestLine_6 ?_
    refine xt_ic X dX7_widestLine_9 ?_
    refine xt_iald X (kd_X7_0 hG k0) ⟨by decide, by decide⟩ (by decide) dX7_widestLine_10 (fun r_1 => ?_)
    refine xt_cge (tgt := 45) X r2 r_1 dX7_widestLine_11 (by decide) (fun hc => ?_) (fun hc => ?_)
    · have h := h.1 hc
      refine xt_il X dX7_widestLine_45 rfl 1 rfl ?_
      exact xt_iret X r1 h dX7_widestLine_46
    · have h := h.2 hc
      refine xt_al X dX7_widestLine_14 rfl 0 rfl ?_
      refine gfX7_7 X k0 dX7_widestLine_15 ?_
      refine xt_il X dX7_widestLine_18 rfl 2 rfl ?_
      refine xt_cSI X [rV (v0 + 1), iV (v2)] [] (ctX7_wideOf hG (kd_X7_0 hG k0) r2 h) gdX7_77 pdX7_wideOf ⟨rfl, rfl⟩ ⟨Nat.le_of_ble_eq_true rfl, Nat.le_of_ble_eq_true rfl⟩ rfl (Nat.le_of_ble_eq_true rfl) dX7_widestLine_19 (fun z_2 M_3 z_2r h => ?_)
      refine xt_il X dX7_widestLine_22 rfl 1 rfl ?_
      refine xt_cle (tgt := 37) X z_2r r1 dX7_widestLine_23 (by decide) (fun hc => ?_) (fun hc => ?_)
      · have h := h.1 hc
        refine xt_il X dX7_widestLine_37 rfl 1 rfl ?_
        refine xt_is (lv2 := [(1, iV (v1)), (0, rV (v0)), (2, iV (v2))]) X dX7_widestLine_38 rfl (by decide) rfl ?_
        refine xt_inc (lv2 := [(2, iV (v2 + 1)), (1, iV (v1)), (0, rV (v0))]) X dX7_widestLine_39 2 rfl (by decide) rfl ?_
        refine xt_goto (tgt := 4) X dX7_widestLine_42 (by decide) ?_
        obtain ⟨g_4, h⟩ := h
        refine xt_perm (lv2 := [(0, rV (v0)), (1, iV (v1)), (2, iV (v2 + 1))]) [2, 1, 0] rfl ?_
        exact ih v1 (v2 + 1) M_3 r1 g_4 h
      · have h := h.2 hc
        refine xt_al X dX7_widestLine_26 rfl 0 rfl ?_
        refine gfX7_7 X k0 dX7_widestLine_27 ?_
        refine xt_il X dX7_widestLine_30 rfl 2 rfl ?_
        refine xt_cSI X [rV (v0 + 1), iV (v2)] [] (ctX7_wideOf hG (kd_X7_0 hG k0) r2 h) gdX7_77 pdX7_wideOf ⟨rfl, rfl⟩ ⟨Nat.le_of_ble_eq_true rfl, Nat.le_of_ble_eq_true rfl⟩ rfl (Nat.le_of_ble_eq_true rfl) dX7_widestLine_31 (fun z_5 M_6 z_5r h => ?_)
        refine xt_goto (tgt := 38) X dX7_widestLine_34 (by decide) ?_
        refine xt_is (lv2 := [(1, iV (z_5)), (0, rV (v0)), (2, iV (v2))]) X dX7_widestLine_38 rfl (by decide) rfl ?_
        refine xt_inc (lv2 := [(2, iV (v2 + 1)), (1, iV (z_5)), (0, rV (v0))]) X dX7_widestLine_39 2 rfl (by decide) rfl ?_
        refine xt_goto (tgt := 4) X dX7_widestLine_42 (by decide) ?_
        obtain ⟨g_7, h⟩ := h
        refine xt_perm (lv2 := [(0, rV (v0)), (1, iV (z_5)), (2, iV (v2 + 1))]) [2, 1, 0] rfl ?_
        exact ih z_5 (v2 + 1) M_6 z_5r g_7 h
set_option maxHeartbeats 4000000 in
set_option maxRecDepth 100000 in
theorem ctX7_widestLine {l : Launch} {G : GG} (hG : Gd G) {v0 : Int} {M : Mm} {Q : Int → Mm → Prop} (k0 : gK G v0 = (7, 0)) (h : PX7_widestLine v0 M Q) : Met l yX7_widestLine (Cond.code yX7_widestLine cX7_widestLine 3 ((some FieldType.int)) :: tw) rmX7_widestLine (Pre G M [rV (v0)]) (PostI G Q) 0 0 (gA G) := by
  refine met_of (own := RX7) (by decide) rfl hG (Nat.le_of_ble_eq_true rfl) (fun p e s m below meth c X => ?_)
  generalize hargs : ([rV (v0)] : List Value).toArray = args at X ⊢
  show Wt p l e rmX7_widestLine s m args below meth c G (MQ below (PostI G Q) args s 0 0 (gA G)) 3 M [(0, rV (v0))] 0 []
  unfold PX7_widestLine at h
  refine xt_ic X dX7_widestLine_0 ?_
  refine xt_is (lv2 := [(1, iV (0)), (0, rV (v0))]) X dX7_widestLine_1 rfl (by decide) rfl ?_
  refine xt_ic X dX7_widestLine_2 ?_
  refine xt_is (lv2 := [(2, iV (0)), (1, iV (0)), (0, rV (v0))]) X dX7_widestLine_3 rfl (by decide) rfl ?_
  obtain ⟨n_8, h⟩ := h
  refine xt_perm (lv2 := [(0, rV (v0)), (1, iV (0)), (2, iV (0))]) [2, 1, 0] rfl ?_
  refine wX7_widestLine_4 X k0  n_8 0 0 M (i_rc 0 rfl) (i_rc 0 rfl) h
abbrev rmX7_count : Room := { frames := 10, cells := 0, slots := 0, locals := 236 }
def PX7_count (v0 : Int) (v1 : Int) (M : Mm) (Q : Int → Mm → Prop) : Prop :=
  (((v1 < 0 ∨ 8 < v1) → Q ((-1)) M) ∧
  (v1 = 0 → Q (M (v0 + 1) 0) M) ∧
  (v1 = 1 → Q (M (v0 + 1) 1) M) ∧
  (v1 = 2 → Q (M (v0 + 1) 2) M) ∧
  (v1 = 3 → Q (M v0 3) M) ∧
  (v1 = 4 → (PX7_blocks v0 M (fun z_5 M_6 =>
  Q z_5 M_6))) ∧
  (v1 = 5 → (PX7_widestLine v0 M (fun z_7 M_8 =>
  Q z_7 M_8))) ∧
  (v1 = 6 → (PX7_allWide (v0 + 1) M (fun z_9 M_10 =>
  Q z_9 M_10))) ∧
  (v1 = 7 → Q (M v0 4) M) ∧
  (v1 = 8 → Q (M v0 7) M))
set_option maxHeartbeats 4000000 in
set_option maxRecDepth 100000 in
theorem ctX7_count {l : Launch} {G : GG} (hG : Gd G) {v0 : Int} {v1 : Int} {M : Mm} {Q : Int → Mm → Prop} (k0 : gK G v0 = (7, 0)) (r1 : inR v1) (h : PX7_count v0 v1 M Q) : Met l yX7_count (Cond.code yX7_count cX7_count 2 ((some FieldType.int)) :: tw) rmX7_count (Pre G M [rV (v0), iV (v1)]) (PostI G Q) 0 0 (gA G) := by
  refine met_of (own := RX7) (by decide) rfl hG (Nat.le_of_ble_eq_true rfl) (fun p e s m below meth c X => ?_)
  generalize hargs : ([rV (v0), iV (v1)] : List Value).toArray = args at X ⊢
  show Wt p l e rmX7_count s m args below meth c G (MQ below (PostI G Q) args s 0 0 (gA G)) 2 M [(0, rV (v0)), (1, iV (v1))] 0 []
  unfold PX7_count at h
  refine xt_il X dX7_count_0 rfl 1 rfl ?_
  rcases (show (v1 < 0 ∨ 8 < v1) ∨ v1 = 0 ∨ v1 = 1 ∨ v1 = 2 ∨ v1 = 3 ∨ v1 = 4 ∨ v1 = 5 ∨ v1 = 6 ∨ v1 = 7 ∨ v1 = 8 by omega) with hc | hc | hc | hc | hc | hc | hc | hc | hc | hc
  · have h := h.1 hc
    refine xt_tout (tgt := 106) X r1 dX7_count_1 hc (by decide) ?_
    refine xt_ic X dX7_count_106 ?_
    exact xt_iret X (i_rc (-1) rfl) h dX7_count_107
  · have h := h.2.1 hc
    refine xt_tin (tgt := 52) X r1 dX7_count_1 0 hc (by decide) (by decide) rfl (by decide) ?_
    refine xt_al X dX7_count_52 rfl 0 rfl ?_
    refine gfX7_7 X k0 dX7_count_53 ?_
    refine xt_ic X dX7_count_56 ?_
    refine xt_iald X (kd_X7_0 hG k0) ⟨by decide, by decide⟩ (by decide) dX7_count_57 (fun r_1 => ?_)
    exact xt_iret X r_1 h dX7_count_58
  · have h := h.2.2.1 hc
    refine xt_tin (tgt := 59) X r1 dX7_count_1 1 hc (by decide) (by decide) rfl (by decide) ?_
    refine xt_al X dX7_count_59 rfl 0 rfl ?_
    refine gfX7_7 X k0 dX7_count_60 ?_
    refine xt_ic X dX7_count_63 ?_
    refine xt_iald X (kd_X7_0 hG k0) ⟨by decide, by decide⟩ (by decide) dX7_count_64 (fun r_2 => ?_)
    exact xt_iret X r_2 h dX7_count_65
  · have h := h.2.2.2.1 hc
    refine xt_tin (tgt := 66) X r1 dX7_count_1 2 hc (by decide) (by decide) rfl (by decide) ?_
    refine xt_al X dX7_count_66 rfl 0 rfl ?_
    refine gfX7_7 X k0 dX7_count_67 ?_
    refine xt_ic X dX7_count_70 ?_
    refine xt_iald X (kd_X7_0 hG k0) ⟨by decide, by decide⟩ (by decide) dX7_count_71 (fun r_3 => ?_)
    exact xt_iret X r_3 h dX7_count_72
  · have h := h.2.2.2.2.1 hc
    refine xt_tin (tgt := 73) X r1 dX7_count_1 3 hc (by decide) (by decide) rfl (by decide) ?_
    refine xt_al X dX7_count_73 rfl 0 rfl ?_
    refine gfX7_95 X k0 dX7_count_74 (fun r_4 => ?_)
    exact xt_iret X r_4 h dX7_count_77
  · have h := h.2.2.2.2.2.1 hc
    refine xt_tin (tgt := 78) X r1 dX7_count_1 4 hc (by decide) (by decide) rfl (by decide) ?_
    refine xt_al X dX7_count_78 rfl 0 rfl ?_
    refine xt_cVI X [] [] (ctX7_blocks hG k0 h) gdX7_238 pdX7_blocks ⟨rfl, rfl⟩ ⟨Nat.le_of_ble_eq_true rfl, Nat.le_of_ble_eq_true rfl⟩ rfl (k_lt k0 (by decide)) (by rw [k0]; rfl) rfl (Nat.le_of_ble_eq_true rfl) dX7_count_79 (fun z_5 M_6 z_5r h => ?_)
    exact xt_iret X z_5r h dX7_count_82
  · have h := h.2.2.2.2.2.2.1 hc
    refine xt_tin (tgt := 83) X r1 dX7_count_1 5 hc (by decide) (by decide) rfl (by decide) ?_
    refine xt_al X dX7_count_83 rfl 0 rfl ?_
    refine xt_cVI X [] [] (ctX7_widestLine hG k0 h) gdX7_241 pdX7_widestLine ⟨rfl, rfl⟩ ⟨Nat.le_of_ble_eq_true rfl, Nat.le_of_ble_eq_true rfl⟩ rfl (k_lt k0 (by decide)) (by rw [k0]; rfl) rfl (Nat.le_of_ble_eq_true rfl) dX7_count_84 (fun z_7 M_8 z_7r h => ?_)
    exact xt_iret X z_7r h dX7_count_87
  · have h := h.2.2.2.2.2.2.2.1 hc
    refine xt_tin (tgt := 88) X r1 dX7_count_1 6 hc (by decide) (by decide) rfl (by decide) ?_
    refine xt_al X dX7_count_88 rfl 0 rfl ?_
    refine gfX7_7 X k0 dX7_count_89 ?_
    refine xt_cSI X [rV (v0 + 1)] [] (ctX7_allWide hG (kd_X7_0 hG k0) h) gdX7_222 pdX7_allWide ⟨rfl, rfl⟩ ⟨Nat.le_of_ble_eq_true rfl, Nat.le_of_ble_eq_true rfl⟩ rfl (Nat.le_of_ble_eq_true rfl) dX7_count_92 (fun z_9 M_10 z_9r h => ?_)
    exact xt_iret X z_9r h dX7_count_95
  · have h := h.2.2.2.2.2.2.2.2.1 hc
    refine xt_tin (tgt := 96) X r1 dX7_count_1 7 hc (by decide) (by decide) rfl (by decide) ?_
    refine xt_al X dX7_count_96 rfl 0 rfl ?_
    refine gfX7_92 X k0 dX7_count_97 (fun r_11 => ?_)
    exact xt_iret X r_11 h dX7_count_100
  · have h := h.2.2.2.2.2.2.2.2.2 hc
    refine xt_tin (tgt := 101) X r1 dX7_count_1 8 hc (by decide) (by decide) rfl (by decide) ?_
    refine xt_al X dX7_count_101 rfl 0 rfl ?_
    refine gfX7_129 X k0 dX7_count_102 (fun r_12 => ?_)
    exact xt_iret X r_12 h dX7_count_105
abbrev rmX7_digest : Room := { frames := 10, cells := 0, slots := 0, locals := 241 }
def BX7_digest_39 (ke67 : Int64 → Mm → Prop) (Q : Int64 → Mm → Prop) (v0 : Int) (v3 : Int) (v4 : Int) (rec : Int64 → Int → Mm → Prop) (v1 : Int64) (v5 : Int) (M : Mm) : Prop :=
  ((v4 ≤ v5 → ke67 v1 M) ∧
  (¬ v4 ≤ v5 → (PX7_shownAt v0 v3 v5 M (fun z_4 M_5 =>
  (inR (v5 + 1) ∧
  rec ((31 * v1) + ((Int32.ofInt z_4).toInt64)) (v5 + 1) M_5)))))
def BX7_digest_6  (Q : Int64 → Mm → Prop) (v0 : Int) (rec : Int64 → Int → Mm → Prop) (v1 : Int64) (v3 : Int) (M : Mm) : Prop :=
  (((M (v0 + 1) 0) ≤ v3 → Q v1 M) ∧
  (¬ (M (v0 + 1) 0) ≤ v3 → (PX7_wideOf (v0 + 1) v3 M (fun z_2 M_3 =>
  ∃ n_7 : Nat, lp_LI (BX7_digest_39 (fun w1_8 M_8 => (inR (v3 + 1) ∧
  rec w1_8 (v3 + 1) M_8)) Q v0 v3 z_2) n_7 ((31 * v1) + ((Int32.ofInt z_2).toInt64)) 0 M_3))))
def PX7_digest (v0 : Int) (M : Mm) (Q : Int64 → Mm → Prop) : Prop :=
  ∃ n_10 : Nat, lp_LI (BX7_digest_6  Q v0) n_10 17 0 M
set_option maxHeartbeats 4000000 in
set_option maxRecDepth 100000 in
theorem wX7_digest_39 {p : Program} {l : Launch} {e : Env} {s : State} {m : MethodId} {args : Array Value} {below : List Frame} {meth : Method} {c : Code} {G : GG} (X : Cx p s m args meth c cX7_digest 6 ((some FieldType.long)) RX7 G) {Q : Int64 → Mm → Prop} {ke67 : Int64 → Mm → Prop} {v0 : Int} {v3 : Int} {v4 : Int} (k0 : gK G v0 = (7, 0)) (r3 : inR v3) (r4 : inR v4) (hke67 : ∀ (v1 : Int64) (M : Mm), ke67 v1 M → Wt p l e rmX7_digest s m args below meth c G (MQ below (PostL G Q) args s 0 0 (gA G)) 6 M [(0, rV (v0)), (1, .long (v1)), (3, iV (v3))] 67 []) : ∀ (n : Nat) (v1 : Int64) (v5 : Int) (M : Mm), inR v5 → lp_LI (BX7_digest_39 ke67 Q v0 v3 v4) n v1 v5 M → Wt p l e rmX7_digest s m args below meth c G (MQ below (PostL G Q) args s 0 0 (gA G)) 6 M [(0, rV (v0)), (1, .long (v1)), (3, iV (v3)), (4, iV (v4)), (5, iV (v5))] 39 [] := by
  have hG := X.2.2.2.2.2.2.2.2
  intro n
  induction n with
  | zero => intro v1 v5 M r5 h; exact h.elim
  | succ n ih =>
    intro v1 v5 M r5 h
    have h : BX7_digest_39 ke67 Q v0 v3 v4 (lp_LI (BX7_digest_39 ke67 Q v0 v3 v4) n) v1 v5 M := h
    unfold BX7_digest_39 at h
    refine xt_ilw X dX7_digest_39 4 rfl ?_
    refine xt_ilw X dX7_digest_41 3 rfl ?_
    refine xt_cge (tgt := 67) X r5 r4 dX7_digest_43 (by decide) (fun hc => ?_) (fun hc => ?_)
    · have h := h.1 hc
      refine xt_perm (lv2 := [(0, rV (v0)), (1, .long (v1)), (3, iV (v3))]) [0, 1, 2] rfl ?_
      exact hke67 v1 M  h
    · have h := h.2 hc
      refine xt_ldc2 X klX7_246 dX7_digest_46 ?_
      refine xt_ll X dX7_digest_49 rfl 1 rfl ?_
      refine xt_lmul X dX7_digest_50 ?_
      refine xt_al X dX7_digest_51 rfl 0 rfl ?_
      refine xt_il X dX7_digest_52 rfl 2 rfl ?_
      refine xt_ilw X dX7_digest_53 4 rfl ?_
      refine xt_cVI X [iV (v3), iV (v5)] [.long (31 * v1)] (ctX7_shownAt hG k0 r3 r5 h) gdX7_235 pdX7_shownAt ⟨rfl, rfl⟩ ⟨Nat.le_of_ble_eq_true rfl, Nat.le_of_ble_eq_true rfl⟩ rfl (k_lt k0 (by decide)) (by rw [k0]; rfl) rfl (Nat.le_of_ble_eq_true rfl) dX7_digest_55 (fun z_4 M_5 z_4r h => ?_)
      refine xt_i2l X dX7_digest_58 ?_
      refine xt_ladd X dX7_digest_59 ?_
      refine xt_ls (lv2 := [(1, .long ((31 * v1) + ((Int32.ofInt z_4).toInt64))), (0, rV (v0)), (3, iV (v3)), (4, iV (v4)), (5, iV (v5))]) X dX7_digest_60 rfl (by decide) rfl ?_
      refine xt_inc (lv2 := [(5, iV (v5 + 1)), (1, .long ((31 * v1) + ((Int32.ofInt z_4).toInt64))), (0, rV (v0)), (3, iV (v3)), (4, iV (v4))]) X dX7_digest_61 4 rfl (by decide) rfl ?_
      refine xt_goto (tgt := 39) X dX7_digest_64 (by decide) ?_
      obtain ⟨g_6, h⟩ := h
      refine xt_perm (lv2 := [(0, rV (v0)), (1, .long ((31 * v1) + ((Int32.ofInt z_4).toInt64))), (3, iV (v3)), (4, iV (v4)), (5, iV (v5 + 1))]) [2, 1, 3, 4, 0] rfl ?_
      exact ih ((31 * v1) + ((Int32.ofInt z_4).toInt64)) (v5 + 1) M_5 g_6 h
set_option maxHeartbeats 4000000 in
set_option maxRecDepth 100000 in
theorem wX7_digest_6 {p : Program} {l : Launch} {e : Env} {s : State} {m : MethodId} {args : Array Value} {below : List Frame} {meth : Method} {c : Code} {G : GG} (X : Cx p s m args meth c cX7_digest 6 ((some FieldType.long)) RX7 G) {Q : Int64 → Mm → Prop}  {v0 : Int} (k0 : gK G v0 = (7, 0))  : ∀ (n : Nat) (v1 : Int64) (v3 : Int) (M : Mm), inR v3 → lp_LI (BX7_digest_6  Q v0) n v1 v3 M → Wt p l e rmX7_digest s m args below meth c G (MQ below (PostL G Q) args s 0 0 (gA G)) 6 M [(0, rV (v0)), (1, .long (v1)), (3, iV (v3))] 6 [] := by
  have hG := X.2.2.2.2.2.2.2.2
  intro n
  induction n with
  | zero => intro v1 v3 M r3 h; exact h.elim
  | succ n ih =>
    intro v1 v3 M r3 h
    have h : BX7_digest_6  Q v0 (lp_LI (BX7_digest_6  Q v0) n) v1 v3 M := h
    unfold BX7_digest_6 at h
    refine xt_il X dX7_digest_6 rfl 2 rfl ?_
    refine xt_al X dX7_digest_7 rfl 0 rfl ?_
    refine gfX7_7 X k0 dX7_digest_8 ?_
    refine xt_ic X dX7_digest_11 ?_
    refine xt_iald X (kd_X7_0 hG k0) ⟨by decide, by decide⟩ (by decide) dX7_digest_12 (fun r_1 => ?_)
    refine xt_cge (tgt := 73) X r3 r_1 dX7_digest_13 (by decide) (fun hc => ?_) (fun hc => ?_)
    · have h := h.1 hc
      refine xt_ll X dX7_digest_73 rfl 1 rfl ?_
      exact xt_lret X h dX7_digest_74
    · have h := h.2 hc
      refine xt_al X dX7_digest_16 rfl 0 rfl ?_
      refine gfX7_7 X k0 dX7_digest_17 ?_
      refine xt_il X dX7_digest_20 rfl 2 rfl ?_
      refine xt_cSI X [rV (v0 + 1), iV (v3)] [] (ctX7_wideOf hG (kd_X7_0 hG k0) r3 h) gdX7_77 pdX7_wideOf ⟨rfl, rfl⟩ ⟨Nat.le_of_ble_eq_true rfl, Nat.le_of_ble_eq_true rfl⟩ rfl (Nat.le_of_ble_eq_true rfl) dX7_digest_21 (fun z_2 M_3 z_2r h => ?_)
      refine xt_isw (lv2 := [(4, iV (z_2)), (0, rV (v0)), (1, .long (v1)), (3, iV (v3))]) X dX7_digest_24 (by decide) rfl ?_
      refine xt_ldc2 X klX7_246 dX7_digest_26 ?_
      refine xt_ll X dX7_digest_29 rfl 2 rfl ?_
      refine xt_lmul X dX7_digest_30 ?_
      refine xt_ilw X dX7_digest_31 0 rfl ?_
      refine xt_i2l X dX7_digest_33 ?_
      refine xt_ladd X dX7_digest_34 ?_
      refine xt_ls (lv2 := [(1, .long ((31 * v1) + ((Int32.ofInt z_2).toInt64))), (4, iV (z_2)), (0, rV (v0)), (3, iV (v3))]) X dX7_digest_35 rfl (by decide) rfl ?_
      refine xt_ic X dX7_digest_36 ?_
      refine xt_isw (lv2 := [(5, iV (0)), (1, .long ((31 * v1) + ((Int32.ofInt z_2).toInt64))), (4, iV (z_2)), (0, rV (v0)), (3, iV (v3))]) X dX7_digest_37 (by decide) rfl ?_
      obtain ⟨n_7, h⟩ := h
      refine xt_perm (lv2 := [(0, rV (v0)), (1, .long ((31 * v1) + ((Int32.ofInt z_2).toInt64))), (3, iV (v3)), (4, iV (z_2)), (5, iV (0))]) [3, 1, 4, 2, 0] rfl ?_
      refine wX7_digest_39 X k0 r3 z_2r (fun w1_8 M_8 h => ?_) n_7 ((31 * v1) + ((Int32.ofInt z_2).toInt64)) 0 M_3 (i_rc 0 rfl) h
      refine xt_inc (lv2 := [(3, iV (v3 + 1)), (0, rV (v0)), (1, .long (w1_8))]) X dX7_digest_67 2 rfl (by decide) rfl ?_
      refine xt_goto (tgt := 6) X dX7_digest_70 (by decide) ?_
      obtain ⟨g_9, h⟩ := h
      refine xt_perm (lv2 := [(0, rV (v0)), (1, .long (w1_8)), (3, iV (v3 + 1))]) [1, 2, 0] rfl ?_
      exact ih w1_8 (v3 + 1) M_8 g_9 h
set_option maxHeartbeats 4000000 in
set_option maxRecDepth 100000 in
theorem ctX7_digest {l : Launch} {G : GG} (hG : Gd G) {v0 : Int} {M : Mm} {Q : Int64 → Mm → Prop} (k0 : gK G v0 = (7, 0)) (h : PX7_digest v0 M Q) : Met l yX7_digest (Cond.code yX7_digest cX7_digest 6 ((some FieldType.long)) :: tw) rmX7_digest (Pre G M [rV (v0)]) (PostL G Q) 0 0 (gA G) := by
  refine met_of (own := RX7) (by decide) rfl hG (Nat.le_of_ble_eq_true rfl) (fun p e s m below meth c X => ?_)
  generalize hargs : ([rV (v0)] : List Value).toArray = args at X ⊢
  show Wt p l e rmX7_digest s m args below meth c G (MQ below (PostL G Q) args s 0 0 (gA G)) 6 M [(0, rV (v0))] 0 []
  unfold PX7_digest at h
  refine xt_ldc2 X klX7_244 dX7_digest_0 ?_
  refine xt_ls (lv2 := [(1, .long (17)), (0, rV (v0))]) X dX7_digest_3 rfl (by decide) rfl ?_
  refine xt_ic X dX7_digest_4 ?_
  refine xt_is (lv2 := [(3, iV (0)), (1, .long (17)), (0, rV (v0))]) X dX7_digest_5 rfl (by decide) rfl ?_
  obtain ⟨n_10, h⟩ := h
  refine xt_perm (lv2 := [(0, rV (v0)), (1, .long (17)), (3, iV (0))]) [2, 1, 0] rfl ?_
  refine wX7_digest_6 X k0  n_10 17 0 M (i_rc 0 rfl) h
abbrev rmX7_keep : Room := { frames := 1, cells := 0, slots := 0, locals := 22 }
def BX7_keep_20 (ke51 : Mm → Prop) (Q : Int → Mm → Prop) (v0 : Int) (v1 : Int) (rec : Int → Mm → Prop) (v2 : Int) (M : Mm) : Prop :=
  ((327 ≤ v2 → ke51 M) ∧
  (¬ 327 ≤ v2 → ((0 ≤ v2 ∧ v2 < 327) ∧
  ((0 ≤ ((327 * v1) + v2) ∧ ((327 * v1) + v2) < 654) ∧
  (∀ M_8 : Mm, M_8 = um M (v0 + 7) ((327 * v1) + v2) (M (v0 + 1) v2) →
  (inR (v2 + 1) ∧
  rec (v2 + 1) M_8))))))
def BX7_keep_53 (ke84 : Mm → Prop) (Q : Int → Mm → Prop) (v0 : Int) (v1 : Int) (rec : Int → Mm → Prop) (v2 : Int) (M : Mm) : Prop :=
  ((3270 ≤ v2 → ke84 M) ∧
  (¬ 3270 ≤ v2 → ((0 ≤ v2 ∧ v2 < 3270) ∧
  ((0 ≤ ((3270 * v1) + v2) ∧ ((3270 * v1) + v2) < 6540) ∧
  (∀ M_15 : Mm, M_15 = um M (v0 + 8) ((3270 * v1) + v2) (M (v0 + 4) v2) →
  (inR (v2 + 1) ∧
  rec (v2 + 1) M_15))))))
def PX7_keep (v0 : Int) (v1 : Int) (M : Mm) (Q : Int → Mm → Prop) : Prop :=
  (PX7_in v1 0 1 M (fun z_1 M_2 =>
  ((z_1 = 0 → Q ((-1)) M_2) ∧
  (¬ z_1 = 0 → ((0 ≤ v1 ∧ v1 < 2) ∧
  (∀ M_4 : Mm, M_4 = um M_2 (v0 + 6) v1 1 →
  ∃ n_10 : Nat, lp_I (BX7_keep_20 (fun M_11 => ∃ n_17 : Nat, lp_I (BX7_keep_53 (fun M_18 => ((0 ≤ v1 ∧ v1 < 2) ∧
  (∀ M_21 : Mm, M_21 = um M_18 (v0 + 9) v1 (M_18 v0 4) →
  ((0 ≤ v1 ∧ v1 < 2) ∧
  (∀ M_24 : Mm, M_24 = um M_21 (v0 + 10) v1 (M_21 v0 5) →
  Q (M_24 (v0 + 1) 0) M_24))))) Q v0 v1) n_17 0 M_11) Q v0 v1) n_10 0 M_4))))))
set_option maxHeartbeats 4000000 in
set_option maxRecDepth 100000 in
theorem wX7_keep_20 {p : Program} {l : Launch} {e : Env} {s : State} {m : MethodId} {args : Array Value} {below : List Frame} {meth : Method} {c : Code} {G : GG} (X : Cx p s m args meth c cX7_keep 3 ((some FieldType.int)) RX7 G) {Q : Int → Mm → Prop} {ke51 : Mm → Prop} {v0 : Int} {v1 : Int} (k0 : gK G v0 = (7, 0)) (r1 : inR v1) (hke51 : ∀ (M : Mm), ke51  M → Wt p l e rmX7_keep s m args below meth c G (MQ below (PostI G Q) args s 0 0 (gA G)) 3 M [(0, rV (v0)), (1, iV (v1))] 51 []) : ∀ (n : Nat) (v2 : Int) (M : Mm), inR v2 → lp_I (BX7_keep_20 ke51 Q v0 v1) n v2 M → Wt p l e rmX7_keep s m args below meth c G (MQ below (PostI G Q) args s 0 0 (gA G)) 3 M [(0, rV (v0)), (1, iV (v1)), (2, iV (v2))] 20 [] := by
  have hG := X.2.2.2.2.2.2.2.2
  intro n
  induction n with
  | zero => intro v2 M r2 h; exact h.elim
  | succ n ih =>
    intro v2 M r2 h
    have h : BX7_keep_20 ke51 Q v0 v1 (lp_I (BX7_keep_20 ke51 Q v0 v1) n) v2 M := h
    unfold BX7_keep_20 at h
    refine xt_il X dX7_keep_20 rfl 2 rfl ?_
    refine xt_si X dX7_keep_21 (by decide) ?_
    refine xt_cge (tgt := 51) X r2 (i_rc 327 rfl) dX7_keep_24 (by decide) (fun hc => ?_) (fun hc => ?_)
    · have h := h.1 hc
      refine xt_perm (lv2 := [(0, rV (v0)), (1, iV (v1))]) [0, 1] rfl ?_
      exact hke51 M  h
    · have h := h.2 hc
      refine xt_al X dX7_keep_27 rfl 0 rfl ?_
      refine gfX7_29 X k0 dX7_keep_28 ?_
      refine xt_si X dX7_keep_31 (by decide) ?_
      refine xt_il X dX7_keep_34 rfl 1 rfl ?_
      refine xt_mul X dX7_keep_35 ?_
      refine xt_il X dX7_keep_36 rfl 2 rfl ?_
      refine xt_add X dX7_keep_37 ?_
      refine xt_al X dX7_keep_38 rfl 0 rfl ?_
      refine gfX7_7 X k0 dX7_keep_39 ?_
      refine xt_il X dX7_keep_42 rfl 2 rfl ?_
      obtain ⟨g_5, h⟩ := h
      refine xt_iald X (kd_X7_0 hG k0) g_5 (by decide) dX7_keep_43 (fun r_6 => ?_)
      obtain ⟨g_7, h⟩ := h
      refine xt_iast X (kd_X7_18 hG k0) g_7 (by decide) r_6 dX7_keep_44 (fun M_8 hm => ?_)
      have h := h M_8 hm
      refine xt_inc (lv2 := [(2, iV (v2 + 1)), (0, rV (v0)), (1, iV (v1))]) X dX7_keep_45 2 rfl (by decide) rfl ?_
      refine xt_goto (tgt := 20) X dX7_keep_48 (by decide) ?_
      obtain ⟨g_9, h⟩ := h
      refine xt_perm (lv2 := [(0, rV (v0)), (1, iV (v1)), (2, iV (v2 + 1))]) [1, 2, 0] rfl ?_
      exact ih (v2 + 1) M_8 g_9 h
set_option maxHeartbeats 4000000 in
set_option maxRecDepth 100000 in
theorem wX7_keep_53 {p : Program} {l : Launch} {e : Env} {s : State} {m : MethodId} {args : Array Value} {below : List Frame} {meth : Method} {c : Code} {G : GG} (X : Cx p s m args meth c cX7_keep 3 ((some FieldType.int)) RX7 G) {Q : Int → Mm → Prop} {ke84 : Mm → Prop} {v0 : Int} {v1 : Int} (k0 : gK G v0 = (7, 0)) (r1 : inR v1) (hke84 : ∀ (M : Mm), ke84  M → Wt p l e rmX7_keep s m args below meth c G (MQ below (PostI G Q) args s 0 0 (gA G)) 3 M [(0, rV (v0)), (1, iV (v1))] 84 []) : ∀ (n : Nat) (v2 : Int) (M : Mm), inR v2 → lp_I (BX7_keep_53 ke84 Q v0 v1) n v2 M → Wt p l e rmX7_keep s m args below meth c G (MQ below (PostI G Q) args s 0 0 (gA G)) 3 M [(0, rV (v0)), (1, iV (v1)), (2, iV (v2))] 53 [] := by
  have hG := X.2.2.2.2.2.2.2.2
  intro n
  induction n with
  | zero => intro v2 M r2 h; exact h.elim
  | succ n ih =>
    intro v2 M r2 h
    have h : BX7_keep_53 ke84 Q v0 v1 (lp_I (BX7_keep_53 ke84 Q v0 v1) n) v2 M := h
    unfold BX7_keep_53 at h
    refine xt_il X dX7_keep_53 rfl 2 rfl ?_
    refine xt_si X dX7_keep_54 (by decide) ?_
    refine xt_cge (tgt := 84) X r2 (i_rc 3270 rfl) dX7_keep_57 (by decide) (fun hc => ?_) (fun hc => ?_)
    · have h := h.1 hc
      refine xt_perm (lv2 := [(0, rV (v0)), (1, iV (v1))]) [0, 1] rfl ?_
      exact hke84 M  h
    · have h := h.2 hc
      refine xt_al X dX7_keep_60 rfl 0 rfl ?_
      refine gfX7_32 X k0 dX7_keep_61 ?_
      refine xt_si X dX7_keep_64 (by decide) ?_
      refine xt_il X dX7_keep_67 rfl 1 rfl ?_
      refine xt_mul X dX7_keep_68 ?_
      refine xt_il X dX7_keep_69 rfl 2 rfl ?_
      refine xt_add X dX7_keep_70 ?_
      refine xt_al X dX7_keep_71 rfl 0 rfl ?_
      refine gfX7_19 X k0 dX7_keep_72 ?_
      refine xt_il X dX7_keep_75 rfl 2 rfl ?_
      obtain ⟨g_12, h⟩ := h
      refine xt_iald X (kd_X7_6 hG k0) g_12 (by decide) dX7_keep_76 (fun r_13 => ?_)
      obtain ⟨g_14, h⟩ := h
      refine xt_iast X (kd_X7_19 hG k0) g_14 (by decide) r_13 dX7_keep_77 (fun M_15 hm => ?_)
      have h := h M_15 hm
      refine xt_inc (lv2 := [(2, iV (v2 + 1)), (0, rV (v0)), (1, iV (v1))]) X dX7_keep_78 2 rfl (by decide) rfl ?_
      refine xt_goto (tgt := 53) X dX7_keep_81 (by decide) ?_
      obtain ⟨g_16, h⟩ := h
      refine xt_perm (lv2 := [(0, rV (v0)), (1, iV (v1)), (2, iV (v2 + 1))]) [1, 2, 0] rfl ?_
      exact ih (v2 + 1) M_15 g_16 h
set_option maxHeartbeats 4000000 in
set_option maxRecDepth 100000 in
theorem ctX7_keep {l : Launch} {G : GG} (hG : Gd G) {v0 : Int} {v1 : Int} {M : Mm} {Q : Int → Mm → Prop} (k0 : gK G v0 = (7, 0)) (r1 : inR v1) (h : PX7_keep v0 v1 M Q) : Met l yX7_keep (Cond.code yX7_keep cX7_keep 3 ((some FieldType.int)) :: tw) rmX7_keep (Pre G M [rV (v0), iV (v1)]) (PostI G Q) 0 0 (gA G) := by
  refine met_of (own := RX7) (by decide) rfl hG (Nat.le_of_ble_eq_true rfl) (fun p e s m below meth c X => ?_)
  generalize hargs : ([rV (v0), iV (v1)] : List Value).toArray = args at X ⊢
  show Wt p l e rmX7_keep s m args below meth c G (MQ below (PostI G Q) args s 0 0 (gA G)) 3 M [(0, rV (v0)), (1, iV (v1))] 0 []
  unfold PX7_keep at h
  refine xt_il X dX7_keep_0 rfl 1 rfl ?_
  refine xt_ic X dX7_keep_1 ?_
  refine xt_ic X dX7_keep_2 ?_
  refine xt_cSI X [iV (v1), iV (0), iV (1)] [] (ctX7_in hG r1 (i_rc 0 rfl) (i_rc 1 rfl) h) gdX7_80 pdX7_in ⟨rfl, rfl⟩ ⟨Nat.le_of_ble_eq_true rfl, Nat.le_of_ble_eq_true rfl⟩ rfl (Nat.le_of_ble_eq_true rfl) dX7_keep_3 (fun z_1 M_2 z_1r h => ?_)
  refine xt_zne (tgt := 11) X z_1r dX7_keep_6 (by decide) (fun hc => ?_) (fun hc => ?_)
  · have h := h.2 hc
    refine xt_al X dX7_keep_11 rfl 0 rfl ?_
    refine gfX7_25 X k0 dX7_keep_12 ?_
    refine xt_il X dX7_keep_15 rfl 1 rfl ?_
    refine xt_ic X dX7_keep_16 ?_
    obtain ⟨g_3, h⟩ := h
    refine xt_zast X (kd_X7_17 hG k0) g_3 (by decide) (i_rc 1 rfl) (Or.inr rfl) dX7_keep_17 (fun M_4 hm => ?_)
    have h := h M_4 hm
    refine xt_ic X dX7_keep_18 ?_
    refine xt_is (lv2 := [(2, iV (0)), (0, rV (v0)), (1, iV (v1))]) X dX7_keep_19 rfl (by decide) rfl ?_
    obtain ⟨n_10, h⟩ := h
    refine xt_perm (lv2 := [(0, rV (v0)), (1, iV (v1)), (2, iV (0))]) [1, 2, 0] rfl ?_
    refine wX7_keep_20 X k0 r1 (fun M_11 h => ?_) n_10 0 M_4 (i_rc 0 rfl) h
    refine xt_ic X dX7_keep_51 ?_
    refine xt_is (lv2 := [(2, iV (0)), (0, rV (v0)), (1, iV (v1))]) X dX7_keep_52 rfl (by decide) rfl ?_
    obtain ⟨n_17, h⟩ := h
    refine xt_perm (lv2 := [(0, rV (v0)), (1, iV (v1)), (2, iV (0))]) [1, 2, 0] rfl ?_
    refine wX7_keep_53 X k0 r1 (fun M_18 h => ?_) n_17 0 M_11 (i_rc 0 rfl) h
    refine xt_al X dX7_keep_84 rfl 0 rfl ?_
    refine gfX7_35 X k0 dX7_keep_85 ?_
    refine xt_il X dX7_keep_88 rfl 1 rfl ?_
    refine xt_al X dX7_keep_89 rfl 0 rfl ?_
    refine gfX7_92 X k0 dX7_keep_90 (fun r_19 => ?_)
    obtain ⟨g_20, h⟩ := h
    refine xt_iast X (kd_X7_20 hG k0) g_20 (by decide) r_19 dX7_keep_93 (fun M_21 hm => ?_)
    have h := h M_21 hm
    refine xt_al X dX7_keep_94 rfl 0 rfl ?_
    refine gfX7_38 X k0 dX7_keep_95 ?_
    refine xt_il X dX7_keep_98 rfl 1 rfl ?_
    refine xt_al X dX7_keep_99 rfl 0 rfl ?_
    refine gfX7_88 X k0 dX7_keep_100 (fun r_22 => ?_)
    obtain ⟨g_23, h⟩ := h
    refine xt_iast X (kd_X7_21 hG k0) g_23 (by decide) r_22 dX7_keep_103 (fun M_24 hm => ?_)
    have h := h M_24 hm
    refine xt_al X dX7_keep_104 rfl 0 rfl ?_
    refine gfX7_7 X k0 dX7_keep_105 ?_
    refine xt_ic X dX7_keep_108 ?_
    refine xt_iald X (kd_X7_0 hG k0) ⟨by decide, by decide⟩ (by decide) dX7_keep_109 (fun r_25 => ?_)
    exact xt_iret X r_25 h dX7_keep_110
  · have h := h.1 hc
    refine xt_ic X dX7_keep_9 ?_
    exact xt_iret X (i_rc (-1) rfl) h dX7_keep_10
abbrev rmX7_back : Room := { frames := 1, cells := 0, slots := 0, locals := 22 }
def BX7_back_25 (ke56 : Mm → Prop) (Q : Int → Mm → Prop) (v0 : Int) (v1 : Int) (rec : Int → Mm → Prop) (v2 : Int) (M : Mm) : Prop :=
  ((327 ≤ v2 → ke56 M) ∧
  (¬ 327 ≤ v2 → ((0 ≤ ((327 * v1) + v2) ∧ ((327 * v1) + v2) < 654) ∧
  ((0 ≤ v2 ∧ v2 < 327) ∧
  (∀ M_8 : Mm, M_8 = um M (v0 + 1) v2 (M (v0 + 7) ((327 * v1) + v2)) →
  (inR (v2 + 1) ∧
  rec (v2 + 1) M_8))))))
def BX7_back_58 (ke89 : Mm → Prop) (Q : Int → Mm → Prop) (v0 : Int) (v1 : Int) (rec : Int → Mm → Prop) (v2 : Int) (M : Mm) : Prop :=
  ((3270 ≤ v2 → ke89 M) ∧
  (¬ 3270 ≤ v2 → ((0 ≤ ((3270 * v1) + v2) ∧ ((3270 * v1) + v2) < 6540) ∧
  ((0 ≤ v2 ∧ v2 < 3270) ∧
  (∀ M_15 : Mm, M_15 = um M (v0 + 4) v2 (M (v0 + 8) ((3270 * v1) + v2)) →
  (inR (v2 + 1) ∧
  rec (v2 + 1) M_15))))))
def PX7_back (v0 : Int) (v1 : Int) (M : Mm) (Q : Int → Mm → Prop) : Prop :=
  (PX7_in v1 0 1 M (fun z_1 M_2 =>
  ((z_1 = 0 → Q ((-1)) M_2) ∧
  (¬ z_1 = 0 → ((0 ≤ v1 ∧ v1 < 2) ∧
  (((M_2 (v0 + 6) v1) = 0 → Q ((-2)) M_2) ∧
  (¬ (M_2 (v0 + 6) v1) = 0 → ∃ n_10 : Nat, lp_I (BX7_back_25 (fun M_11 => ∃ n_17 : Nat, lp_I (BX7_back_58 (fun M_18 => ((0 ≤ v1 ∧ v1 < 2) ∧
  (∀ M_21 : Mm, M_21 = um M_18 v0 4 (M_18 (v0 + 9) v1) →
  ((0 ≤ v1 ∧ v1 < 2) ∧
  (∀ M_24 : Mm, M_24 = um M_21 v0 5 (M_21 (v0 + 10) v1) →
  (∀ M_25 : Mm, M_25 = um M_24 v0 3 0 →
  Q (M_25 (v0 + 1) 0) M_25)))))) Q v0 v1) n_17 0 M_11) Q v0 v1) n_10 0 M_2)))))))
set_option maxHeartbeats 4000000 in
set_option maxRecDepth 100000 in
theorem wX7_back_25 {p : Program} {l : Launch} {e : Env} {s : State} {m : MethodId} {args : Array Value} {below : List Frame} {meth : Method} {c : Code} {G : GG} (X : Cx p s m args meth c cX7_back 3 ((some FieldType.int)) RX7 G) {Q : Int → Mm → Prop} {ke56 : Mm → Prop} {v0 : Int} {v1 : Int} (k0 : gK G v0 = (7, 0)) (r1 : inR v1) (hke56 : ∀ (M : Mm), ke56  M → Wt p l e rmX7_back s m args below meth c G (MQ below (PostI G Q) args s 0 0 (gA G)) 3 M [(0, rV (v0)), (1, iV (v1))] 56 []) : ∀ (n : Nat) (v2 : Int) (M : Mm), inR v2 → lp_I (BX7_back_25 ke56 Q v0 v1) n v2 M → Wt p l e rmX7_back s m args below meth c G (MQ below (PostI G Q) args s 0 0 (gA G)) 3 M [(0, rV (v0)), (1, iV (v1)), (2, iV (v2))] 25 [] := by
  have hG := X.2.2.2.2.2.2.2.2
  intro n
  induction n with
  | zero => intro v2 M r2 h; exact h.elim
  | succ n ih =>
    intro v2 M r2 h
    have h : BX7_back_25 ke56 Q v0 v1 (lp_I (BX7_back_25 ke56 Q v0 v1) n) v2 M := h
    unfold BX7_back_25 at h
    refine xt_il X dX7_back_25 rfl 2 rfl ?_
    refine xt_si X dX7_back_26 (by decide) ?_
    refine xt_cge (tgt := 56) X r2 (i_rc 327 rfl) dX7_back_29 (by decide) (fun hc => ?_) (fun hc => ?_)
    · have h := h.1 hc
      refine xt_perm (lv2 := [(0, rV (v0)), (1, iV (v1))]) [0, 1] rfl ?_
      exact hke56 M  h
    · have h := h.2 hc
      refine xt_al X dX7_back_32 rfl 0 rfl ?_
      refine gfX7_7 X k0 dX7_back_33 ?_
      refine xt_il X dX7_back_36 rfl 2 rfl ?_
      refine xt_al X dX7_back_37 rfl 0 rfl ?_
      refine gfX7_29 X k0 dX7_back_38 ?_
      refine xt_si X dX7_back_41 (by decide) ?_
      refine xt_il X dX7_back_44 rfl 1 rfl ?_
      refine xt_mul X dX7_back_45 ?_
      refine xt_il X dX7_back_46 rfl 2 rfl ?_
      refine xt_add X dX7_back_47 ?_
      obtain ⟨g_5, h⟩ := h
      refine xt_iald X (kd_X7_18 hG k0) g_5 (by decide) dX7_back_48 (fun r_6 => ?_)
      obtain ⟨g_7, h⟩ := h
      refine xt_iast X (kd_X7_0 hG k0) g_7 (by decide) r_6 dX7_back_49 (fun M_8 hm => ?_)
      have h := h M_8 hm
      refine xt_inc (lv2 := [(2, iV (v2 + 1)), (0, rV (v0)), (1, iV (v1))]) X dX7_back_50 2 rfl (by decide) rfl ?_
      refine xt_goto (tgt := 25) X dX7_back_53 (by decide) ?_
      obtain ⟨g_9, h⟩ := h
      refine xt_perm (lv2 := [(0, rV (v0)), (1, iV (v1)), (2, iV (v2 + 1))]) [1, 2, 0] rfl ?_
      exact ih (v2 + 1) M_8 g_9 h
set_option maxHeartbeats 4000000 in
set_option maxRecDepth 100000 in
theorem wX7_back_58 {p : Program} {l : Launch} {e : Env} {s : State} {m : MethodId} {args : Array Value} {below : List Frame} {meth : Method} {c : Code} {G : GG} (X : Cx p s m args meth c cX7_back 3 ((some FieldType.int)) RX7 G) {Q : Int → Mm → Prop} {ke89 : Mm → Prop} {v0 : Int} {v1 : Int} (k0 : gK G v0 = (7, 0)) (r1 : inR v1) (hke89 : ∀ (M : Mm), ke89  M → Wt p l e rmX7_back s m args below meth c G (MQ below (PostI G Q) args s 0 0 (gA G)) 3 M [(0, rV (v0)), (1, iV (v1))] 89 []) : ∀ (n : Nat) (v2 : Int) (M : Mm), inR v2 → lp_I (BX7_back_58 ke89 Q v0 v1) n v2 M → Wt p l e rmX7_back s m args below meth c G (MQ below (PostI G Q) args s 0 0 (gA G)) 3 M [(0, rV (v0)), (1, iV (v1)), (2, iV (v2))] 58 [] := by
  have hG := X.2.2.2.2.2.2.2.2
  intro n
  induction n with
  | zero => intro v2 M r2 h; exact h.elim
  | succ n ih =>
    intro v2 M r2 h
    have h : BX7_back_58 ke89 Q v0 v1 (lp_I (BX7_back_58 ke89 Q v0 v1) n) v2 M := h
    unfold BX7_back_58 at h
    refine xt_il X dX7_back_58 rfl 2 rfl ?_
    refine xt_si X dX7_back_59 (by decide) ?_
    refine xt_cge (tgt := 89) X r2 (i_rc 3270 rfl) dX7_back_62 (by decide) (fun hc => ?_) (fun hc => ?_)
    · have h := h.1 hc
      refine xt_perm (lv2 := [(0, rV (v0)), (1, iV (v1))]) [0, 1] rfl ?_
      exact hke89 M  h
    · have h := h.2 hc
      refine xt_al X dX7_back_65 rfl 0 rfl ?_
      refine gfX7_19 X k0 dX7_back_66 ?_
      refine xt_il X dX7_back_69 rfl 2 rfl ?_
      refine xt_al X dX7_back_70 rfl 0 rfl ?_
      refine gfX7_32 X k0 dX7_back_71 ?_
      refine xt_si X dX7_back_74 (by decide) ?_
      refine xt_il X dX7_back_77 rfl 1 rfl ?_
      refine xt_mul X dX7_back_78 ?_
      refine xt_il X dX7_back_79 rfl 2 rfl ?_
      refine xt_add X dX7_back_80 ?_
      obtain ⟨g_12, h⟩ := h
      refine xt_iald X (kd_X7_19 hG k0) g_12 (by decide) dX7_back_81 (fun r_13 => ?_)
      obtain ⟨g_14, h⟩ := h
      refine xt_iast X (kd_X7_6 hG k0) g_14 (by decide) r_13 dX7_back_82 (fun M_15 hm => ?_)
      have h := h M_15 hm
      refine xt_inc (lv2 := [(2, iV (v2 + 1)), (0, rV (v0)), (1, iV (v1))]) X dX7_back_83 2 rfl (by decide) rfl ?_
      refine xt_goto (tgt := 58) X dX7_back_86 (by decide) ?_
      obtain ⟨g_16, h⟩ := h
      refine xt_perm (lv2 := [(0, rV (v0)), (1, iV (v1)), (2, iV (v2 + 1))]) [1, 2, 0] rfl ?_
      exact ih (v2 + 1) M_15 g_16 h
set_option maxHeartbeats 4000000 in
set_option maxRecDepth 100000 in
theorem ctX7_back {l : Launch} {G : GG} (hG : Gd G) {v0 : Int} {v1 : Int} {M : Mm} {Q : Int → Mm → Prop} (k0 : gK G v0 = (7, 0)) (r1 : inR v1) (h : PX7_back v0 v1 M Q) : Met l yX7_back (Cond.code yX7_back cX7_back 3 ((some FieldType.int)) :: tw) rmX7_back (Pre G M [rV (v0), iV (v1)]) (PostI G Q) 0 0 (gA G) := by
  refine met_of (own := RX7) (by decide) rfl hG (Nat.le_of_ble_eq_true rfl) (fun p e s m below meth c X => ?_)
  generalize hargs : ([rV (v0), iV (v1)] : List Value).toArray = args at X ⊢
  show Wt p l e rmX7_back s m args below meth c G (MQ below (PostI G Q) args s 0 0 (gA G)) 3 M [(0, rV (v0)), (1, iV (v1))] 0 []
  unfold PX7_back at h
  refine xt_il X dX7_back_0 rfl 1 rfl ?_
  refine xt_ic X dX7_back_1 ?_
  refine xt_ic X dX7_back_2 ?_
  refine xt_cSI X [iV (v1), iV (0), iV (1)] [] (ctX7_in hG r1 (i_rc 0 rfl) (i_rc 1 rfl) h) gdX7_80 pdX7_in ⟨rfl, rfl⟩ ⟨Nat.le_of_ble_eq_true rfl, Nat.le_of_ble_eq_true rfl⟩ rfl (Nat.le_of_ble_eq_true rfl) dX7_back_3 (fun z_1 M_2 z_1r h => ?_)
  refine xt_zne (tgt := 11) X z_1r dX7_back_6 (by decide) (fun hc => ?_) (fun hc => ?_)
  · have h := h.2 hc
    refine xt_al X dX7_back_11 rfl 0 rfl ?_
    refine gfX7_25 X k0 dX7_back_12 ?_
    refine xt_il X dX7_back_15 rfl 1 rfl ?_
    obtain ⟨g_3, h⟩ := h
    refine xt_zald X (kd_X7_17 hG k0) g_3 (by decide) dX7_back_16 (fun r_4 => ?_)
    refine xt_zne (tgt := 23) X r_4 dX7_back_17 (by decide) (fun hc => ?_) (fun hc => ?_)
    · have h := h.2 hc
      refine xt_ic X dX7_back_23 ?_
      refine xt_is (lv2 := [(2, iV (0)), (0, rV (v0)), (1, iV (v1))]) X dX7_back_24 rfl (by decide) rfl ?_
      obtain ⟨n_10, h⟩ := h
      refine xt_perm (lv2 := [(0, rV (v0)), (1, iV (v1)), (2, iV (0))]) [1, 2, 0] rfl ?_
      refine wX7_back_25 X k0 r1 (fun M_11 h => ?_) n_10 0 M_2 (i_rc 0 rfl) h
      refine xt_ic X dX7_back_56 ?_
      refine xt_is (lv2 := [(2, iV (0)), (0, rV (v0)), (1, iV (v1))]) X dX7_back_57 rfl (by decide) rfl ?_
      obtain ⟨n_17, h⟩ := h
      refine xt_perm (lv2 := [(0, rV (v0)), (1, iV (v1)), (2, iV (0))]) [1, 2, 0] rfl ?_
      refine wX7_back_58 X k0 r1 (fun M_18 h => ?_) n_17 0 M_11 (i_rc 0 rfl) h
      refine xt_al X dX7_back_89 rfl 0 rfl ?_
      refine xt_al X dX7_back_90 rfl 0 rfl ?_
      refine gfX7_35 X k0 dX7_back_91 ?_
      refine xt_il X dX7_back_94 rfl 1 rfl ?_
      obtain ⟨g_19, h⟩ := h
      refine xt_iald X (kd_X7_20 hG k0) g_19 (by decide) dX7_back_95 (fun r_20 => ?_)
      refine pfX7_92 X k0 r_20 dX7_back_96 (fun M_21 hm => ?_)
      have h := h M_21 hm
      refine xt_al X dX7_back_99 rfl 0 rfl ?_
      refine xt_al X dX7_back_100 rfl 0 rfl ?_
      refine gfX7_38 X k0 dX7_back_101 ?_
      refine xt_il X dX7_back_104 rfl 1 rfl ?_
      obtain ⟨g_22, h⟩ := h
      refine xt_iald X (kd_X7_21 hG k0) g_22 (by decide) dX7_back_105 (fun r_23 => ?_)
      refine pfX7_88 X k0 r_23 dX7_back_106 (fun M_24 hm => ?_)
      have h := h M_24 hm
      refine xt_al X dX7_back_109 rfl 0 rfl ?_
      refine xt_ic X dX7_back_110 ?_
      refine pfX7_95 X k0 (i_rc 0 rfl) dX7_back_111 (fun M_25 hm => ?_)
      have h := h M_25 hm
      refine xt_al X dX7_back_114 rfl 0 rfl ?_
      refine gfX7_7 X k0 dX7_back_115 ?_
      refine xt_ic X dX7_back_118 ?_
      refine xt_iald X (kd_X7_0 hG k0) ⟨by decide, by decide⟩ (by decide) dX7_back_119 (fun r_26 => ?_)
      exact xt_iret X r_26 h dX7_back_120
    · have h := h.1 hc
      refine xt_bi X dX7_back_20 (by decide) ?_
      exact xt_iret X (i_rc (-2) rfl) h dX7_back_22
  · have h := h.1 hc
    refine xt_ic X dX7_back_9 ?_
    exact xt_iret X (i_rc (-1) rfl) h dX7_back_10
