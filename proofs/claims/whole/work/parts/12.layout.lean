abbrev rmX2_partIntoCells : Room := { frames := 1, cells := 0, slots := 0, locals := 22 }
def BX2_partIntoCells_12 (ke135 : Int → Int → Mm → Prop) (Q : Mm → Prop) (v0 : Int) (v1 : Int) (v2 : Int) (rec : Int → Int → Int → Int → Mm → Prop) (v3 : Int) (v4 : Int) (v5 : Int) (v6 : Int) (M : Mm) : Prop :=
  ((0 ≤ v2 ∧ v2 < 12) ∧
  (((M (v1 + 1) v2) ≤ v6 → ke135 v3 v4 M) ∧
  (¬ (M (v1 + 1) v2) ≤ v6 → (PX3_signAt v1 v2 v6 M (fun z_3 M_4 =>
  ((z_3 = 124 → ((0 ≤ ((v2 * 24) + v3) ∧ ((v2 * 24) + v3) < 288) ∧
  (∀ M_9 : Mm, M_9 = um M_4 (v0 + 9) ((v2 * 24) + v3) v4 →
  ((0 ≤ ((v2 * 24) + v3) ∧ ((v2 * 24) + v3) < 288) ∧
  (inR (v6 - v4) ∧
  (∀ M_12 : Mm, M_12 = um M_9 (v0 + 5) ((v2 * 24) + v3) (v6 - v4) →
  ((v5 = ((-9)) → ((0 ≤ ((v2 * 24) + v3) ∧ ((v2 * 24) + v3) < 288) ∧
  (inR (v6 - v4) ∧
  (∀ M_21 : Mm, M_21 = um M_12 (v0 + 10) ((v2 * 24) + v3) (v6 - v4) →
  (inR (v3 + 1) ∧
  (inR (v6 + 1) ∧
  (inR (v6 + 1) ∧
  rec (v3 + 1) (v6 + 1) ((-9)) (v6 + 1) M_21))))))) ∧
  (¬ v5 = ((-9)) → ((0 ≤ ((v2 * 24) + v3) ∧ ((v2 * 24) + v3) < 288) ∧
  (inR (v5 - v4) ∧
  (∀ M_15 : Mm, M_15 = um M_12 (v0 + 10) ((v2 * 24) + v3) (v5 - v4) →
  (inR (v3 + 1) ∧
  (inR (v6 + 1) ∧
  (inR (v6 + 1) ∧
  rec (v3 + 1) (v6 + 1) ((-9)) (v6 + 1) M_15)))))))))))))) ∧
  (¬ z_3 = 124 → ((z_3 = 46 → ((v5 = ((-9)) → (inR (v6 + 1) ∧
  rec v3 v4 v6 (v6 + 1) M_4)) ∧
  (¬ v5 = ((-9)) → (inR (v6 + 1) ∧
  rec v3 v4 v5 (v6 + 1) M_4)))) ∧
  (¬ z_3 = 46 → (inR (v6 + 1) ∧
  rec v3 v4 v5 (v6 + 1) M_4))))))))))
def PX2_partIntoCells (v0 : Int) (v1 : Int) (v2 : Int) (M : Mm) (Q : Mm → Prop) : Prop :=
  ∃ n_25 : Nat, lp_IIII (BX2_partIntoCells_12 (fun w3_26 w4_26 M_26 => ((0 ≤ v2 ∧ v2 < 12) ∧
  (∀ M_28 : Mm, M_28 = um M_26 (v0 + 1) v2 w3_26 →
  ((0 ≤ v2 ∧ v2 < 12) ∧
  (∀ M_30 : Mm, M_30 = um M_28 (v0 + 2) v2 w4_26 →
  Q M_30))))) Q v0 v1 v2) n_25 0 0 ((-9)) 0 M
set_option maxHeartbeats 4000000 in
set_option maxRecDepth 100000 in
theorem wX2_partIntoCells_12 {p : Program} {l : Launch} {e : Env} {s : State} {m : MethodId} {args : Array Value} {below : List Frame} {meth : Method} {c : Code} {G : GG} (X : Cx p s m args meth c cX2_partIntoCells 9 (none) RX2 G) {Q : Mm → Prop} {ke135 : Int → Int → Mm → Prop} {v0 : Int} {v1 : Int} {v2 : Int} (k0 : gK G v0 = (2, 0)) (k1 : gK G v1 = (3, 0)) (r2 : inR v2) (hke135 : ∀ (v3 : Int) (v4 : Int) (M : Mm), inR v3 → inR v4 → ke135 v3 v4 M → Wt p l e rmX2_partIntoCells s m args below meth c G (MQ below (PostV G Q) args s 0 0 (gA G)) 9 M [(0, rV (v0)), (2, iV (v2)), (3, iV (v3)), (4, iV (v4))] 135 []) : ∀ (n : Nat) (v3 : Int) (v4 : Int) (v5 : Int) (v6 : Int) (M : Mm), inR v3 → inR v4 → inR v5 → inR v6 → lp_IIII (BX2_partIntoCells_12 ke135 Q v0 v1 v2) n v3 v4 v5 v6 M → Wt p l e rmX2_partIntoCells s m args below meth c G (MQ below (PostV G Q) args s 0 0 (gA G)) 9 M [(0, rV (v0)), (1, rV (v1)), (2, iV (v2)), (3, iV (v3)), (4, iV (v4)), (5, iV (v5)), (6, iV (v6))] 12 [] := by
  have hG := X.2.2.2.2.2.2.2.2
  intro n
  induction n with
  | zero => intro v3 v4 v5 v6 M r3 r4 r5 r6 h; exact h.elim
  | succ n ih =>
    intro v3 v4 v5 v6 M r3 r4 r5 r6 h
    have h : BX2_partIntoCells_12 ke135 Q v0 v1 v2 (lp_IIII (BX2_partIntoCells_12 ke135 Q v0 v1 v2) n) v3 v4 v5 v6 M := h
    unfold BX2_partIntoCells_12 at h
    refine xt_ilw X dX2_partIntoCells_12 6 rfl ?_
    refine xt_al X dX2_partIntoCells_14 rfl 1 rfl ?_
    refine gfX2_74 X k1 dX2_partIntoCells_15 ?_
    refine xt_il X dX2_partIntoCells_18 rfl 2 rfl ?_
    obtain ⟨g_1, h⟩ := h
    refine xt_iald X (kd_X3_3 hG k1) g_1 (by decide) dX2_partIntoCells_19 (fun r_2 => ?_)
    refine xt_cge (tgt := 135) X r6 r_2 dX2_partIntoCells_20 (by decide) (fun hc => ?_) (fun hc => ?_)
    · have h := h.1 hc
      refine xt_perm (lv2 := [(0, rV (v0)), (2, iV (v2)), (3, iV (v3)), (4, iV (v4))]) [0, 2, 3, 4] rfl ?_
      exact hke135 v3 v4 M r3 r4 h
    · have h := h.2 hc
      refine xt_al X dX2_partIntoCells_23 rfl 1 rfl ?_
      refine xt_il X dX2_partIntoCells_24 rfl 2 rfl ?_
      refine xt_ilw X dX2_partIntoCells_25 6 rfl ?_
      refine xt_cVI X [iV (v2), iV (v6)] [] (ctX3_signAt hG k1 r2 r6 h) gdX2_75 pdX3_signAt ⟨rfl, rfl⟩ ⟨Nat.le_of_ble_eq_true rfl, Nat.le_of_ble_eq_true rfl⟩ rfl (k_lt k1 (by decide)) (by rw [k1]; rfl) rfl (Nat.le_of_ble_eq_true rfl) dX2_partIntoCells_27 (fun z_3 M_4 z_3r h => ?_)
      refine xt_isw (lv2 := [(7, iV (z_3)), (0, rV (v0)), (1, rV (v1)), (2, iV (v2)), (3, iV (v3)), (4, iV (v4)), (5, iV (v5)), (6, iV (v6))]) X dX2_partIntoCells_30 (by decide) rfl ?_
      refine xt_ilw X dX2_partIntoCells_32 0 rfl ?_
      refine xt_bi X dX2_partIntoCells_34 (by decide) ?_
      refine xt_cne (tgt := 111) X z_3r (i_rc 124 rfl) dX2_partIntoCells_36 (by decide) (fun hc => ?_) (fun hc => ?_)
      · have h := h.2 hc
        refine xt_ilw X dX2_partIntoCells_111 0 rfl ?_
        refine xt_bi X dX2_partIntoCells_113 (by decide) ?_
        refine xt_cne (tgt := 129) X z_3r (i_rc 46 rfl) dX2_partIntoCells_115 (by decide) (fun hc => ?_) (fun hc => ?_)
        · have h := h.2 hc
          refine xt_inc (lv2 := [(6, iV (v6 + 1)), (7, iV (z_3)), (0, rV (v0)), (1, rV (v1)), (2, iV (v2)), (3, iV (v3)), (4, iV (v4)), (5, iV (v5))]) X dX2_partIntoCells_129 7 rfl (by decide) rfl ?_
          refine xt_goto (tgt := 12) X dX2_partIntoCells_132 (by decide) ?_
          obtain ⟨g_5, h⟩ := h
          refine xt_perm (lv2 := [(0, rV (v0)), (1, rV (v1)), (2, iV (v2)), (3, iV (v3)), (4, iV (v4)), (5, iV (v5)), (6, iV (v6 + 1))]) [2, 3, 4, 5, 6, 7, 0] rfl ?_
          exact ih v3 v4 v5 (v6 + 1) M_4 r3 r4 r5 g_5 h
        · have h := h.1 hc
          refine xt_ilw X dX2_partIntoCells_118 6 rfl ?_
          refine xt_bi X dX2_partIntoCells_120 (by decide) ?_
          refine xt_cne (tgt := 129) X r5 (i_rc (-9) rfl) dX2_partIntoCells_122 (by decide) (fun hc => ?_) (fun hc => ?_)
          · have h := h.2 hc
            refine xt_inc (lv2 := [(6, iV (v6 + 1)), (7, iV (z_3)), (0, rV (v0)), (1, rV (v1)), (2, iV (v2)), (3, iV (v3)), (4, iV (v4)), (5, iV (v5))]) X dX2_partIntoCells_129 7 rfl (by decide) rfl ?_
            refine xt_goto (tgt := 12) X dX2_partIntoCells_132 (by decide) ?_
            obtain ⟨g_6, h⟩ := h
            refine xt_perm (lv2 := [(0, rV (v0)), (1, rV (v1)), (2, iV (v2)), (3, iV (v3)), (4, iV (v4)), (5, iV (v5)), (6, iV (v6 + 1))]) [2, 3, 4, 5, 6, 7, 0] rfl ?_
            exact ih v3 v4 v5 (v6 + 1) M_4 r3 r4 r5 g_6 h
          · have h := h.1 hc
            refine xt_ilw X dX2_partIntoCells_125 7 rfl ?_
            refine xt_isw (lv2 := [(5, iV (v6)), (7, iV (z_3)), (0, rV (v0)), (1, rV (v1)), (2, iV (v2)), (3, iV (v3)), (4, iV (v4)), (6, iV (v6))]) X dX2_partIntoCells_127 (by decide) rfl ?_
            refine xt_inc (lv2 := [(6, iV (v6 + 1)), (5, iV (v6)), (7, iV (z_3)), (0, rV (v0)), (1, rV (v1)), (2, iV (v2)), (3, iV (v3)), (4, iV (v4))]) X dX2_partIntoCells_129 7 rfl (by decide) rfl ?_
            refine xt_goto (tgt := 12) X dX2_partIntoCells_132 (by decide) ?_
            obtain ⟨g_7, h⟩ := h
            refine xt_perm (lv2 := [(0, rV (v0)), (1, rV (v1)), (2, iV (v2)), (3, iV (v3)), (4, iV (v4)), (5, iV (v6)), (6, iV (v6 + 1))]) [3, 4, 5, 6, 7, 1, 0] rfl ?_
            exact ih v3 v4 v6 (v6 + 1) M_4 r3 r4 r6 g_7 h
      · have h := h.1 hc
        refine xt_il X dX2_partIntoCells_39 rfl 3 rfl ?_
        refine xt_bi X dX2_partIntoCells_40 (by decide) ?_
        refine xt_mul X dX2_partIntoCells_42 ?_
        refine xt_il X dX2_partIntoCells_43 rfl 4 rfl ?_
        refine xt_add X dX2_partIntoCells_44 ?_
        refine xt_isw (lv2 := [(8, iV ((v2 * 24) + v3)), (7, iV (z_3)), (0, rV (v0)), (1, rV (v1)), (2, iV (v2)), (3, iV (v3)), (4, iV (v4)), (5, iV (v5)), (6, iV (v6))]) X dX2_partIntoCells_45 (by decide) rfl ?_
        refine xt_al X dX2_partIntoCells_47 rfl 2 rfl ?_
        refine gfX2_40 X k0 dX2_partIntoCells_48 ?_
        refine xt_ilw X dX2_partIntoCells_51 0 rfl ?_
        refine xt_ilw X dX2_partIntoCells_53 6 rfl ?_
        obtain ⟨g_8, h⟩ := h
        refine xt_iast X (kd_X2_10 hG k0) g_8 (by decide) r4 dX2_partIntoCells_55 (fun M_9 hm => ?_)
        have h := h M_9 hm
        refine xt_al X dX2_partIntoCells_56 rfl 2 rfl ?_
        refine gfX2_24 X k0 dX2_partIntoCells_57 ?_
        refine xt_ilw X dX2_partIntoCells_60 0 rfl ?_
        refine xt_ilw X dX2_partIntoCells_62 8 rfl ?_
        refine xt_ilw X dX2_partIntoCells_64 6 rfl ?_
        refine xt_sub X dX2_partIntoCells_66 ?_
        obtain ⟨g_10, h⟩ := h
        obtain ⟨g_11, h⟩ := h
        refine xt_iast X (kd_X2_5 hG k0) g_10 (by decide) g_11 dX2_partIntoCells_67 (fun M_12 hm => ?_)
        have h := h M_12 hm
        refine xt_al X dX2_partIntoCells_68 rfl 2 rfl ?_
        refine gfX2_43 X k0 dX2_partIntoCells_69 ?_
        refine xt_ilw X dX2_partIntoCells_72 0 rfl ?_
        refine xt_ilw X dX2_partIntoCells_74 7 rfl ?_
        refine xt_bi X dX2_partIntoCells_76 (by decide) ?_
        refine xt_cne (tgt := 89) X r5 (i_rc (-9) rfl) dX2_partIntoCells_78 (by decide) (fun hc => ?_) (fun hc => ?_)
        · have h := h.2 hc
          refine xt_ilw X dX2_partIntoCells_89 7 rfl ?_
          refine xt_ilw X dX2_partIntoCells_91 6 rfl ?_
          refine xt_sub X dX2_partIntoCells_93 ?_
          obtain ⟨g_13, h⟩ := h
          obtain ⟨g_14, h⟩ := h
          refine xt_iast X (kd_X2_11 hG k0) g_13 (by decide) g_14 dX2_partIntoCells_94 (fun M_15 hm => ?_)
          have h := h M_15 hm
          refine xt_inc (lv2 := [(3, iV (v3 + 1)), (8, iV ((v2 * 24) + v3)), (7, iV (z_3)), (0, rV (v0)), (1, rV (v1)), (2, iV (v2)), (4, iV (v4)), (5, iV (v5)), (6, iV (v6))]) X dX2_partIntoCells_95 5 rfl (by decide) rfl ?_
          refine xt_ilw X dX2_partIntoCells_98 8 rfl ?_
          refine xt_ic X dX2_partIntoCells_100 ?_
          refine xt_add X dX2_partIntoCells_101 ?_
          refine xt_isw (lv2 := [(4, iV (v6 + 1)), (3, iV (v3 + 1)), (8, iV ((v2 * 24) + v3)), (7, iV (z_3)), (0, rV (v0)), (1, rV (v1)), (2, iV (v2)), (5, iV (v5)), (6, iV (v6))]) X dX2_partIntoCells_102 (by decide) rfl ?_
          refine xt_bi X dX2_partIntoCells_104 (by decide) ?_
          refine xt_isw (lv2 := [(5, iV ((-9))), (4, iV (v6 + 1)), (3, iV (v3 + 1)), (8, iV ((v2 * 24) + v3)), (7, iV (z_3)), (0, rV (v0)), (1, rV (v1)), (2, iV (v2)), (6, iV (v6))]) X dX2_partIntoCells_106 (by decide) rfl ?_
          refine xt_goto (tgt := 129) X dX2_partIntoCells_108 (by decide) ?_
          refine xt_inc (lv2 := [(6, iV (v6 + 1)), (5, iV ((-9))), (4, iV (v6 + 1)), (3, iV (v3 + 1)), (8, iV ((v2 * 24) + v3)), (7, iV (z_3)), (0, rV (v0)), (1, rV (v1)), (2, iV (v2))]) X dX2_partIntoCells_129 8 rfl (by decide) rfl ?_
          refine xt_goto (tgt := 12) X dX2_partIntoCells_132 (by decide) ?_
          obtain ⟨g_16, h⟩ := h
          obtain ⟨g_17, h⟩ := h
          obtain ⟨g_18, h⟩ := h
          refine xt_perm (lv2 := [(0, rV (v0)), (1, rV (v1)), (2, iV (v2)), (3, iV (v3 + 1)), (4, iV (v6 + 1)), (5, iV ((-9))), (6, iV (v6 + 1))]) [6, 7, 8, 3, 2, 1, 0] rfl ?_
          exact ih (v3 + 1) (v6 + 1) ((-9)) (v6 + 1) M_15 g_16 g_17 (i_rc (-9) rfl) g_18 h
        · have h := h.1 hc
          refine xt_ilw X dX2_partIntoCells_81 8 rfl ?_
          refine xt_ilw X dX2_partIntoCells_83 6 rfl ?_
          refine xt_sub X dX2_partIntoCells_85 ?_
          refine xt_goto (tgt := 94) X dX2_partIntoCells_86 (by decide) ?_
          obtain ⟨g_19, h⟩ := h
          obtain ⟨g_20, h⟩ := h
          refine xt_iast X (kd_X2_11 hG k0) g_19 (by decide) g_20 dX2_partIntoCells_94 (fun M_21 hm => ?_)
          have h := h M_21 hm
          refine xt_inc (lv2 := [(3, iV (v3 + 1)), (8, iV ((v2 * 24) + v3)), (7, iV (z_3)), (0, rV (v0)), (1, rV (v1)), (2, iV (v2)), (4, iV (v4)), (5, iV (v5)), (6, iV (v6))]) X dX2_partIntoCells_95 5 rfl (by decide) rfl ?_
          refine xt_ilw X dX2_partIntoCells_98 8 rfl ?_
          refine xt_ic X dX2_partIntoCells_100 ?_
          refine xt_add X dX2_partIntoCells_101 ?_
          refine xt_isw (lv2 := [(4, iV (v6 + 1)), (3, iV (v3 + 1)), (8, iV ((v2 * 24) + v3)), (7, iV (z_3)), (0, rV (v0)), (1, rV (v1)), (2, iV (v2)), (5, iV (v5)), (6, iV (v6))]) X dX2_partIntoCells_102 (by decide) rfl ?_
          refine xt_bi X dX2_partIntoCells_104 (by decide) ?_
          refine xt_isw (lv2 := [(5, iV ((-9))), (4, iV (v6 + 1)), (3, iV (v3 + 1)), (8, iV ((v2 * 24) + v3)), (7, iV (z_3)), (0, rV (v0)), (1, rV (v1)), (2, iV (v2)), (6, iV (v6))]) X dX2_partIntoCells_106 (by decide) rfl ?_
          refine xt_goto (tgt := 129) X dX2_partIntoCells_108 (by decide) ?_
          refine xt_inc (lv2 := [(6, iV (v6 + 1)), (5, iV ((-9))), (4, iV (v6 + 1)), (3, iV (v3 + 1)), (8, iV ((v2 * 24) + v3)), (7, iV (z_3)), (0, rV (v0)), (1, rV (v1)), (2, iV (v2))]) X dX2_partIntoCells_129 8 rfl (by decide) rfl ?_
          refine xt_goto (tgt := 12) X dX2_partIntoCells_132 (by decide) ?_
          obtain ⟨g_22, h⟩ := h
          obtain ⟨g_23, h⟩ := h
          obtain ⟨g_24, h⟩ := h
          refine xt_perm (lv2 := [(0, rV (v0)), (1, rV (v1)), (2, iV (v2)), (3, iV (v3 + 1)), (4, iV (v6 + 1)), (5, iV ((-9))), (6, iV (v6 + 1))]) [6, 7, 8, 3, 2, 1, 0] rfl ?_
          exact ih (v3 + 1) (v6 + 1) ((-9)) (v6 + 1) M_21 g_22 g_23 (i_rc (-9) rfl) g_24 h
set_option maxHeartbeats 4000000 in
set_option maxRecDepth 100000 in
theorem ctX2_partIntoCells {l : Launch} {G : GG} (hG : Gd G) {v0 : Int} {v1 : Int} {v2 : Int} {M : Mm} {Q : Mm → Prop} (k0 : gK G v0 = (2, 0)) (k1 : gK G v1 = (3, 0)) (r2 : inR v2) (h : PX2_partIntoCells v0 v1 v2 M Q) : Met l yX2_partIntoCells (Cond.code yX2_partIntoCells cX2_partIntoCells 9 (none) :: tw) rmX2_partIntoCells (Pre G M [rV (v0), rV (v1), iV (v2)]) (PostV G Q) 0 0 (gA G) := by
  refine met_of (own := RX2) (by decide) rfl hG (Nat.le_of_ble_eq_true rfl) (fun p e s m below meth c X => ?_)
  generalize hargs : ([rV (v0), rV (v1), iV (v2)] : List Value).toArray = args at X ⊢
  show Wt p l e rmX2_partIntoCells s m args below meth c G (MQ below (PostV G Q) args s 0 0 (gA G)) 9 M [(0, rV (v0)), (1, rV (v1)), (2, iV (v2))] 0 []
  unfold PX2_partIntoCells at h
  refine xt_ic X dX2_partIntoCells_0 ?_
  refine xt_is (lv2 := [(3, iV (0)), (0, rV (v0)), (1, rV (v1)), (2, iV (v2))]) X dX2_partIntoCells_1 rfl (by decide) rfl ?_
  refine xt_ic X dX2_partIntoCells_2 ?_
  refine xt_isw (lv2 := [(4, iV (0)), (3, iV (0)), (0, rV (v0)), (1, rV (v1)), (2, iV (v2))]) X dX2_partIntoCells_3 (by decide) rfl ?_
  refine xt_bi X dX2_partIntoCells_5 (by decide) ?_
  refine xt_isw (lv2 := [(5, iV ((-9))), (4, iV (0)), (3, iV (0)), (0, rV (v0)), (1, rV (v1)), (2, iV (v2))]) X dX2_partIntoCells_7 (by decide) rfl ?_
  refine xt_ic X dX2_partIntoCells_9 ?_
  refine xt_isw (lv2 := [(6, iV (0)), (5, iV ((-9))), (4, iV (0)), (3, iV (0)), (0, rV (v0)), (1, rV (v1)), (2, iV (v2))]) X dX2_partIntoCells_10 (by decide) rfl ?_
  obtain ⟨n_25, h⟩ := h
  refine xt_perm (lv2 := [(0, rV (v0)), (1, rV (v1)), (2, iV (v2)), (3, iV (0)), (4, iV (0)), (5, iV ((-9))), (6, iV (0))]) [4, 5, 6, 3, 2, 1, 0] rfl ?_
  refine wX2_partIntoCells_12 X k0 k1 r2 (fun w3_26 w4_26 M_26 r3_26 r4_26 h => ?_) n_25 0 0 ((-9)) 0 M (i_rc 0 rfl) (i_rc 0 rfl) (i_rc (-9) rfl) (i_rc 0 rfl) h
  refine xt_al X dX2_partIntoCells_135 rfl 0 rfl ?_
  refine gfX2_9 X k0 dX2_partIntoCells_136 ?_
  refine xt_il X dX2_partIntoCells_139 rfl 1 rfl ?_
  refine xt_il X dX2_partIntoCells_140 rfl 2 rfl ?_
  obtain ⟨g_27, h⟩ := h
  refine xt_iast X (kd_X2_1 hG k0) g_27 (by decide) r3_26 dX2_partIntoCells_141 (fun M_28 hm => ?_)
  have h := h M_28 hm
  refine xt_al X dX2_partIntoCells_142 rfl 0 rfl ?_
  refine gfX2_15 X k0 dX2_partIntoCells_143 ?_
  refine xt_il X dX2_partIntoCells_146 rfl 1 rfl ?_
  refine xt_ilw X dX2_partIntoCells_147 3 rfl ?_
  obtain ⟨g_29, h⟩ := h
  refine xt_iast X (kd_X2_2 hG k0) g_29 (by decide) r4_26 dX2_partIntoCells_149 (fun M_30 hm => ?_)
  have h := h M_30 hm
  exact xt_vret X h dX2_partIntoCells_150
abbrev rmX2_firstOfBlock : Room := { frames := 0, cells := 0, slots := 0, locals := 0 }
def BX2_firstOfBlock_2  (Q : Int → Mm → Prop) (v0 : Int) (v2 : Int) (rec : Int → Mm → Prop) (v3 : Int) (M : Mm) : Prop :=
  ((v3 ≤ 0 → Q v3 M) ∧
  (¬ v3 ≤ 0 → ((0 ≤ (v3 - 1) ∧ (v3 - 1) < 12) ∧
  (((M (v0 + 1) (v3 - 1)) ≤ v2 → Q v3 M) ∧
  (¬ (M (v0 + 1) (v3 - 1)) ≤ v2 → (inR (v3 + (-1)) ∧
  rec (v3 + (-1)) M))))))
def PX2_firstOfBlock (v0 : Int) (v1 : Int) (v2 : Int) (M : Mm) (Q : Int → Mm → Prop) : Prop :=
  ∃ n_4 : Nat, lp_I (BX2_firstOfBlock_2  Q v0 v2) n_4 v1 M
set_option maxHeartbeats 4000000 in
set_option maxRecDepth 100000 in
theorem wX2_firstOfBlock_2 {p : Program} {l : Launch} {e : Env} {s : State} {m : MethodId} {args : Array Value} {below : List Frame} {meth : Method} {c : Code} {G : GG} (X : Cx p s m args meth c cX2_firstOfBlock 4 ((some FieldType.int)) RX2 G) {Q : Int → Mm → Prop}  {v0 : Int} {v2 : Int} (k0 : gK G v0 = (2, 0)) (r2 : inR v2)  : ∀ (n : Nat) (v3 : Int) (M : Mm), inR v3 → lp_I (BX2_firstOfBlock_2  Q v0 v2) n v3 M → Wt p l e rmX2_firstOfBlock s m args below meth c G (MQ below (PostI G Q) args s 0 0 (gA G)) 4 M [(0, rV (v0)), (2, iV (v2)), (3, iV (v3))] 2 [] := by
  have hG := X.2.2.2.2.2.2.2.2
  intro n
  induction n with
  | zero => intro v3 M r3 h; exact h.elim
  | succ n ih =>
    intro v3 M r3 h
    have h : BX2_firstOfBlock_2  Q v0 v2 (lp_I (BX2_firstOfBlock_2  Q v0 v2) n) v3 M := h
    unfold BX2_firstOfBlock_2 at h
    refine xt_il X dX2_firstOfBlock_2 rfl 2 rfl ?_
    refine xt_zle (tgt := 24) X r3 dX2_firstOfBlock_3 (by decide) (fun hc => ?_) (fun hc => ?_)
    · have h := h.1 hc
      refine xt_il X dX2_firstOfBlock_24 rfl 2 rfl ?_
      exact xt_iret X r3 h dX2_firstOfBlock_25
    · have h := h.2 hc
      refine xt_al X dX2_firstOfBlock_6 rfl 0 rfl ?_
      refine gfX2_9 X k0 dX2_firstOfBlock_7 ?_
      refine xt_il X dX2_firstOfBlock_10 rfl 2 rfl ?_
      refine xt_ic X dX2_firstOfBlock_11 ?_
      refine xt_sub X dX2_firstOfBlock_12 ?_
      obtain ⟨g_1, h⟩ := h
      refine xt_iald X (kd_X2_1 hG k0) g_1 (by decide) dX2_firstOfBlock_13 (fun r_2 => ?_)
      refine xt_il X dX2_firstOfBlock_14 rfl 1 rfl ?_
      refine xt_cle (tgt := 24) X r_2 r2 dX2_firstOfBlock_15 (by decide) (fun hc => ?_) (fun hc => ?_)
      · have h := h.1 hc
        refine xt_il X dX2_firstOfBlock_24 rfl 2 rfl ?_
        exact xt_iret X r3 h dX2_firstOfBlock_25
      · have h := h.2 hc
        refine xt_inc (lv2 := [(3, iV (v3 + (-1))), (0, rV (v0)), (2, iV (v2))]) X dX2_firstOfBlock_18 2 rfl (by decide) rfl ?_
        refine xt_goto (tgt := 2) X dX2_firstOfBlock_21 (by decide) ?_
        obtain ⟨g_3, h⟩ := h
        refine xt_perm (lv2 := [(0, rV (v0)), (2, iV (v2)), (3, iV (v3 + (-1)))]) [1, 2, 0] rfl ?_
        exact ih (v3 + (-1)) M g_3 h
set_option maxHeartbeats 4000000 in
set_option maxRecDepth 100000 in
theorem ctX2_firstOfBlock {l : Launch} {G : GG} (hG : Gd G) {v0 : Int} {v1 : Int} {v2 : Int} {M : Mm} {Q : Int → Mm → Prop} (k0 : gK G v0 = (2, 0)) (r1 : inR v1) (r2 : inR v2) (h : PX2_firstOfBlock v0 v1 v2 M Q) : Met l yX2_firstOfBlock (Cond.code yX2_firstOfBlock cX2_firstOfBlock 4 ((some FieldType.int)) :: tw) rmX2_firstOfBlock (Pre G M [rV (v0), iV (v1), iV (v2)]) (PostI G Q) 0 0 (gA G) := by
  refine met_of (own := RX2) (by decide) rfl hG (Nat.le_of_ble_eq_true rfl) (fun p e s m below meth c X => ?_)
  generalize hargs : ([rV (v0), iV (v1), iV (v2)] : List Value).toArray = args at X ⊢
  show Wt p l e rmX2_firstOfBlock s m args below meth c G (MQ below (PostI G Q) args s 0 0 (gA G)) 4 M [(0, rV (v0)), (1, iV (v1)), (2, iV (v2))] 0 []
  unfold PX2_firstOfBlock at h
  refine xt_il X dX2_firstOfBlock_0 rfl 1 rfl ?_
  refine xt_is (lv2 := [(3, iV (v1)), (0, rV (v0)), (1, iV (v1)), (2, iV (v2))]) X dX2_firstOfBlock_1 rfl (by decide) rfl ?_
  obtain ⟨n_4, h⟩ := h
  refine xt_perm (lv2 := [(0, rV (v0)), (2, iV (v2)), (3, iV (v1))]) [1, 3, 0] rfl ?_
  refine wX2_firstOfBlock_2 X k0 r2  n_4 v1 M r1 h
abbrev rmX2_lastOfBlock : Room := { frames := 0, cells := 0, slots := 0, locals := 0 }
def BX2_lastOfBlock_2  (Q : Int → Mm → Prop) (v0 : Int) (v2 : Int) (rec : Int → Mm → Prop) (v3 : Int) (M : Mm) : Prop :=
  (inR (v3 + 1) ∧
  (((M v0 8) ≤ (v3 + 1) → Q v3 M) ∧
  (¬ (M v0 8) ≤ (v3 + 1) → ((0 ≤ (v3 + 1) ∧ (v3 + 1) < 12) ∧
  (((M (v0 + 1) (v3 + 1)) ≤ v2 → Q v3 M) ∧
  (¬ (M (v0 + 1) (v3 + 1)) ≤ v2 → (inR (v3 + 1) ∧
  rec (v3 + 1) M)))))))
def PX2_lastOfBlock (v0 : Int) (v1 : Int) (v2 : Int) (M : Mm) (Q : Int → Mm → Prop) : Prop :=
  ∃ n_6 : Nat, lp_I (BX2_lastOfBlock_2  Q v0 v2) n_6 v1 M
set_option maxHeartbeats 4000000 in
set_option maxRecDepth 100000 in
theorem wX2_lastOfBlock_2 {p : Program} {l : Launch} {e : Env} {s : State} {m : MethodId} {args : Array Value} {below : List Frame} {meth : Method} {c : Code} {G : GG} (X : Cx p s m args meth c cX2_lastOfBlock 4 ((some FieldType.int)) RX2 G) {Q : Int → Mm → Prop}  {v0 : Int} {v2 : Int} (k0 : gK G v0 = (2, 0)) (r2 : inR v2)  : ∀ (n : Nat) (v3 : Int) (M : Mm), inR v3 → lp_I (BX2_lastOfBlock_2  Q v0 v2) n v3 M → Wt p l e rmX2_lastOfBlock s m args below meth c G (MQ below (PostI G Q) args s 0 0 (gA G)) 4 M [(0, rV (v0)), (2, iV (v2)), (3, iV (v3))] 2 [] := by
  have hG := X.2.2.2.2.2.2.2.2
  intro n
  induction n with
  | zero => intro v3 M r3 h; exact h.elim
  | succ n ih =>
    intro v3 M r3 h
    have h : BX2_lastOfBlock_2  Q v0 v2 (lp_I (BX2_lastOfBlock_2  Q v0 v2) n) v3 M := h
    unfold BX2_lastOfBlock_2 at h
    refine xt_il X dX2_lastOfBlock_2 rfl 2 rfl ?_
    refine xt_ic X dX2_lastOfBlock_3 ?_
    refine xt_add X dX2_lastOfBlock_4 ?_
    refine xt_al X dX2_lastOfBlock_5 rfl 0 rfl ?_
    refine gfX2_55 X k0 dX2_lastOfBlock_6 (fun r_1 => ?_)
    obtain ⟨g_2, h⟩ := h
    refine xt_cge (tgt := 30) X g_2 r_1 dX2_lastOfBlock_9 (by decide) (fun hc => ?_) (fun hc => ?_)
    · have h := h.1 hc
      refine xt_il X dX2_lastOfBlock_30 rfl 2 rfl ?_
      exact xt_iret X r3 h dX2_lastOfBlock_31
    · have h := h.2 hc
      refine xt_al X dX2_lastOfBlock_12 rfl 0 rfl ?_
      refine gfX2_9 X k0 dX2_lastOfBlock_13 ?_
      refine xt_il X dX2_lastOfBlock_16 rfl 2 rfl ?_
      refine xt_ic X dX2_lastOfBlock_17 ?_
      refine xt_add X dX2_lastOfBlock_18 ?_
      obtain ⟨g_3, h⟩ := h
      refine xt_iald X (kd_X2_1 hG k0) g_3 (by decide) dX2_lastOfBlock_19 (fun r_4 => ?_)
      refine xt_il X dX2_lastOfBlock_20 rfl 1 rfl ?_
      refine xt_cle (tgt := 30) X r_4 r2 dX2_lastOfBlock_21 (by decide) (fun hc => ?_) (fun hc => ?_)
      · have h := h.1 hc
        refine xt_il X dX2_lastOfBlock_30 rfl 2 rfl ?_
        exact xt_iret X r3 h dX2_lastOfBlock_31
      · have h := h.2 hc
        refine xt_inc (lv2 := [(3, iV (v3 + 1)), (0, rV (v0)), (2, iV (v2))]) X dX2_lastOfBlock_24 2 rfl (by decide) rfl ?_
        refine xt_goto (tgt := 2) X dX2_lastOfBlock_27 (by decide) ?_
        obtain ⟨g_5, h⟩ := h
        refine xt_perm (lv2 := [(0, rV (v0)), (2, iV (v2)), (3, iV (v3 + 1))]) [1, 2, 0] rfl ?_
        exact ih (v3 + 1) M g_5 h
set_option maxHeartbeats 4000000 in
set_option maxRecDepth 100000 in
theorem ctX2_lastOfBlock {l : Launch} {G : GG} (hG : Gd G) {v0 : Int} {v1 : Int} {v2 : Int} {M : Mm} {Q : Int → Mm → Prop} (k0 : gK G v0 = (2, 0)) (r1 : inR v1) (r2 : inR v2) (h : PX2_lastOfBlock v0 v1 v2 M Q) : Met l yX2_lastOfBlock (Cond.code yX2_lastOfBlock cX2_lastOfBlock 4 ((some FieldType.int)) :: tw) rmX2_lastOfBlock (Pre G M [rV (v0), iV (v1), iV (v2)]) (PostI G Q) 0 0 (gA G) := by
  refine met_of (own := RX2) (by decide) rfl hG (Nat.le_of_ble_eq_true rfl) (fun p e s m below meth c X => ?_)
  generalize hargs : ([rV (v0), iV (v1), iV (v2)] : List Value).toArray = args at X ⊢
  show Wt p l e rmX2_lastOfBlock s m args below meth c G (MQ below (PostI G Q) args s 0 0 (gA G)) 4 M [(0, rV (v0)), (1, iV (v1)), (2, iV (v2))] 0 []
  unfold PX2_lastOfBlock at h
  refine xt_il X dX2_lastOfBlock_0 rfl 1 rfl ?_
  refine xt_is (lv2 := [(3, iV (v1)), (0, rV (v0)), (1, iV (v1)), (2, iV (v2))]) X dX2_lastOfBlock_1 rfl (by decide) rfl ?_
  obtain ⟨n_6, h⟩ := h
  refine xt_perm (lv2 := [(0, rV (v0)), (2, iV (v2)), (3, iV (v1))]) [1, 3, 0] rfl ?_
  refine wX2_lastOfBlock_2 X k0 r2  n_6 v1 M r1 h
abbrev rmX2_measure : Room := { frames := 1, cells := 0, slots := 0, locals := 40 }
def BX2_measure_44 (ke143 : Int → Int → Int → Mm → Prop) (Q : Mm → Prop) (v0 : Int) (v1 : Int) (v3 : Int) (v4 : Int) (rec : Int → Int → Int → Int → Mm → Prop) (v5 : Int) (v6 : Int) (v7 : Int) (v8 : Int) (M : Mm) : Prop :=
  (((M (v0 + 8) 1) < v8 → ke143 v5 v6 v7 M) ∧
  (¬ (M (v0 + 8) 1) < v8 → ((v8 = v4 → ((0 ≤ ((v8 * 24) + v3) ∧ ((v8 * 24) + v3) < 288) ∧
  ((0 ≤ ((v8 * 24) + v3) ∧ ((v8 * 24) + v3) < 288) ∧
  (inR ((M (v0 + 5) ((v8 * 24) + v3)) - 1) ∧
  (inR (((M (v0 + 5) ((v8 * 24) + v3)) - 1) - (min (M (v0 + 10) ((v8 * 24) + v3)) ((M (v0 + 5) ((v8 * 24) + v3)) - 1))) ∧
  (inR (v8 + 1) ∧
  rec (max v5 ((M (v0 + 5) ((v8 * 24) + v3)) - 1)) (max v6 (min (M (v0 + 10) ((v8 * 24) + v3)) ((M (v0 + 5) ((v8 * 24) + v3)) - 1))) (max v7 (((M (v0 + 5) ((v8 * 24) + v3)) - 1) - (min (M (v0 + 10) ((v8 * 24) + v3)) ((M (v0 + 5) ((v8 * 24) + v3)) - 1)))) (v8 + 1) M)))))) ∧
  (¬ v8 = v4 → ((0 ≤ ((v8 * 24) + v3) ∧ ((v8 * 24) + v3) < 288) ∧
  ((0 ≤ ((v8 * 24) + v3) ∧ ((v8 * 24) + v3) < 288) ∧
  (inR ((M (v0 + 5) ((v8 * 24) + v3)) - (min (M (v0 + 10) ((v8 * 24) + v3)) (M (v0 + 5) ((v8 * 24) + v3)))) ∧
  (inR (v8 + 1) ∧
  rec (max v5 (M (v0 + 5) ((v8 * 24) + v3))) (max v6 (min (M (v0 + 10) ((v8 * 24) + v3)) (M (v0 + 5) ((v8 * 24) + v3)))) (max v7 ((M (v0 + 5) ((v8 * 24) + v3)) - (min (M (v0 + 10) ((v8 * 24) + v3)) (M (v0 + 5) ((v8 * 24) + v3))))) (v8 + 1) M))))))))
def PX2_measure (v0 : Int) (v1 : Int) (v2 : Int) (v3 : Int) (v4 : Int) (M : Mm) (Q : Mm → Prop) : Prop :=
  (PX2_firstOfBlock v0 v2 v3 M (fun z_1 M_2 =>
  (∀ M_3 : Mm, M_3 = um M_2 (v0 + 8) 0 z_1 →
  (PX2_lastOfBlock v0 v2 v3 M_3 (fun z_4 M_5 =>
  (∀ M_6 : Mm, M_6 = um M_5 (v0 + 8) 1 z_4 →
  ∃ n_22 : Nat, lp_IIII (BX2_measure_44 (fun w5_23 w6_23 w7_23 M_23 => (∀ M_24 : Mm, M_24 = um M_23 (v0 + 8) 2 w6_23 →
  ((0 ≤ v3 ∧ v3 < 24) ∧
  (((M_24 (v1 + 3) v3) = 3 → (inR (w6_23 + w7_23) ∧
  (∀ M_33 : Mm, M_33 = um M_24 (v0 + 8) 3 (w6_23 + w7_23) →
  (inR ((max (M_33 (v0 + 8) 3) (M_33 v1 2)) + (M_33 v1 1)) ∧
  (∀ M_38 : Mm, M_38 = um M_33 (v0 + 8) 4 ((max (M_33 (v0 + 8) 3) (M_33 v1 2)) + (M_33 v1 1)) →
  Q M_38))))) ∧
  (¬ (M_24 (v1 + 3) v3) = 3 → (∀ M_27 : Mm, M_27 = um M_24 (v0 + 8) 3 w5_23 →
  (inR ((max (M_27 (v0 + 8) 3) (M_27 v1 2)) + (M_27 v1 1)) ∧
  (∀ M_31 : Mm, M_31 = um M_27 (v0 + 8) 4 ((max (M_27 (v0 + 8) 3) (M_27 v1 2)) + (M_27 v1 1)) →
  Q M_31)))))))) Q v0 v1 v3 v4) n_22 0 0 0 (M_6 (v0 + 8) 0) M_6))))))
set_option maxHeartbeats 4000000 in
set_option maxRecDepth 100000 in
theorem wX2_measure_44 {p : Program} {l : Launch} {e : Env} {s : State} {m : MethodId} {args : Array Value} {below : List Frame} {meth : Method} {c : Code} {G : GG} (X : Cx p s m args meth c cX2_measure 12 (none) RX2 G) {Q : Mm → Prop} {ke143 : Int → Int → Int → Mm → Prop} {v0 : Int} {v1 : Int} {v3 : Int} {v4 : Int} (k0 : gK G v0 = (2, 0)) (k1 : gK G v1 = (3, 0)) (r3 : inR v3) (r4 : inR v4) (hke143 : ∀ (v5 : Int) (v6 : Int) (v7 : Int) (M : Mm), inR v5 → inR v6 → inR v7 → ke143 v5 v6 v7 M → Wt p l e rmX2_measure s m args below meth c G (MQ below (PostV G Q) args s 0 0 (gA G)) 12 M [(0, rV (v0)), (1, rV (v1)), (3, iV (v3)), (5, iV (v5)), (6, iV (v6)), (7, iV (v7))] 143 []) : ∀ (n : Nat) (v5 : Int) (v6 : Int) (v7 : Int) (v8 : Int) (M : Mm), inR v5 → inR v6 → inR v7 → inR v8 → lp_IIII (BX2_measure_44 ke143 Q v0 v1 v3 v4) n v5 v6 v7 v8 M → Wt p l e rmX2_measure s m args below meth c G (MQ below (PostV G Q) args s 0 0 (gA G)) 12 M [(0, rV (v0)), (1, rV (v1)), (3, iV (v3)), (4, iV (v4)), (5, iV (v5)), (6, iV (v6)), (7, iV (v7)), (8, iV (v8))] 44 [] := by
  have hG := X.2.2.2.2.2.2.2.2
  intro n
  induction n with
  | zero => intro v5 v6 v7 v8 M r5 r6 r7 r8 h; exact h.elim
  | succ n ih =>
    intro v5 v6 v7 v8 M r5 r6 r7 r8 h
    have h : BX2_measure_44 ke143 Q v0 v1 v3 v4 (lp_IIII (BX2_measure_44 ke143 Q v0 v1 v3 v4) n) v5 v6 v7 v8 M := h
    unfold BX2_measure_44 at h
    refine xt_ilw X dX2_measure_44 7 rfl ?_
    refine xt_al X dX2_measure_46 rfl 0 rfl ?_
    refine gfX2_36 X k0 dX2_measure_47 ?_
    refine gfX2_82 X (kd_X2_9 hG k0) dX2_measure_50 (fun r_8 => ?_)
    refine xt_cgt (tgt := 143) X r8 r_8 dX2_measure_53 (by decide) (fun hc => ?_) (fun hc => ?_)
    · have h := h.1 hc
      refine xt_perm (lv2 := [(0, rV (v0)), (1, rV (v1)), (3, iV (v3)), (5, iV (v5)), (6, iV (v6)), (7, iV (v7))]) [0, 1, 2, 4, 5, 6] rfl ?_
      exact hke143 v5 v6 v7 M r5 r6 r7 h
    · have h := h.2 hc
      refine xt_ilw X dX2_measure_56 7 rfl ?_
      refine xt_bi X dX2_measure_58 (by decide) ?_
      refine xt_mul X dX2_measure_60 ?_
      refine xt_il X dX2_measure_61 rfl 2 rfl ?_
      refine xt_add X dX2_measure_62 ?_
      refine xt_isw (lv2 := [(9, iV ((v8 * 24) + v3)), (0, rV (v0)), (1, rV (v1)), (3, iV (v3)), (4, iV (v4)), (5, iV (v5)), (6, iV (v6)), (7, iV (v7)), (8, iV (v8))]) X dX2_measure_63 (by decide) rfl ?_
      refine xt_ilw X dX2_measure_65 8 rfl ?_
      refine xt_ilw X dX2_measure_67 4 rfl ?_
      refine xt_cne (tgt := 84) X r8 r4 dX2_measure_69 (by decide) (fun hc => ?_) (fun hc => ?_)
      · have h := h.2 hc
        refine xt_al X dX2_measure_84 rfl 1 rfl ?_
        refine gfX2_24 X k0 dX2_measure_85 ?_
        refine xt_ilw X dX2_measure_88 0 rfl ?_
        obtain ⟨g_9, h⟩ := h
        refine xt_iald X (kd_X2_5 hG k0) g_9 (by decide) dX2_measure_90 (fun r_10 => ?_)
        refine xt_isw (lv2 := [(10, iV (M (v0 + 5) ((v8 * 24) + v3))), (9, iV ((v8 * 24) + v3)), (0, rV (v0)), (1, rV (v1)), (3, iV (v3)), (4, iV (v4)), (5, iV (v5)), (6, iV (v6)), (7, iV (v7)), (8, iV (v8))]) X dX2_measure_91 (by decide) rfl ?_
        refine xt_al X dX2_measure_93 rfl 2 rfl ?_
        refine gfX2_43 X k0 dX2_measure_94 ?_
        refine xt_ilw X dX2_measure_97 1 rfl ?_
        obtain ⟨g_11, h⟩ := h
        refine xt_iald X (kd_X2_11 hG k0) g_11 (by decide) dX2_measure_99 (fun r_12 => ?_)
        refine xt_ilw X dX2_measure_100 0 rfl ?_
        refine xt_min X r_12 r_10 mlX2_97 (by decide) (Nat.le_of_ble_eq_true rfl) dX2_measure_102 ?_
        refine xt_isw (lv2 := [(11, iV (min (M (v0 + 10) ((v8 * 24) + v3)) (M (v0 + 5) ((v8 * 24) + v3)))), (10, iV (M (v0 + 5) ((v8 * 24) + v3))), (9, iV ((v8 * 24) + v3)), (0, rV (v0)), (1, rV (v1)), (3, iV (v3)), (4, iV (v4)), (5, iV (v5)), (6, iV (v6)), (7, iV (v7)), (8, iV (v8))]) X dX2_measure_105 (by decide) rfl ?_
        refine xt_ilw X dX2_measure_107 7 rfl ?_
        refine xt_ilw X dX2_measure_109 1 rfl ?_
        refine xt_max X r5 r_10 mlX2_102 (by decide) (Nat.le_of_ble_eq_true rfl) dX2_measure_111 ?_
        refine xt_isw (lv2 := [(5, iV (max v5 (M (v0 + 5) ((v8 * 24) + v3)))), (11, iV (min (M (v0 + 10) ((v8 * 24) + v3)) (M (v0 + 5) ((v8 * 24) + v3)))), (10, iV (M (v0 + 5) ((v8 * 24) + v3))), (9, iV ((v8 * 24) + v3)), (0, rV (v0)), (1, rV (v1)), (3, iV (v3)), (4, iV (v4)), (6, iV (v6)), (7, iV (v7)), (8, iV (v8))]) X dX2_measure_114 (by decide) rfl ?_
        refine xt_ilw X dX2_measure_116 8 rfl ?_
        refine xt_ilw X dX2_measure_118 1 rfl ?_
        refine xt_max X r6 (in_min r_12 r_10) mlX2_102 (by decide) (Nat.le_of_ble_eq_true rfl) dX2_measure_120 ?_
        refine xt_isw (lv2 := [(6, iV (max v6 (min (M (v0 + 10) ((v8 * 24) + v3)) (M (v0 + 5) ((v8 * 24) + v3))))), (5, iV (max v5 (M (v0 + 5) ((v8 * 24) + v3)))), (11, iV (min (M (v0 + 10) ((v8 * 24) + v3)) (M (v0 + 5) ((v8 * 24) + v3)))), (10, iV (M (v0 + 5) ((v8 * 24) + v3))), (9, iV ((v8 * 24) + v3)), (0, rV (v0)), (1, rV (v1)), (3, iV (v3)), (4, iV (v4)), (7, iV (v7)), (8, iV (v8))]) X dX2_measure_123 (by decide) rfl ?_
        refine xt_ilw X dX2_measure_125 9 rfl ?_
        refine xt_ilw X dX2_measure_127 3 rfl ?_
        refine xt_ilw X dX2_measure_129 2 rfl ?_
        refine xt_sub X dX2_measure_131 ?_
        obtain ⟨g_13, h⟩ := h
        refine xt_max X r7 g_13 mlX2_102 (by decide) (Nat.le_of_ble_eq_true rfl) dX2_measure_132 ?_
        refine xt_isw (lv2 := [(7, iV (max v7 ((M (v0 + 5) ((v8 * 24) + v3)) - (min (M (v0 + 10) ((v8 * 24) + v3)) (M (v0 + 5) ((v8 * 24) + v3)))))), (6, iV (max v6 (min (M (v0 + 10) ((v8 * 24) + v3)) (M (v0 + 5) ((v8 * 24) + v3))))), (5, iV (max v5 (M (v0 + 5) ((v8 * 24) + v3)))), (11, iV (min (M (v0 + 10) ((v8 * 24) + v3)) (M (v0 + 5) ((v8 * 24) + v3)))), (10, iV (M (v0 + 5) ((v8 * 24) + v3))), (9, iV ((v8 * 24) + v3)), (0, rV (v0)), (1, rV (v1)), (3, iV (v3)), (4, iV (v4)), (8, iV (v8))]) X dX2_measure_135 (by decide) rfl ?_
        refine xt_inc (lv2 := [(8, iV (v8 + 1)), (7, iV (max v7 ((M (v0 + 5) ((v8 * 24) + v3)) - (min (M (v0 + 10) ((v8 * 24) + v3)) (M (v0 + 5) ((v8 * 24) + v3)))))), (6, iV (max v6 (min (M (v0 + 10) ((v8 * 24) + v3)) (M (v0 + 5) ((v8 * 24) + v3))))), (5, iV (max v5 (M (v0 + 5) ((v8 * 24) + v3)))), (11, iV (min (M (v0 + 10) ((v8 * 24) + v3)) (M (v0 + 5) ((v8 * 24) + v3)))), (10, iV (M (v0 + 5) ((v8 * 24) + v3))), (9, iV ((v8 * 24) + v3)), (0, rV (v0)), (1, rV (v1)), (3, iV (v3)), (4, iV (v4))]) X dX2_measure_137 10 rfl (by decide) rfl ?_
        refine xt_goto (tgt := 44) X dX2_measure_140 (by decide) ?_
        obtain ⟨g_14, h⟩ := h
        refine xt_perm (lv2 := [(0, rV (v0)), (1, rV (v1)), (3, iV (v3)), (4, iV (v4)), (5, iV (max v5 (M (v0 + 5) ((v8 * 24) + v3)))), (6, iV (max v6 (min (M (v0 + 10) ((v8 * 24) + v3)) (M (v0 + 5) ((v8 * 24) + v3))))), (7, iV (max v7 ((M (v0 + 5) ((v8 * 24) + v3)) - (min (M (v0 + 10) ((v8 * 24) + v3)) (M (v0 + 5) ((v8 * 24) + v3)))))), (8, iV (v8 + 1))]) [7, 8, 9, 10, 3, 2, 1, 0] rfl ?_
        exact ih (max v5 (M (v0 + 5) ((v8 * 24) + v3))) (max v6 (min (M (v0 + 10) ((v8 * 24) + v3)) (M (v0 + 5) ((v8 * 24) + v3)))) (max v7 ((M (v0 + 5) ((v8 * 24) + v3)) - (min (M (v0 + 10) ((v8 * 24) + v3)) (M (v0 + 5) ((v8 * 24) + v3))))) (v8 + 1) M (in_max r5 r_10) (in_max r6 (in_min r_12 r_10)) (in_max r7 g_13) g_14 h
      · have h := h.1 hc
        refine xt_al X dX2_measure_72 rfl 1 rfl ?_
        refine gfX2_24 X k0 dX2_measure_73 ?_
        refine xt_ilw X dX2_measure_76 0 rfl ?_
        obtain ⟨g_15, h⟩ := h
        refine xt_iald X (kd_X2_5 hG k0) g_15 (by decide) dX2_measure_78 (fun r_16 => ?_)
        refine xt_ic X dX2_measure_79 ?_
        refine xt_sub X dX2_measure_80 ?_
        refine xt_goto (tgt := 91) X dX2_measure_81 (by decide) ?_
        refine xt_isw (lv2 := [(10, iV ((M (v0 + 5) ((v8 * 24) + v3)) - 1)), (9, iV ((v8 * 24) + v3)), (0, rV (v0)), (1, rV (v1)), (3, iV (v3)), (4, iV (v4)), (5, iV (v5)), (6, iV (v6)), (7, iV (v7)), (8, iV (v8))]) X dX2_measure_91 (by decide) rfl ?_
        refine xt_al X dX2_measure_93 rfl 2 rfl ?_
        refine gfX2_43 X k0 dX2_measure_94 ?_
        refine xt_ilw X dX2_measure_97 1 rfl ?_
        obtain ⟨g_17, h⟩ := h
        refine xt_iald X (kd_X2_11 hG k0) g_17 (by decide) dX2_measure_99 (fun r_18 => ?_)
        refine xt_ilw X dX2_measure_100 0 rfl ?_
        obtain ⟨g_19, h⟩ := h
        refine xt_min X r_18 g_19 mlX2_97 (by decide) (Nat.le_of_ble_eq_true rfl) dX2_measure_102 ?_
        refine xt_isw (lv2 := [(11, iV (min (M (v0 + 10) ((v8 * 24) + v3)) ((M (v0 + 5) ((v8 * 24) + v3)) - 1))), (10, iV ((M (v0 + 5) ((v8 * 24) + v3)) - 1)), (9, iV ((v8 * 24) + v3)), (0, rV (v0)), (1, rV (v1)), (3, iV (v3)), (4, iV (v4)), (5, iV (v5)), (6, iV (v6)), (7, iV (v7)), (8, iV (v8))]) X dX2_measure_105 (by decide) rfl ?_
        refine xt_ilw X dX2_measure_107 7 rfl ?_
        refine xt_ilw X dX2_measure_109 1 rfl ?_
        refine xt_max X r5 g_19 mlX2_102 (by decide) (Nat.le_of_ble_eq_true rfl) dX2_measure_111 ?_
        refine xt_isw (lv2 := [(5, iV (max v5 ((M (v0 + 5) ((v8 * 24) + v3)) - 1))), (11, iV (min (M (v0 + 10) ((v8 * 24) + v3)) ((M (v0 + 5) ((v8 * 24) + v3)) - 1))), (10, iV ((M (v0 + 5) ((v8 * 24) + v3)) - 1)), (9, iV ((v8 * 24) + v3)), (0, rV (v0)), (1, rV (v1)), (3, iV (v3)), (4, iV (v4)), (6, iV (v6)), (7, iV (v7)), (8, iV (v8))]) X dX2_measure_114 (by decide) rfl ?_
        refine xt_ilw X dX2_measure_116 8 rfl ?_
        refine xt_ilw X dX2_measure_118 1 rfl ?_
        refine xt_max X r6 (in_min r_18 g_19) mlX2_102 (by decide) (Nat.le_of_ble_eq_true rfl) dX2_measure_120 ?_
        refine xt_isw (lv2 := [(6, iV (max v6 (min (M (v0 + 10) ((v8 * 24) + v3)) ((M (v0 + 5) ((v8 * 24) + v3)) - 1)))), (5, iV (max v5 ((M (v0 + 5) ((v8 * 24) + v3)) - 1))), (11, iV (min (M (v0 + 10) ((v8 * 24) + v3)) ((M (v0 + 5) ((v8 * 24) + v3)) - 1))), (10, iV ((M (v0 + 5) ((v8 * 24) + v3)) - 1)), (9, iV ((v8 * 24) + v3)), (0, rV (v0)), (1, rV (v1)), (3, iV (v3)), (4, iV (v4)), (7, iV (v7)), (8, iV (v8))]) X dX2_measure_123 (by decide) rfl ?_
        refine xt_ilw X dX2_measure_125 9 rfl ?_
        refine xt_ilw X dX2_measure_127 3 rfl ?_
        refine xt_ilw X dX2_measure_129 2 rfl ?_
        refine xt_sub X dX2_measure_131 ?_
        obtain ⟨g_20, h⟩ := h
        refine xt_max X r7 g_20 mlX2_102 (by decide) (Nat.le_of_ble_eq_true rfl) dX2_measure_132 ?_
        refine xt_isw (lv2 := [(7, iV (max v7 (((M (v0 + 5) ((v8 * 24) + v3)) - 1) - (min (M (v0 + 10) ((v8 * 24) + v3)) ((M (v0 + 5) ((v8 * 24) + v3)) - 1))))), (6, iV (max v6 (min (M (v0 + 10) ((v8 * 24) + v3)) ((M (v0 + 5) ((v8 * 24) + v3)) - 1)))), (5, iV (max v5 ((M (v0 + 5) ((v8 * 24) + v3)) - 1))), (11, iV (min (M (v0 + 10) ((v8 * 24) + v3)) ((M (v0 + 5) ((v8 * 24) + v3)) - 1))), (10, iV ((M (v0 + 5) ((v8 * 24) + v3)) - 1)), (9, iV ((v8 * 24) + v3)), (0, rV (v0)), (1, rV (v1)), (3, iV (v3)), (4, iV (v4)), (8, iV (v8))]) X dX2_measure_135 (by decide) rfl ?_
        refine xt_inc (lv2 := [(8, iV (v8 + 1)), (7, iV (max v7 (((M (v0 + 5) ((v8 * 24) + v3)) - 1) - (min (M (v0 + 10) ((v8 * 24) + v3)) ((M (v0 + 5) ((v8 * 24) + v3)) - 1))))), (6, iV (max v6 (min (M (v0 + 10) ((v8 * 24) + v3)) ((M (v0 + 5) ((v8 * 24) + v3)) - 1)))), (5, iV (max v5 ((M (v0 + 5) ((v8 * 24) + v3)) - 1))), (11, iV (min (M (v0 + 10) ((v8 * 24) + v3)) ((M (v0 + 5) ((v8 * 24) + v3)) - 1))), (10, iV ((M (v0 + 5) ((v8 * 24) + v3)) - 1)), (9, iV ((v8 * 24) + v3)), (0, rV (v0)), (1, rV (v1)), (3, iV (v3)), (4, iV (v4))]) X dX2_measure_137 10 rfl (by decide) rfl ?_
        refine xt_goto (tgt := 44) X dX2_measure_140 (by decide) ?_
        obtain ⟨g_21, h⟩ := h
        refine xt_perm (lv2 := [(0, rV (v0)), (1, rV (v1)), (3, iV (v3)), (4, iV (v4)), (5, iV (max v5 ((M (v0 + 5) ((v8 * 24) + v3)) - 1))), (6, iV (max v6 (min (M (v0 + 10) ((v8 * 24) + v3)) ((M (v0 + 5) ((v8 * 24) + v3)) - 1)))), (7, iV (max v7 (((M (v0 + 5) ((v8 * 24) + v3)) - 1) - (min (M (v0 + 10) ((v8 * 24) + v3)) ((M (v0 + 5) ((v8 * 24) + v3)) - 1))))), (8, iV (v8 + 1))]) [7, 8, 9, 10, 3, 2, 1, 0] rfl ?_
        exact ih (max v5 ((M (v0 + 5) ((v8 * 24) + v3)) - 1)) (max v6 (min (M (v0 + 10) ((v8 * 24) + v3)) ((M (v0 + 5) ((v8 * 24) + v3)) - 1))) (max v7 (((M (v0 + 5) ((v8 * 24) + v3)) - 1) - (min (M (v0 + 10) ((v8 * 24) + v3)) ((M (v0 + 5) ((v8 * 24) + v3)) - 1)))) (v8 + 1) M (in_max r5 g_19) (in_max r6 (in_min r_18 g_19)) (in_max r7 g_20) g_21 h
set_option maxHeartbeats 4000000 in
set_option maxRecDepth 100000 in
theorem ctX2_measure {l : Launch} {G : GG} (hG : Gd G) {v0 : Int} {v1 : Int} {v2 : Int} {v3 : Int} {v4 : Int} {M : Mm} {Q : Mm → Prop} (k0 : gK G v0 = (2, 0)) (k1 : gK G v1 = (3, 0)) (r2 : inR v2) (r3 : inR v3) (r4 : inR v4) (h : PX2_measure v0 v1 v2 v3 v4 M Q) : Met l yX2_measure (Cond.code yX2_measure cX2_measure 12 (none) :: tw) rmX2_measure (Pre G M [rV (v0), rV (v1), iV (v2), iV (v3), iV (v4)]) (PostV G Q) 0 0 (gA G) := by
  refine met_of (own := RX2) (by decide) rfl hG (Nat.le_of_ble_eq_true rfl) (fun p e s m below meth c X => ?_)
  generalize hargs : ([rV (v0), rV (v1), iV (v2), iV (v3), iV (v4)] : List Value).toArray = args at X ⊢
  show Wt p l e rmX2_measure s m args below meth c G (MQ below (PostV G Q) args s 0 0 (gA G)) 12 M [(0, rV (v0)), (1, rV (v1)), (2, iV (v2)), (3, iV (v3)), (4, iV (v4))] 0 []
  unfold PX2_measure at h
  refine xt_ic X dX2_measure_0 ?_
  refine xt_isw (lv2 := [(5, iV (0)), (0, rV (v0)), (1, rV (v1)), (2, iV (v2)), (3, iV (v3)), (4, iV (v4))]) X dX2_measure_1 (by decide) rfl ?_
  refine xt_ic X dX2_measure_3 ?_
  refine xt_isw (lv2 := [(6, iV (0)), (5, iV (0)), (0, rV (v0)), (1, rV (v1)), (2, iV (v2)), (3, iV (v3)), (4, iV (v4))]) X dX2_measure_4 (by decide) rfl ?_
  refine xt_ic X dX2_measure_6 ?_
  refine xt_isw (lv2 := [(7, iV (0)), (6, iV (0)), (5, iV (0)), (0, rV (v0)), (1, rV (v1)), (2, iV (v2)), (3, iV (v3)), (4, iV (v4))]) X dX2_measure_7 (by decide) rfl ?_
  refine xt_al X dX2_measure_9 rfl 3 rfl ?_
  refine gfX2_36 X k0 dX2_measure_10 ?_
  refine xt_al X dX2_measure_13 rfl 3 rfl ?_
  refine xt_il X dX2_measure_14 rfl 5 rfl ?_
  refine xt_il X dX2_measure_15 rfl 6 rfl ?_
  refine xt_cVI X [iV (v2), iV (v3)] [rV (v0 + 8)] (ctX2_firstOfBlock hG k0 r2 r3 h) gdX2_91 pdX2_firstOfBlock ⟨rfl, rfl⟩ ⟨Nat.le_of_ble_eq_true rfl, Nat.le_of_ble_eq_true rfl⟩ rfl (k_lt k0 (by decide)) (by rw [k0]; rfl) rfl (Nat.le_of_ble_eq_true rfl) dX2_measure_16 (fun z_1 M_2 z_1r h => ?_)
  refine pfX2_79 X (kd_X2_9 hG k0) z_1r dX2_measure_19 (fun M_3 hm => ?_)
  have h := h M_3 hm
  refine xt_al X dX2_measure_22 rfl 3 rfl ?_
  refine gfX2_36 X k0 dX2_measure_23 ?_
  refine xt_al X dX2_measure_26 rfl 3 rfl ?_
  refine xt_il X dX2_measure_27 rfl 5 rfl ?_
  refine xt_il X dX2_measure_28 rfl 6 rfl ?_
  refine xt_cVI X [iV (v2), iV (v3)] [rV (v0 + 8)] (ctX2_lastOfBlock hG k0 r2 r3 h) gdX2_94 pdX2_lastOfBlock ⟨rfl, rfl⟩ ⟨Nat.le_of_ble_eq_true rfl, Nat.le_of_ble_eq_true rfl⟩ rfl (k_lt k0 (by decide)) (by rw [k0]; rfl) rfl (Nat.le_of_ble_eq_true rfl) dX2_measure_29 (fun z_4 M_5 z_4r h => ?_)
  refine pfX2_82 X (kd_X2_9 hG k0) z_4r dX2_measure_32 (fun M_6 hm => ?_)
  have h := h M_6 hm
  refine xt_al X dX2_measure_35 rfl 3 rfl ?_
  refine gfX2_36 X k0 dX2_measure_36 ?_
  refine gfX2_79 X (kd_X2_9 hG k0) dX2_measure_39 (fun r_7 => ?_)
  refine xt_isw (lv2 := [(8, iV (M_6 (v0 + 8) 0)), (7, iV (0)), (6, iV (0)), (5, iV (0)), (0, rV (v0)), (1, rV (v1)), (2, iV (v2)), (3, iV (v3)), (4, iV (v4))]) X dX2_measure_42 (by decide) rfl ?_
  obtain ⟨n_22, h⟩ := h
  refine xt_perm (lv2 := [(0, rV (v0)), (1, rV (v1)), (3, iV (v3)), (4, iV (v4)), (5, iV (0)), (6, iV (0)), (7, iV (0)), (8, iV (M_6 (v0 + 8) 0))]) [4, 5, 7, 8, 3, 2, 1, 0] rfl ?_
  refine wX2_measure_44 X k0 k1 r3 r4 (fun w5_23 w6_23 w7_23 M_23 r5_23 r6_23 r7_23 h => ?_) n_22 0 0 0 (M_6 (v0 + 8) 0) M_6 (i_rc 0 rfl) (i_rc 0 rfl) (i_rc 0 rfl) r_7 h
  refine xt_al X dX2_measure_143 rfl 0 rfl ?_
  refine gfX2_36 X k0 dX2_measure_144 ?_
  refine xt_ilw X dX2_measure_147 4 rfl ?_
  refine pfX2_88 X (kd_X2_9 hG k0) r6_23 dX2_measure_149 (fun M_24 hm => ?_)
  have h := h M_24 hm
  refine xt_al X dX2_measure_152 rfl 0 rfl ?_
  refine gfX2_36 X k0 dX2_measure_153 ?_
  refine xt_al X dX2_measure_156 rfl 1 rfl ?_
  refine gfX2_105 X k1 dX2_measure_157 ?_
  refine xt_il X dX2_measure_160 rfl 2 rfl ?_
  obtain ⟨g_25, h⟩ := h
  refine xt_iald X (kd_X3_5 hG k1) g_25 (by decide) dX2_measure_161 (fun r_26 => ?_)
  refine xt_ic X dX2_measure_162 ?_
  refine xt_cne (tgt := 174) X r_26 (i_rc 3 rfl) dX2_measure_163 (by decide) (fun hc => ?_) (fun hc => ?_)
  · have h := h.2 hc
    refine xt_ilw X dX2_measure_174 3 rfl ?_
    refine pfX2_108 X (kd_X2_9 hG k0) r5_23 dX2_measure_176 (fun M_27 hm => ?_)
    have h := h M_27 hm
    refine xt_al X dX2_measure_179 rfl 0 rfl ?_
    refine gfX2_36 X k0 dX2_measure_180 ?_
    refine xt_al X dX2_measure_183 rfl 0 rfl ?_
    refine gfX2_36 X k0 dX2_measure_184 ?_
    refine gfX2_108 X (kd_X2_9 hG k0) dX2_measure_187 (fun r_28 => ?_)
    refine xt_al X dX2_measure_190 rfl 1 rfl ?_
    refine gfX2_111 X k1 dX2_measure_191 (fun r_29 => ?_)
    refine xt_max X r_28 r_29 mlX2_102 (by decide) (Nat.le_of_ble_eq_true rfl) dX2_measure_194 ?_
    refine xt_al X dX2_measure_197 rfl 1 rfl ?_
    refine gfX2_114 X k1 dX2_measure_198 (fun r_30 => ?_)
    refine xt_add X dX2_measure_201 ?_
    obtain ⟨g_32, h⟩ := h
    refine pfX2_85 X (kd_X2_9 hG k0) g_32 dX2_measure_202 (fun M_31 hm => ?_)
    have h := h M_31 hm
    exact xt_vret X h dX2_measure_205
  · have h := h.1 hc
    refine xt_ilw X dX2_measure_166 4 rfl ?_
    refine xt_ilw X dX2_measure_168 5 rfl ?_
    refine xt_add X dX2_measure_170 ?_
    refine xt_goto (tgt := 176) X dX2_measure_171 (by decide) ?_
    obtain ⟨g_34, h⟩ := h
    refine pfX2_108 X (kd_X2_9 hG k0) g_34 dX2_measure_176 (fun M_33 hm => ?_)
    have h := h M_33 hm
    refine xt_al X dX2_measure_179 rfl 0 rfl ?_
    refine gfX2_36 X k0 dX2_measure_180 ?_
    refine xt_al X dX2_measure_183 rfl 0 rfl ?_
    refine gfX2_36 X k0 dX2_measure_184 ?_
    refine gfX2_108 X (kd_X2_9 hG k0) dX2_measure_187 (fun r_35 => ?_)
    refine xt_al X dX2_measure_190 rfl 1 rfl ?_
    refine gfX2_111 X k1 dX2_measure_191 (fun r_36 => ?_)
    refine xt_max X r_35 r_36 mlX2_102 (by decide) (Nat.le_of_ble_eq_true rfl) dX2_measure_194 ?_
    refine xt_al X dX2_measure_197 rfl 1 rfl ?_
    refine gfX2_114 X k1 dX2_measure_198 (fun r_37 => ?_)
    refine xt_add X dX2_measure_201 ?_
    obtain ⟨g_39, h⟩ := h
    refine pfX2_85 X (kd_X2_9 hG k0) g_39 dX2_measure_202 (fun M_38 hm => ?_)
    have h := h M_38 hm
    exact xt_vret X h dX2_measure_205
abbrev rmX2_spreadBlock : Room := { frames := 0, cells := 0, slots := 0, locals := 0 }
def BX2_spreadBlock_8  (Q : Mm → Prop) (v0 : Int) (v1 : Int) (rec : Int → Mm → Prop) (v2 : Int) (M : Mm) : Prop :=
  (((M (v0 + 8) 1) < v2 → Q M) ∧
  (¬ (M (v0 + 8) 1) < v2 → ((0 ≤ ((v2 * 24) + v1) ∧ ((v2 * 24) + v1) < 288) ∧
  (∀ M_5 : Mm, M_5 = um M (v0 + 6) ((v2 * 24) + v1) (M (v0 + 8) 4) →
  ((0 ≤ ((v2 * 24) + v1) ∧ ((v2 * 24) + v1) < 288) ∧
  (∀ M_8 : Mm, M_8 = um M_5 (v0 + 11) ((v2 * 24) + v1) (M_5 (v0 + 8) 2) →
  (inR (v2 + 1) ∧
  rec (v2 + 1) M_8)))))))
def PX2_spreadBlock (v0 : Int) (v1 : Int) (M : Mm) (Q : Mm → Prop) : Prop :=
  ∃ n_10 : Nat, lp_I (BX2_spreadBlock_8  Q v0 v1) n_10 (M (v0 + 8) 0) M
set_option maxHeartbeats 4000000 in
set_option maxRecDepth 100000 in
theorem wX2_spreadBlock_8 {p : Program} {l : Launch} {e : Env} {s : State} {m : MethodId} {args : Array Value} {below : List Frame} {meth : Method} {c : Code} {G : GG} (X : Cx p s m args meth c cX2_spreadBlock 3 (none) RX2 G) {Q : Mm → Prop}  {v0 : Int} {v1 : Int} (k0 : gK G v0 = (2, 0)) (r1 : inR v1)  : ∀ (n : Nat) (v2 : Int) (M : Mm), inR v2 → lp_I (BX2_spreadBlock_8  Q v0 v1) n v2 M → Wt p l e rmX2_spreadBlock s m args below meth c G (MQ below (PostV G Q) args s 0 0 (gA G)) 3 M [(0, rV (v0)), (1, iV (v1)), (2, iV (v2))] 8 [] := by
  have hG := X.2.2.2.2.2.2.2.2
  intro n
  induction n with
  | zero => intro v2 M r2 h; exact h.elim
  | succ n ih =>
    intro v2 M r2 h
    have h : BX2_spreadBlock_8  Q v0 v1 (lp_I (BX2_spreadBlock_8  Q v0 v1) n) v2 M := h
    unfold BX2_spreadBlock_8 at h
    refine xt_il X dX2_spreadBlock_8 rfl 2 rfl ?_
    refine xt_al X dX2_spreadBlock_9 rfl 0 rfl ?_
    refine gfX2_36 X k0 dX2_spreadBlock_10 ?_
    refine gfX2_82 X (kd_X2_9 hG k0) dX2_spreadBlock_13 (fun r_2 => ?_)
    refine xt_cgt (tgt := 61) X r2 r_2 dX2_spreadBlock_16 (by decide) (fun hc => ?_) (fun hc => ?_)
    · have h := h.1 hc
      exact xt_vret X h dX2_spreadBlock_61
    · have h := h.2 hc
      refine xt_al X dX2_spreadBlock_19 rfl 0 rfl ?_
      refine gfX2_27 X k0 dX2_spreadBlock_20 ?_
      refine xt_il X dX2_spreadBlock_23 rfl 2 rfl ?_
      refine xt_bi X dX2_spreadBlock_24 (by decide) ?_
      refine xt_mul X dX2_spreadBlock_26 ?_
      refine xt_il X dX2_spreadBlock_27 rfl 1 rfl ?_
      refine xt_add X dX2_spreadBlock_28 ?_
      refine xt_al X dX2_spreadBlock_29 rfl 0 rfl ?_
      refine gfX2_36 X k0 dX2_spreadBlock_30 ?_
      refine gfX2_85 X (kd_X2_9 hG k0) dX2_spreadBlock_33 (fun r_3 => ?_)
      obtain ⟨g_4, h⟩ := h
      refine xt_iast X (kd_X2_6 hG k0) g_4 (by decide) r_3 dX2_spreadBlock_36 (fun M_5 hm => ?_)
      have h := h M_5 hm
      refine xt_al X dX2_spreadBlock_37 rfl 0 rfl ?_
      refine gfX2_46 X k0 dX2_spreadBlock_38 ?_
      refine xt_il X dX2_spreadBlock_41 rfl 2 rfl ?_
      refine xt_bi X dX2_spreadBlock_42 (by decide) ?_
      refine xt_mul X dX2_spreadBlock_44 ?_
      refine xt_il X dX2_spreadBlock_45 rfl 1 rfl ?_
      refine xt_add X dX2_spreadBlock_46 ?_
      refine xt_al X dX2_spreadBlock_47 rfl 0 rfl ?_
      refine gfX2_36 X k0 dX2_spreadBlock_48 ?_
      refine gfX2_88 X (kd_X2_9 hG k0) dX2_spreadBlock_51 (fun r_6 => ?_)
      obtain ⟨g_7, h⟩ := h
      refine xt_iast X (kd_X2_12 hG k0) g_7 (by decide) r_6 dX2_spreadBlock_54 (fun M_8 hm => ?_)
      have h := h M_8 hm
      refine xt_inc (lv2 := [(2, iV (v2 + 1)), (0, rV (v0)), (1, iV (v1))]) X dX2_spreadBlock_55 2 rfl (by decide) rfl ?_
      refine xt_goto (tgt := 8) X dX2_spreadBlock_58 (by decide) ?_
      obtain ⟨g_9, h⟩ := h
      refine xt_perm (lv2 := [(0, rV (v0)), (1, iV (v1)), (2, iV (v2 + 1))]) [1, 2, 0] rfl ?_
      exact ih (v2 + 1) M_8 g_9 h
set_option maxHeartbeats 4000000 in
set_option maxRecDepth 100000 in
theorem ctX2_spreadBlock {l : Launch} {G : GG} (hG : Gd G) {v0 : Int} {v1 : Int} {M : Mm} {Q : Mm → Prop} (k0 : gK G v0 = (2, 0)) (r1 : inR v1) (h : PX2_spreadBlock v0 v1 M Q) : Met l yX2_spreadBlock (Cond.code yX2_spreadBlock cX2_spreadBlock 3 (none) :: tw) rmX2_spreadBlock (Pre G M [rV (v0), iV (v1)]) (PostV G Q) 0 0 (gA G) := by
  refine met_of (own := RX2) (by decide) rfl hG (Nat.le_of_ble_eq_true rfl) (fun p e s m below meth c X => ?_)
  generalize hargs : ([rV (v0), iV (v1)] : List Value).toArray = args at X ⊢
  show Wt p l e rmX2_spreadBlock s m args below meth c G (MQ below (PostV G Q) args s 0 0 (gA G)) 3 M [(0, rV (v0)), (1, iV (v1))] 0 []
  unfold PX2_spreadBlock at h
  refine xt_al X dX2_spreadBlock_0 rfl 0 rfl ?_
  refine gfX2_36 X k0 dX2_spreadBlock_1 ?_
  refine gfX2_79 X (kd_X2_9 hG k0) dX2_spreadBlock_4 (fun r_1 => ?_)
  refine xt_is (lv2 := [(2, iV (M (v0 + 8) 0)), (0, rV (v0)), (1, iV (v1))]) X dX2_spreadBlock_7 rfl (by decide) rfl ?_
  obtain ⟨n_10, h⟩ := h
  refine xt_perm (lv2 := [(0, rV (v0)), (1, iV (v1)), (2, iV (M (v0 + 8) 0))]) [1, 2, 0] rfl ?_
  refine wX2_spreadBlock_8 X k0 r1  n_10 (M (v0 + 8) 0) M r_1 h
abbrev rmX2_placeCells : Room := { frames := 0, cells := 0, slots := 0, locals := 0 }
def BX2_placeCells_5 (ke50 : Int → Mm → Prop) (Q : Mm → Prop) (v0 : Int) (v1 : Int) (v2 : Int) (rec : Int → Int → Mm → Prop) (v3 : Int) (v4 : Int) (M : Mm) : Prop :=
  ((0 ≤ v2 ∧ v2 < 12) ∧
  (((M (v0 + 1) v2) ≤ v4 → ke50 v3 M) ∧
  (¬ (M (v0 + 1) v2) ≤ v4 → ((0 ≤ ((v2 * 24) + v4) ∧ ((v2 * 24) + v4) < 288) ∧
  (∀ M_4 : Mm, M_4 = um M (v0 + 7) ((v2 * 24) + v4) v3 →
  ((0 ≤ ((v2 * 24) + v4) ∧ ((v2 * 24) + v4) < 288) ∧
  (inR (v3 + (M_4 (v0 + 6) ((v2 * 24) + v4))) ∧
  (inR (v4 + 1) ∧
  rec (v3 + (M_4 (v0 + 6) ((v2 * 24) + v4))) (v4 + 1) M_4))))))))
def PX2_placeCells (v0 : Int) (v1 : Int) (v2 : Int) (M : Mm) (Q : Mm → Prop) : Prop :=
  ∃ n_9 : Nat, lp_II (BX2_placeCells_5 (fun w3_10 M_10 => ((0 ≤ v2 ∧ v2 < 12) ∧
  (∀ M_12 : Mm, M_12 = um M_10 (v0 + 3) v2 w3_10 →
  ((0 ≤ v2 ∧ v2 < 12) ∧
  ((0 ≤ v2 ∧ v2 < 12) ∧
  ((0 ≤ v2 ∧ v2 < 12) ∧
  (inR ((w3_10 + (M_12 (v1 + 1) v2)) - (M_12 (v0 + 2) v2)) ∧
  (∀ M_19 : Mm, M_19 = um M_12 (v0 + 4) v2 ((w3_10 + (M_12 (v1 + 1) v2)) - (M_12 (v0 + 2) v2)) →
  Q M_19)))))))) Q v0 v1 v2) n_9 0 0 M
set_option maxHeartbeats 4000000 in
set_option maxRecDepth 100000 in
theorem wX2_placeCells_5 {p : Program} {l : Launch} {e : Env} {s : State} {m : MethodId} {args : Array Value} {below : List Frame} {meth : Method} {c : Code} {G : GG} (X : Cx p s m args meth c cX2_placeCells 5 (none) RX2 G) {Q : Mm → Prop} {ke50 : Int → Mm → Prop} {v0 : Int} {v1 : Int} {v2 : Int} (k0 : gK G v0 = (2, 0)) (k1 : gK G v1 = (3, 0)) (r2 : inR v2) (hke50 : ∀ (v3 : Int) (M : Mm), inR v3 → ke50 v3 M → Wt p l e rmX2_placeCells s m args below meth c G (MQ below (PostV G Q) args s 0 0 (gA G)) 5 M [(0, rV (v0)), (1, rV (v1)), (2, iV (v2)), (3, iV (v3))] 50 []) : ∀ (n : Nat) (v3 : Int) (v4 : Int) (M : Mm), inR v3 → inR v4 → lp_II (BX2_placeCells_5 ke50 Q v0 v1 v2) n v3 v4 M → Wt p l e rmX2_placeCells s m args below meth c G (MQ below (PostV G Q) args s 0 0 (gA G)) 5 M [(0, rV (v0)), (1, rV (v1)), (2, iV (v2)), (3, iV (v3)), (4, iV (v4))] 5 [] := by
  have hG := X.2.2.2.2.2.2.2.2
  intro n
  induction n with
  | zero => intro v3 v4 M r3 r4 h; exact h.elim
  | succ n ih =>
    intro v3 v4 M r3 r4 h
    have h : BX2_placeCells_5 ke50 Q v0 v1 v2 (lp_II (BX2_placeCells_5 ke50 Q v0 v1 v2) n) v3 v4 M := h
    unfold BX2_placeCells_5 at h
    refine xt_ilw X dX2_placeCells_5 4 rfl ?_
    refine xt_al X dX2_placeCells_7 rfl 0 rfl ?_
    refine gfX2_9 X k0 dX2_placeCells_8 ?_
    refine xt_il X dX2_placeCells_11 rfl 2 rfl ?_
    obtain ⟨g_1, h⟩ := h
    refine xt_iald X (kd_X2_1 hG k0) g_1 (by decide) dX2_placeCells_12 (fun r_2 => ?_)
    refine xt_cge (tgt := 50) X r4 r_2 dX2_placeCells_13 (by decide) (fun hc => ?_) (fun hc => ?_)
    · have h := h.1 hc
      refine xt_perm (lv2 := [(0, rV (v0)), (1, rV (v1)), (2, iV (v2)), (3, iV (v3))]) [0, 1, 2, 3] rfl ?_
      exact hke50 v3 M r3 h
    · have h := h.2 hc
      refine xt_al X dX2_placeCells_16 rfl 0 rfl ?_
      refine gfX2_30 X k0 dX2_placeCells_17 ?_
      refine xt_il X dX2_placeCells_20 rfl 2 rfl ?_
      refine xt_bi X dX2_placeCells_21 (by decide) ?_
      refine xt_mul X dX2_placeCells_23 ?_
      refine xt_ilw X dX2_placeCells_24 4 rfl ?_
      refine xt_add X dX2_placeCells_26 ?_
      refine xt_il X dX2_placeCells_27 rfl 3 rfl ?_
      obtain ⟨g_3, h⟩ := h
      refine xt_iast X (kd_X2_7 hG k0) g_3 (by decide) r3 dX2_placeCells_28 (fun M_4 hm => ?_)
      have h := h M_4 hm
      refine xt_il X dX2_placeCells_29 rfl 3 rfl ?_
      refine xt_al X dX2_placeCells_30 rfl 0 rfl ?_
      refine gfX2_27 X k0 dX2_placeCells_31 ?_
      refine xt_il X dX2_placeCells_34 rfl 2 rfl ?_
      refine xt_bi X dX2_placeCells_35 (by decide) ?_
      refine xt_mul X dX2_placeCells_37 ?_
      refine xt_ilw X dX2_placeCells_38 4 rfl ?_
      refine xt_add X dX2_placeCells_40 ?_
      obtain ⟨g_5, h⟩ := h
      refine xt_iald X (kd_X2_6 hG k0) g_5 (by decide) dX2_placeCells_41 (fun r_6 => ?_)
      refine xt_add X dX2_placeCells_42 ?_
      refine xt_is (lv2 := [(3, iV (v3 + (M_4 (v0 + 6) ((v2 * 24) + v4)))), (0, rV (v0)), (1, rV (v1)), (2, iV (v2)), (4, iV (v4))]) X dX2_placeCells_43 rfl (by decide) rfl ?_
      refine xt_inc (lv2 := [(4, iV (v4 + 1)), (3, iV (v3 + (M_4 (v0 + 6) ((v2 * 24) + v4)))), (0, rV (v0)), (1, rV (v1)), (2, iV (v2))]) X dX2_placeCells_44 4 rfl (by decide) rfl ?_
      refine xt_goto (tgt := 5) X dX2_placeCells_47 (by decide) ?_
      obtain ⟨g_7, h⟩ := h
      obtain ⟨g_8, h⟩ := h
      refine xt_perm (lv2 := [(0, rV (v0)), (1, rV (v1)), (2, iV (v2)), (3, iV (v3 + (M_4 (v0 + 6) ((v2 * 24) + v4)))), (4, iV (v4 + 1))]) [2, 3, 4, 1, 0] rfl ?_
      exact ih (v3 + (M_4 (v0 + 6) ((v2 * 24) + v4))) (v4 + 1) M_4 g_7 g_8 h
set_option maxHeartbeats 4000000 in
set_option maxRecDepth 100000 in
theorem ctX2_placeCells {l : Launch} {G : GG} (hG : Gd G) {v0 : Int} {v1 : Int} {v2 : Int} {M : Mm} {Q : Mm → Prop} (k0 : gK G v0 = (2, 0)) (k1 : gK G v1 = (3, 0)) (r2 : inR v2) (h : PX2_placeCells v0 v1 v2 M Q) : Met l yX2_placeCells (Cond.code yX2_placeCells cX2_placeCells 5 (none) :: tw) rmX2_placeCells (Pre G M [rV (v0), rV (v1), iV (v2)]) (PostV G Q) 0 0 (gA G) := by
  refine met_of (own := RX2) (by decide) rfl hG (Nat.le_of_ble_eq_true rfl) (fun p e s m below meth c X => ?_)
  generalize hargs : ([rV (v0), rV (v1), iV (v2)] : List Value).toArray = args at X ⊢
  show Wt p l e rmX2_placeCells s m args below meth c G (MQ below (PostV G Q) args s 0 0 (gA G)) 5 M [(0, rV (v0)), (1, rV (v1)), (2, iV (v2))] 0 []
  unfold PX2_placeCells at h
  refine xt_ic X dX2_placeCells_0 ?_
  refine xt_is (lv2 := [(3, iV (0)), (0, rV (v0)), (1, rV (v1)), (2, iV (v2))]) X dX2_placeCells_1 rfl (by decide) rfl ?_
  refine xt_ic X dX2_placeCells_2 ?_
  refine xt_isw (lv2 := [(4, iV (0)), (3, iV (0)), (0, rV (v0)), (1, rV (v1)), (2, iV (v2))]) X dX2_placeCells_3 (by decide) rfl ?_
  obtain ⟨n_9, h⟩ := h
  refine xt_perm (lv2 := [(0, rV (v0)), (1, rV (v1)), (2, iV (v2)), (3, iV (0)), (4, iV (0))]) [2, 3, 4, 1, 0] rfl ?_
  refine wX2_placeCells_5 X k0 k1 r2 (fun w3_10 M_10 r3_10 h => ?_) n_9 0 0 M (i_rc 0 rfl) (i_rc 0 rfl) h
  refine xt_al X dX2_placeCells_50 rfl 0 rfl ?_
  refine gfX2_18 X k0 dX2_placeCells_51 ?_
  refine xt_il X dX2_placeCells_54 rfl 2 rfl ?_
  refine xt_il X dX2_placeCells_55 rfl 3 rfl ?_
  obtain ⟨g_11, h⟩ := h
  refine xt_iast X (kd_X2_3 hG k0) g_11 (by decide) r3_10 dX2_placeCells_56 (fun M_12 hm => ?_)
  have h := h M_12 hm
  refine xt_al X dX2_placeCells_57 rfl 0 rfl ?_
  refine gfX2_21 X k0 dX2_placeCells_58 ?_
  refine xt_il X dX2_placeCells_61 rfl 2 rfl ?_
  refine xt_il X dX2_placeCells_62 rfl 3 rfl ?_
  refine xt_al X dX2_placeCells_63 rfl 1 rfl ?_
  refine gfX2_74 X k1 dX2_placeCells_64 ?_
  refine xt_il X dX2_placeCells_67 rfl 2 rfl ?_
  obtain ⟨g_13, h⟩ := h
  refine xt_iald X (kd_X3_3 hG k1) g_13 (by decide) dX2_placeCells_68 (fun r_14 => ?_)
  refine xt_add X dX2_placeCells_69 ?_
  refine xt_al X dX2_placeCells_70 rfl 0 rfl ?_
  refine gfX2_15 X k0 dX2_placeCells_71 ?_
  refine xt_il X dX2_placeCells_74 rfl 2 rfl ?_
  obtain ⟨g_15, h⟩ := h
  refine xt_iald X (kd_X2_2 hG k0) g_15 (by decide) dX2_placeCells_75 (fun r_16 => ?_)
  refine xt_sub X dX2_placeCells_76 ?_
  obtain ⟨g_17, h⟩ := h
  obtain ⟨g_18, h⟩ := h
  refine xt_iast X (kd_X2_4 hG k0) g_17 (by decide) g_18 dX2_placeCells_77 (fun M_19 hm => ?_)
  have h := h M_19 hm
  exact xt_vret X h dX2_placeCells_78
abbrev rmX2_lay : Room := { frames := 2, cells := 0, slots := 0, locals := 71 }
def BX2_lay_10 (ke30 : Mm → Prop) (Q : Mm → Prop) (v0 : Int) (v1 : Int) (rec : Int → Mm → Prop) (v2 : Int) (M : Mm) : Prop :=
  (((M v0 8) ≤ v2 → ke30 M) ∧
  (¬ (M v0 8) ≤ v2 → (PX2_partIntoCells v0 v1 v2 M (fun M_5 =>
  (inR (v2 + 1) ∧
  rec (v2 + 1) M_5)))))
def JX2_lay_73 (rec : Int → Mm → Prop) (ke103 : Mm → Prop) (Q : Mm → Prop) (v0 : Int) (v1 : Int) (v2 : Int) (v3 : Int) (M : Mm) : Prop :=
  (PX2_measure v0 v1 v2 v3 ((-9)) M (fun M_14 =>
  (PX2_spreadBlock v0 v3 M_14 (fun M_16 =>
  (inR ((M_16 v0 0) + 1) ∧
  (∀ M_18 : Mm, M_18 = um M_16 v0 0 ((M_16 v0 0) + 1) →
  (inR (v3 + 1) ∧
  rec (v3 + 1) M_18)))))))
def BX2_lay_47 (ke103 : Mm → Prop) (Q : Mm → Prop) (v0 : Int) (v1 : Int) (v2 : Int) (rec : Int → Mm → Prop) (v3 : Int) (M : Mm) : Prop :=
  ((0 ≤ v2 ∧ v2 < 12) ∧
  (((M (v0 + 1) v2) ≤ v3 → ke103 M) ∧
  (¬ (M (v0 + 1) v2) ≤ v3 → ((v2 = 0 → JX2_lay_73 rec ke103 Q v0 v1 v2 v3 M) ∧
  (¬ v2 = 0 → ((0 ≤ (v2 - 1) ∧ (v2 - 1) < 12) ∧
  ((v3 < (M (v0 + 1) (v2 - 1)) → (inR (v3 + 1) ∧
  rec (v3 + 1) M)) ∧
  (¬ v3 < (M (v0 + 1) (v2 - 1)) → JX2_lay_73 rec ke103 Q v0 v1 v2 v3 M))))))))
def BX2_lay_37 (ke109 : Mm → Prop) (Q : Mm → Prop) (v0 : Int) (v1 : Int) (rec : Int → Mm → Prop) (v2 : Int) (M : Mm) : Prop :=
  (((M v0 8) ≤ v2 → ke109 M) ∧
  (¬ (M v0 8) ≤ v2 → ∃ n_24 : Nat, lp_I (BX2_lay_47 (fun M_25 => (inR (v2 + 1) ∧
  rec (v2 + 1) M_25)) Q v0 v1 v2) n_24 0 M))
def BX2_lay_111  (Q : Mm → Prop) (v0 : Int) (v1 : Int) (rec : Int → Mm → Prop) (v2 : Int) (M : Mm) : Prop :=
  (((M v0 8) ≤ v2 → Q M) ∧
  (¬ (M v0 8) ≤ v2 → (PX2_placeCells v0 v1 v2 M (fun M_31 =>
  (inR (v2 + 1) ∧
  rec (v2 + 1) M_31)))))
def PX2_lay (v0 : Int) (v1 : Int) (M : Mm) (Q : Mm → Prop) : Prop :=
  (∀ M_2 : Mm, M_2 = um M v0 8 (M v1 0) →
  ∃ n_7 : Nat, lp_I (BX2_lay_10 (fun M_8 => (∀ M_9 : Mm, M_9 = um M_8 v0 0 0 →
  ∃ n_27 : Nat, lp_I (BX2_lay_37 (fun M_28 => ∃ n_33 : Nat, lp_I (BX2_lay_111  Q v0 v1) n_33 0 M_28) Q v0 v1) n_27 0 M_9)) Q v0 v1) n_7 0 M_2)
set_option maxHeartbeats 4000000 in
set_option maxRecDepth 100000 in
theorem wX2_lay_10 {p : Program} {l : Launch} {e : Env} {s : State} {m : MethodId} {args : Array Value} {below : List Frame} {meth : Method} {c : Code} {G : GG} (X : Cx p s m args meth c cX2_lay 4 (none) RX2 G) {Q : Mm → Prop} {ke30 : Mm → Prop} {v0 : Int} {v1 : Int} (k0 : gK G v0 = (2, 0)) (k1 : gK G v1 = (3, 0)) (hke30 : ∀ (M : Mm), ke30  M → Wt p l e rmX2_lay s m args below meth c G (MQ below (PostV G Q) args s 0 0 (gA G)) 4 M [(0, rV (v0)), (1, rV (v1))] 30 []) : ∀ (n : Nat) (v2 : Int) (M : Mm), inR v2 → lp_I (BX2_lay_10 ke30 Q v0 v1) n v2 M → Wt p l e rmX2_lay s m args below meth c G (MQ below (PostV G Q) args s 0 0 (gA G)) 4 M [(0, rV (v0)), (1, rV (v1)), (2, iV (v2))] 10 [] := by
  have hG := X.2.2.2.2.2.2.2.2
  intro n
  induction n with
  | zero => intro v2 M r2 h; exact h.elim
  | succ n ih =>
    intro v2 M r2 h
    have h : BX2_lay_10 ke30 Q v0 v1 (lp_I (BX2_lay_10 ke30 Q v0 v1) n) v2 M := h
    unfold BX2_lay_10 at h
    refine xt_il X dX2_lay_10 rfl 2 rfl ?_
    refine xt_al X dX2_lay_11 rfl 0 rfl ?_
    refine gfX2_55 X k0 dX2_lay_12 (fun r_3 => ?_)
    refine xt_cge (tgt := 30) X r2 r_3 dX2_lay_15 (by decide) (fun hc => ?_) (fun hc => ?_)
    · have h := h.1 hc
      refine xt_perm (lv2 := [(0, rV (v0)), (1, rV (v1))]) [0, 1] rfl ?_
      exact hke30 M  h
    · have h := h.2 hc
      refine xt_al X dX2_lay_18 rfl 0 rfl ?_
      refine xt_al X dX2_lay_19 rfl 1 rfl ?_
      refine xt_il X dX2_lay_20 rfl 2 rfl ?_
      refine xt_cVV X [rV (v1), iV (v2)] [] (ctX2_partIntoCells hG k0 k1 r2 h) gdX2_56 pdX2_partIntoCells ⟨rfl, rfl⟩ ⟨Nat.le_of_ble_eq_true rfl, Nat.le_of_ble_eq_true rfl⟩ rfl (k_lt k0 (by decide)) (by rw [k0]; rfl) rfl (Nat.le_of_ble_eq_true rfl) dX2_lay_21 (fun M_5 h => ?_)
      refine xt_inc (lv2 := [(2, iV (v2 + 1)), (0, rV (v0)), (1, rV (v1))]) X dX2_lay_24 2 rfl (by decide) rfl ?_
      refine xt_goto (tgt := 10) X dX2_lay_27 (by decide) ?_
      obtain ⟨g_6, h⟩ := h
      refine xt_perm (lv2 := [(0, rV (v0)), (1, rV (v1)), (2, iV (v2 + 1))]) [1, 2, 0] rfl ?_
      exact ih (v2 + 1) M_5 g_6 h
set_option maxHeartbeats 4000000 in
set_option maxRecDepth 100000 in
theorem jX2_lay_73 {p : Program} {l : Launch} {e : Env} {s : State} {m : MethodId} {args : Array Value} {below : List Frame} {meth : Method} {c : Code} {G : GG} (X : Cx p s m args meth c cX2_lay 4 (none) RX2 G) {Q : Mm → Prop} {rec : Int → Mm → Prop} {ke103 : Mm → Prop} {v0 : Int} {v1 : Int} {v2 : Int} {v3 : Int} (ih : ∀ (v3 : Int) (M : Mm), inR v3 → rec v3 M → Wt p l e rmX2_lay s m args below meth c G (MQ below (PostV G Q) args s 0 0 (gA G)) 4 M [(0, rV (v0)), (1, rV (v1)), (2, iV (v2)), (3, iV (v3))] 47 []) (hke103 : ∀ (M : Mm), ke103  M → Wt p l e rmX2_lay s m args below meth c G (MQ below (PostV G Q) args s 0 0 (gA G)) 4 M [(0, rV (v0)), (1, rV (v1)), (2, iV (v2))] 103 []) (k0 : gK G v0 = (2, 0)) (k1 : gK G v1 = (3, 0)) (r2 : inR v2) (r3 : inR v3) {M : Mm} (h : JX2_lay_73 rec ke103 Q v0 v1 v2 v3 M) : Wt p l e rmX2_lay s m args below meth c G (MQ below (PostV G Q) args s 0 0 (gA G)) 4 M [(0, rV (v0)), (1, rV (v1)), (2, iV (v2)), (3, iV (v3))] 73 [] := by
  have hG := X.2.2.2.2.2.2.2.2
  unfold JX2_lay_73 at h
  refine xt_al X dX2_lay_73 rfl 0 rfl ?_
  refine xt_al X dX2_lay_74 rfl 1 rfl ?_
  refine xt_il X dX2_lay_75 rfl 2 rfl ?_
  refine xt_il X dX2_lay_76 rfl 3 rfl ?_
  refine xt_bi X dX2_lay_77 (by decide) ?_
  refine xt_cVV X [rV (v1), iV (v2), iV (v3), iV ((-9))] [] (ctX2_measure hG k0 k1 r2 r3 (i_rc (-9) rfl) h) gdX2_63 pdX2_measure ⟨rfl, rfl⟩ ⟨Nat.le_of_ble_eq_true rfl, Nat.le_of_ble_eq_true rfl⟩ rfl (k_lt k0 (by decide)) (by rw [k0]; rfl) rfl (Nat.le_of_ble_eq_true rfl) dX2_lay_79 (fun M_14 h => ?_)
  refine xt_al X dX2_lay_82 rfl 0 rfl ?_
  refine xt_il X dX2_lay_83 rfl 3 rfl ?_
  refine xt_cVV X [iV (v3)] [] (ctX2_spreadBlock hG k0 r3 h) gdX2_67 pdX2_spreadBlock ⟨rfl, rfl⟩ ⟨Nat.le_of_ble_eq_true rfl, Nat.le_of_ble_eq_true rfl⟩ rfl (k_lt k0 (by decide)) (by rw [k0]; rfl) rfl (Nat.le_of_ble_eq_true rfl) dX2_lay_84 (fun M_16 h => ?_)
  refine xt_al X dX2_lay_87 rfl 0 rfl ?_
  refine xt_dup X rfl dX2_lay_88 ?_
  refine gfX2_60 X k0 dX2_lay_89 (fun r_17 => ?_)
  refine xt_ic X dX2_lay_92 ?_
  refine xt_add X dX2_lay_93 ?_
  obtain ⟨g_19, h⟩ := h
  refine pfX2_60 X k0 g_19 dX2_lay_94 (fun M_18 hm => ?_)
  have h := h M_18 hm
  refine xt_inc (lv2 := [(3, iV (v3 + 1)), (0, rV (v0)), (1, rV (v1)), (2, iV (v2))]) X dX2_lay_97 3 rfl (by decide) rfl ?_
  refine xt_goto (tgt := 47) X dX2_lay_100 (by decide) ?_
  obtain ⟨g_20, h⟩ := h
  refine xt_perm (lv2 := [(0, rV (v0)), (1, rV (v1)), (2, iV (v2)), (3, iV (v3 + 1))]) [1, 2, 3, 0] rfl ?_
  exact ih (v3 + 1) M_18 g_20 h
set_option maxHeartbeats 4000000 in
set_option maxRecDepth 100000 in
theorem wX2_lay_47 {p : Program} {l : Launch} {e : Env} {s : State} {m : MethodId} {args : Array Value} {below : List Frame} {meth : Method} {c : Code} {G : GG} (X : Cx p s m args meth c cX2_lay 4 (none) RX2 G) {Q : Mm → Prop} {ke103 : Mm → Prop} {v0 : Int} {v1 : Int} {v2 : Int} (k0 : gK G v0 = (2, 0)) (k1 : gK G v1 = (3, 0)) (r2 : inR v2) (hke103 : ∀ (M : Mm), ke103  M → Wt p l e rmX2_lay s m args below meth c G (MQ below (PostV G Q) args s 0 0 (gA G)) 4 M [(0, rV (v0)), (1, rV (v1)), (2, iV (v2))] 103 []) : ∀ (n : Nat) (v3 : Int) (M : Mm), inR v3 → lp_I (BX2_lay_47 ke103 Q v0 v1 v2) n v3 M → Wt p l e rmX2_lay s m args below meth c G (MQ below (PostV G Q) args s 0 0 (gA G)) 4 M [(0, rV (v0)), (1, rV (v1)), (2, iV (v2)), (3, iV (v3))] 47 [] := by
  have hG := X.2.2.2.2.2.2.2.2
  intro n
  induction n with
  | zero => intro v3 M r3 h; exact h.elim
  | succ n ih =>
    intro v3 M r3 h
    have h : BX2_lay_47 ke103 Q v0 v1 v2 (lp_I (BX2_lay_47 ke103 Q v0 v1 v2) n) v3 M := h
    unfold BX2_lay_47 at h
    refine xt_il X dX2_lay_47 rfl 3 rfl ?_
    refine xt_al X dX2_lay_48 rfl 0 rfl ?_
    refine gfX2_9 X k0 dX2_lay_49 ?_
    refine xt_il X dX2_lay_52 rfl 2 rfl ?_
    obtain ⟨g_11, h⟩ := h
    refine xt_iald X (kd_X2_1 hG k0) g_11 (by decide) dX2_lay_53 (fun r_12 => ?_)
    refine xt_cge (tgt := 103) X r3 r_12 dX2_lay_54 (by decide) (fun hc => ?_) (fun hc => ?_)
    · have h := h.1 hc
      refine xt_perm (lv2 := [(0, rV (v0)), (1, rV (v1)), (2, iV (v2))]) [0, 1, 2] rfl ?_
      exact hke103 M  h
    · have h := h.2 hc
      refine xt_il X dX2_lay_57 rfl 2 rfl ?_
      refine xt_zeq (tgt := 73) X r2 dX2_lay_58 (by decide) (fun hc => ?_) (fun hc => ?_)
      · have h := h.1 hc
        exact jX2_lay_73 X ih hke103 k0 k1 r2 r3 h
      · have h := h.2 hc
        refine xt_al X dX2_lay_61 rfl 0 rfl ?_
        refine gfX2_9 X k0 dX2_lay_62 ?_
        refine xt_il X dX2_lay_65 rfl 2 rfl ?_
        refine xt_ic X dX2_lay_66 ?_
        refine xt_sub X dX2_lay_67 ?_
        obtain ⟨g_21, h⟩ := h
        refine xt_iald X (kd_X2_1 hG k0) g_21 (by decide) dX2_lay_68 (fun r_22 => ?_)
        refine xt_il X dX2_lay_69 rfl 3 rfl ?_
        refine xt_cgt (tgt := 97) X r_22 r3 dX2_lay_70 (by decide) (fun hc => ?_) (fun hc => ?_)
        · have h := h.1 hc
          refine xt_inc (lv2 := [(3, iV (v3 + 1)), (0, rV (v0)), (1, rV (v1)), (2, iV (v2))]) X dX2_lay_97 3 rfl (by decide) rfl ?_
          refine xt_goto (tgt := 47) X dX2_lay_100 (by decide) ?_
          obtain ⟨g_23, h⟩ := h
          refine xt_perm (lv2 := [(0, rV (v0)), (1, rV (v1)), (2, iV (v2)), (3, iV (v3 + 1))]) [1, 2, 3, 0] rfl ?_
          exact ih (v3 + 1) M g_23 h
        · have h := h.2 hc
          exact jX2_lay_73 X ih hke103 k0 k1 r2 r3 h
set_option maxHeartbeats 4000000 in
set_option maxRecDepth 100000 in
theorem wX2_lay_37 {p : Program} {l : Launch} {e : Env} {s : State} {m : MethodId} {args : Array Value} {below : List Frame} {meth : Method} {c : Code} {G : GG} (X : Cx p s m args meth c cX2_lay 4 (none) RX2 G) {Q : Mm → Prop} {ke109 : Mm → Prop} {v0 : Int} {v1 : Int} (k0 : gK G v0 = (2, 0)) (k1 : gK G v1 = (3, 0)) (hke109 : ∀ (M : Mm), ke109  M → Wt p l e rmX2_lay s m args below meth c G (MQ below (PostV G Q) args s 0 0 (gA G)) 4 M [(0, rV (v0)), (1, rV (v1))] 109 []) : ∀ (n : Nat) (v2 : Int) (M : Mm), inR v2 → lp_I (BX2_lay_37 ke109 Q v0 v1) n v2 M → Wt p l e rmX2_lay s m args below meth c G (MQ below (PostV G Q) args s 0 0 (gA G)) 4 M [(0, rV (v0)), (1, rV (v1)), (2, iV (v2))] 37 [] := by
  have hG := X.2.2.2.2.2.2.2.2
  intro n
  induction n with
  | zero => intro v2 M r2 h; exact h.elim
  | succ n ih =>
    intro v2 M r2 h
    have h : BX2_lay_37 ke109 Q v0 v1 (lp_I (BX2_lay_37 ke109 Q v0 v1) n) v2 M := h
    unfold BX2_lay_37 at h
    refine xt_il X dX2_lay_37 rfl 2 rfl ?_
    refine xt_al X dX2_lay_38 rfl 0 rfl ?_
    refine gfX2_55 X k0 dX2_lay_39 (fun r_10 => ?_)
    refine xt_cge (tgt := 109) X r2 r_10 dX2_lay_42 (by decide) (fun hc => ?_) (fun hc => ?_)
    · have h := h.1 hc
      refine xt_perm (lv2 := [(0, rV (v0)), (1, rV (v1))]) [0, 1] rfl ?_
      exact hke109 M  h
    · have h := h.2 hc
      refine xt_ic X dX2_lay_45 ?_
      refine xt_is (lv2 := [(3, iV (0)), (0, rV (v0)), (1, rV (v1)), (2, iV (v2))]) X dX2_lay_46 rfl (by decide) rfl ?_
      obtain ⟨n_24, h⟩ := h
      refine xt_perm (lv2 := [(0, rV (v0)), (1, rV (v1)), (2, iV (v2)), (3, iV (0))]) [1, 2, 3, 0] rfl ?_
      refine wX2_lay_47 X k0 k1 r2 (fun M_25 h => ?_) n_24 0 M (i_rc 0 rfl) h
      refine xt_inc (lv2 := [(2, iV (v2 + 1)), (0, rV (v0)), (1, rV (v1))]) X dX2_lay_103 2 rfl (by decide) rfl ?_
      refine xt_goto (tgt := 37) X dX2_lay_106 (by decide) ?_
      obtain ⟨g_26, h⟩ := h
      refine xt_perm (lv2 := [(0, rV (v0)), (1, rV (v1)), (2, iV (v2 + 1))]) [1, 2, 0] rfl ?_
      exact ih (v2 + 1) M_25 g_26 h
set_option maxHeartbeats 4000000 in
set_option maxRecDepth 100000 in
theorem wX2_lay_111 {p : Program} {l : Launch} {e : Env} {s : State} {m : MethodId} {args : Array Value} {below : List Frame} {meth : Method} {c : Code} {G : GG} (X : Cx p s m args meth c cX2_lay 4 (none) RX2 G) {Q : Mm → Prop}  {v0 : Int} {v1 : Int} (k0 : gK G v0 = (2, 0)) (k1 : gK G v1 = (3, 0))  : ∀ (n : Nat) (v2 : Int) (M : Mm), inR v2 → lp_I (BX2_lay_111  Q v0 v1) n v2 M → Wt p l e rmX2_lay s m args below meth c G (MQ below (PostV G Q) args s 0 0 (gA G)) 4 M [(0, rV (v0)), (1, rV (v1)), (2, iV (v2))] 111 [] := by
  have hG := X.2.2.2.2.2.2.2.2
  intro n
  induction n with
  | zero => intro v2 M r2 h; exact h.elim
  | succ n ih =>
    intro v2 M r2 h
    have h : BX2_lay_111  Q v0 v1 (lp_I (BX2_lay_111  Q v0 v1) n) v2 M := h
    unfold BX2_lay_111 at h
    refine xt_il X dX2_lay_111 rfl 2 rfl ?_
    refine xt_al X dX2_lay_112 rfl 0 rfl ?_
    refine gfX2_55 X k0 dX2_lay_113 (fun r_29 => ?_)
    refine xt_cge (tgt := 131) X r2 r_29 dX2_lay_116 (by decide) (fun hc => ?_) (fun hc => ?_)
    · have h := h.1 hc
      exact xt_vret X h dX2_lay_131
    · have h := h.2 hc
      refine xt_al X dX2_lay_119 rfl 0 rfl ?_
      refine xt_al X dX2_lay_120 rfl 1 rfl ?_
      refine xt_il X dX2_lay_121 rfl 2 rfl ?_
      refine xt_cVV X [rV (v1), iV (v2)] [] (ctX2_placeCells hG k0 k1 r2 h) gdX2_71 pdX2_placeCells ⟨rfl, rfl⟩ ⟨Nat.le_of_ble_eq_true rfl, Nat.le_of_ble_eq_true rfl⟩ rfl (k_lt k0 (by decide)) (by rw [k0]; rfl) rfl (Nat.le_of_ble_eq_true rfl) dX2_lay_122 (fun M_31 h => ?_)
      refine xt_inc (lv2 := [(2, iV (v2 + 1)), (0, rV (v0)), (1, rV (v1))]) X dX2_lay_125 2 rfl (by decide) rfl ?_
      refine xt_goto (tgt := 111) X dX2_lay_128 (by decide) ?_
      obtain ⟨g_32, h⟩ := h
      refine xt_perm (lv2 := [(0, rV (v0)), (1, rV (v1)), (2, iV (v2 + 1))]) [1, 2, 0] rfl ?_
      exact ih (v2 + 1) M_31 g_32 h
set_option maxHeartbeats 4000000 in
set_option maxRecDepth 100000 in
theorem ctX2_lay {l : Launch} {G : GG} (hG : Gd G) {v0 : Int} {v1 : Int} {M : Mm} {Q : Mm → Prop} (k0 : gK G v0 = (2, 0)) (k1 : gK G v1 = (3, 0)) (h : PX2_lay v0 v1 M Q) : Met l yX2_lay (Cond.code yX2_lay cX2_lay 4 (none) :: tw) rmX2_lay (Pre G M [rV (v0), rV (v1)]) (PostV G Q) 0 0 (gA G) := by
  refine met_of (own := RX2) (by decide) rfl hG (Nat.le_of_ble_eq_true rfl) (fun p e s m below meth c X => ?_)
  generalize hargs : ([rV (v0), rV (v1)] : List Value).toArray = args at X ⊢
  show Wt p l e rmX2_lay s m args below meth c G (MQ below (PostV G Q) args s 0 0 (gA G)) 4 M [(0, rV (v0)), (1, rV (v1))] 0 []
  unfold PX2_lay at h
  refine xt_al X dX2_lay_0 rfl 0 rfl ?_
  refine xt_al X dX2_lay_1 rfl 1 rfl ?_
  refine gfX2_49 X k1 dX2_lay_2 (fun r_1 => ?_)
  refine pfX2_55 X k0 r_1 dX2_lay_5 (fun M_2 hm => ?_)
  have h := h M_2 hm
  refine xt_ic X dX2_lay_8 ?_
  refine xt_is (lv2 := [(2, iV (0)), (0, rV (v0)), (1, rV (v1))]) X dX2_lay_9 rfl (by decide) rfl ?_
  obtain ⟨n_7, h⟩ := h
  refine xt_perm (lv2 := [(0, rV (v0)), (1, rV (v1)), (2, iV (0))]) [1, 2, 0] rfl ?_
  refine wX2_lay_10 X k0 k1 (fun M_8 h => ?_) n_7 0 M_2 (i_rc 0 rfl) h
  refine xt_al X dX2_lay_30 rfl 0 rfl ?_
  refine xt_ic X dX2_lay_31 ?_
  refine pfX2_60 X k0 (i_rc 0 rfl) dX2_lay_32 (fun M_9 hm => ?_)
  have h := h M_9 hm
  refine xt_ic X dX2_lay_35 ?_
  refine xt_is (lv2 := [(2, iV (0)), (0, rV (v0)), (1, rV (v1))]) X dX2_lay_36 rfl (by decide) rfl ?_
  obtain ⟨n_27, h⟩ := h
  refine xt_perm (lv2 := [(0, rV (v0)), (1, rV (v1)), (2, iV (0))]) [1, 2, 0] rfl ?_
  refine wX2_lay_37 X k0 k1 (fun M_28 h => ?_) n_27 0 M_9 (i_rc 0 rfl) h
  refine xt_ic X dX2_lay_109 ?_
  refine xt_is (lv2 := [(2, iV (0)), (0, rV (v0)), (1, rV (v1))]) X dX2_lay_110 rfl (by decide) rfl ?_
  obtain ⟨n_33, h⟩ := h
  refine xt_perm (lv2 := [(0, rV (v0)), (1, rV (v1)), (2, iV (0))]) [1, 2, 0] rfl ?_
  refine wX2_lay_111 X k0 k1  n_33 0 M_28 (i_rc 0 rfl) h
abbrev rmX2_widest : Room := { frames := 2, cells := 0, slots := 0, locals := 71 }
def BX2_widest_76  (Q : Int → Mm → Prop) (v0 : Int) (v3 : Int) (v4 : Int) (v5 : Int) (rec : Int → Mm → Prop) (v6 : Int) (M : Mm) : Prop :=
  (((M (v0 + 8) 1) < v6 → Q ((-9)) M) ∧
  (¬ (M (v0 + 8) 1) < v6 → ((v4 = 0 → ((0 ≤ ((v6 * 24) + v3) ∧ ((v6 * 24) + v3) < 288) ∧
  (((M (v0 + 5) ((v6 * 24) + v3)) = v5 → Q v6 M) ∧
  (¬ (M (v0 + 5) ((v6 * 24) + v3)) = v5 → (inR (v6 + 1) ∧
  rec (v6 + 1) M))))) ∧
  (¬ v4 = 0 → ((0 ≤ ((v6 * 24) + v3) ∧ ((v6 * 24) + v3) < 288) ∧
  (((M (v0 + 10) ((v6 * 24) + v3)) = v5 → Q v6 M) ∧
  (¬ (M (v0 + 10) ((v6 * 24) + v3)) = v5 → (inR (v6 + 1) ∧
  rec (v6 + 1) M))))))))
def PX2_widest (v0 : Int) (v1 : Int) (v2 : Int) (v3 : Int) (M : Mm) (Q : Int → Mm → Prop) : Prop :=
  (PX2_measure v0 v1 v2 v3 ((-9)) M (fun M_2 =>
  (((M_2 v1 2) ≤ (M_2 (v0 + 8) 3) → ((0 ≤ v3 ∧ v3 < 24) ∧
  (((M_2 (v1 + 3) v3) = 3 → (((1 : Int) = 0 → ∃ n_22 : Nat, lp_I (BX2_widest_76  Q v0 v3 1 (M_2 (v0 + 8) 3)) n_22 (M_2 (v0 + 8) 0) M_2) ∧
  (¬ (1 : Int) = 0 → ∃ n_25 : Nat, lp_I (BX2_widest_76  Q v0 v3 1 (M_2 (v0 + 8) 2)) n_25 (M_2 (v0 + 8) 0) M_2))) ∧
  (¬ (M_2 (v1 + 3) v3) = 3 → (((0 : Int) = 0 → ∃ n_16 : Nat, lp_I (BX2_widest_76  Q v0 v3 0 (M_2 (v0 + 8) 3)) n_16 (M_2 (v0 + 8) 0) M_2) ∧
  (¬ (0 : Int) = 0 → ∃ n_19 : Nat, lp_I (BX2_widest_76  Q v0 v3 0 (M_2 (v0 + 8) 2)) n_19 (M_2 (v0 + 8) 0) M_2)))))) ∧
  (¬ (M_2 v1 2) ≤ (M_2 (v0 + 8) 3) → Q ((-9)) M_2))))
set_option maxHeartbeats 4000000 in
set_option maxRecDepth 100000 in
theorem wX2_widest_76 {p : Program} {l : Launch} {e : Env} {s : State} {m : MethodId} {args : Array Value} {below : List Frame} {meth : Method} {c : Code} {G : GG} (X : Cx p s m args meth c cX2_widest 8 ((some FieldType.int)) RX2 G) {Q : Int → Mm → Prop}  {v0 : Int} {v3 : Int} {v4 : Int} {v5 : Int} (k0 : gK G v0 = (2, 0)) (r3 : inR v3) (r4 : inR v4) (r5 : inR v5)  : ∀ (n : Nat) (v6 : Int) (M : Mm), inR v6 → lp_I (BX2_widest_76  Q v0 v3 v4 v5) n v6 M → Wt p l e rmX2_widest s m args below meth c G (MQ below (PostI G Q) args s 0 0 (gA G)) 8 M [(0, rV (v0)), (3, iV (v3)), (4, iV (v4)), (5, iV (v5)), (6, iV (v6))] 76 [] := by
  have hG := X.2.2.2.2.2.2.2.2
  intro n
  induction n with
  | zero => intro v6 M r6 h; exact h.elim
  | succ n ih =>
    intro v6 M r6 h
    have h : BX2_widest_76  Q v0 v3 v4 v5 (lp_I (BX2_widest_76  Q v0 v3 v4 v5) n) v6 M := h
    unfold BX2_widest_76 at h
    refine xt_ilw X dX2_widest_76 4 rfl ?_
    refine xt_al X dX2_widest_78 rfl 0 rfl ?_
    refine gfX2_36 X k0 dX2_widest_79 ?_
    refine gfX2_82 X (kd_X2_9 hG k0) dX2_widest_82 (fun r_9 => ?_)
    refine xt_cgt (tgt := 133) X r6 r_9 dX2_widest_85 (by decide) (fun hc => ?_) (fun hc => ?_)
    · have h := h.1 hc
      refine xt_bi X dX2_widest_133 (by decide) ?_
      exact xt_iret X (i_rc (-9) rfl) h dX2_widest_135
    · have h := h.2 hc
      refine xt_ilw X dX2_widest_88 4 rfl ?_
      refine xt_bi X dX2_widest_90 (by decide) ?_
      refine xt_mul X dX2_widest_92 ?_
      refine xt_il X dX2_widest_93 rfl 1 rfl ?_
      refine xt_add X dX2_widest_94 ?_
      refine xt_isw (lv2 := [(7, iV ((v6 * 24) + v3)), (0, rV (v0)), (3, iV (v3)), (4, iV (v4)), (5, iV (v5)), (6, iV (v6))]) X dX2_widest_95 (by decide) rfl ?_
      refine xt_ilw X dX2_widest_97 3 rfl ?_
      refine xt_zeq (tgt := 112) X r4 dX2_widest_99 (by decide) (fun hc => ?_) (fun hc => ?_)
      · have h := h.1 hc
        refine xt_al X dX2_widest_112 rfl 1 rfl ?_
        refine gfX2_24 X k0 dX2_widest_113 ?_
        refine xt_ilw X dX2_widest_116 0 rfl ?_
        obtain ⟨g_10, h⟩ := h
        refine xt_iald X (kd_X2_5 hG k0) g_10 (by decide) dX2_widest_118 (fun r_11 => ?_)
        refine xt_ilw X dX2_widest_119 4 rfl ?_
        refine xt_cne (tgt := 127) X r_11 r5 dX2_widest_121 (by decide) (fun hc => ?_) (fun hc => ?_)
        · have h := h.2 hc
          refine xt_inc (lv2 := [(6, iV (v6 + 1)), (7, iV ((v6 * 24) + v3)), (0, rV (v0)), (3, iV (v3)), (4, iV (v4)), (5, iV (v5))]) X dX2_widest_127 5 rfl (by decide) rfl ?_
          refine xt_goto (tgt := 76) X dX2_widest_130 (by decide) ?_
          obtain ⟨g_12, h⟩ := h
          refine xt_perm (lv2 := [(0, rV (v0)), (3, iV (v3)), (4, iV (v4)), (5, iV (v5)), (6, iV (v6 + 1))]) [2, 3, 4, 5, 0] rfl ?_
          exact ih (v6 + 1) M g_12 h
        · have h := h.1 hc
          refine xt_ilw X dX2_widest_124 5 rfl ?_
          exact xt_iret X r6 h dX2_widest_126
      · have h := h.2 hc
        refine xt_al X dX2_widest_102 rfl 1 rfl ?_
        refine gfX2_43 X k0 dX2_widest_103 ?_
        refine xt_ilw X dX2_widest_106 0 rfl ?_
        obtain ⟨g_13, h⟩ := h
        refine xt_iald X (kd_X2_11 hG k0) g_13 (by decide) dX2_widest_108 (fun r_14 => ?_)
        refine xt_goto (tgt := 119) X dX2_widest_109 (by decide) ?_
        refine xt_ilw X dX2_widest_119 4 rfl ?_
        refine xt_cne (tgt := 127) X r_14 r5 dX2_widest_121 (by decide) (fun hc => ?_) (fun hc => ?_)
        · have h := h.2 hc
          refine xt_inc (lv2 := [(6, iV (v6 + 1)), (7, iV ((v6 * 24) + v3)), (0, rV (v0)), (3, iV (v3)), (4, iV (v4)), (5, iV (v5))]) X dX2_widest_127 5 rfl (by decide) rfl ?_
          refine xt_goto (tgt := 76) X dX2_widest_130 (by decide) ?_
          obtain ⟨g_15, h⟩ := h
          refine xt_perm (lv2 := [(0, rV (v0)), (3, iV (v3)), (4, iV (v4)), (5, iV (v5)), (6, iV (v6 + 1))]) [2, 3, 4, 5, 0] rfl ?_
          exact ih (v6 + 1) M g_15 h
        · have h := h.1 hc
          refine xt_ilw X dX2_widest_124 5 rfl ?_
          exact xt_iret X r6 h dX2_widest_126
set_option maxHeartbeats 4000000 in
set_option maxRecDepth 100000 in
theorem ctX2_widest {l : Launch} {G : GG} (hG : Gd G) {v0 : Int} {v1 : Int} {v2 : Int} {v3 : Int} {M : Mm} {Q : Int → Mm → Prop} (k0 : gK G v0 = (2, 0)) (k1 : gK G v1 = (3, 0)) (r2 : inR v2) (r3 : inR v3) (h : PX2_widest v0 v1 v2 v3 M Q) : Met l yX2_widest (Cond.code yX2_widest cX2_widest 8 ((some FieldType.int)) :: tw) rmX2_widest (Pre G M [rV (v0), rV (v1), iV (v2), iV (v3)]) (PostI G Q) 0 0 (gA G) := by
  refine met_of (own := RX2) (by decide) rfl hG (Nat.le_of_ble_eq_true rfl) (fun p e s m below meth c X => ?_)
  generalize hargs : ([rV (v0), rV (v1), iV (v2), iV (v3)] : List Value).toArray = args at X ⊢
  show Wt p l e rmX2_widest s m args below meth c G (MQ below (PostI G Q) args s 0 0 (gA G)) 8 M [(0, rV (v0)), (1, rV (v1)), (2, iV (v2)), (3, iV (v3))] 0 []
  unfold PX2_widest at h
  refine xt_al X dX2_widest_0 rfl 0 rfl ?_
  refine xt_al X dX2_widest_1 rfl 1 rfl ?_
  refine xt_il X dX2_widest_2 rfl 2 rfl ?_
  refine xt_il X dX2_widest_3 rfl 3 rfl ?_
  refine xt_bi X dX2_widest_4 (by decide) ?_
  refine xt_cVV X [rV (v1), iV (v2), iV (v3), iV ((-9))] [] (ctX2_measure hG k0 k1 r2 r3 (i_rc (-9) rfl) h) gdX2_63 pdX2_measure ⟨rfl, rfl⟩ ⟨Nat.le_of_ble_eq_true rfl, Nat.le_of_ble_eq_true rfl⟩ rfl (k_lt k0 (by decide)) (by rw [k0]; rfl) rfl (Nat.le_of_ble_eq_true rfl) dX2_widest_6 (fun M_2 h => ?_)
  refine xt_al X dX2_widest_9 rfl 0 rfl ?_
  refine gfX2_36 X k0 dX2_widest_10 ?_
  refine gfX2_108 X (kd_X2_9 hG k0) dX2_widest_13 (fun r_3 => ?_)
  refine xt_al X dX2_widest_16 rfl 1 rfl ?_
  refine gfX2_111 X k1 dX2_widest_17 (fun r_4 => ?_)
  refine xt_cge (tgt := 26) X r_3 r_4 dX2_widest_20 (by decide) (fun hc => ?_) (fun hc => ?_)
  · have h := h.1 hc
    refine xt_al X dX2_widest_26 rfl 1 rfl ?_
    refine gfX2_105 X k1 dX2_widest_27 ?_
    refine xt_il X dX2_widest_30 rfl 3 rfl ?_
    obtain ⟨g_5, h⟩ := h
    refine xt_iald X (kd_X3_5 hG k1) g_5 (by decide) dX2_widest_31 (fun r_6 => ?_)
    refine xt_ic X dX2_widest_32 ?_
    refine xt_cne (tgt := 40) X r_6 (i_rc 3 rfl) dX2_widest_33 (by decide) (fun hc => ?_) (fun hc => ?_)
    · have h := h.2 hc
      refine xt_ic X dX2_widest_40 ?_
      refine xt_isw (lv2 := [(4, iV (0)), (0, rV (v0)), (1, rV (v1)), (2, iV (v2)), (3, iV (v3))]) X dX2_widest_41 (by decide) rfl ?_
      refine xt_ilw X dX2_widest_43 0 rfl ?_
      refine xt_zeq (tgt := 58) X (i_rc 0 rfl) dX2_widest_45 (by decide) (fun hc => ?_) (fun hc => ?_)
      · have h := h.1 hc
        refine xt_al X dX2_widest_58 rfl 1 rfl ?_
        refine gfX2_36 X k0 dX2_widest_59 ?_
        refine gfX2_108 X (kd_X2_9 hG k0) dX2_widest_62 (fun r_7 => ?_)
        refine xt_isw (lv2 := [(5, iV (M_2 (v0 + 8) 3)), (4, iV (0)), (0, rV (v0)), (1, rV (v1)), (2, iV (v2)), (3, iV (v3))]) X dX2_widest_65 (by decide) rfl ?_
        refine xt_al X dX2_widest_67 rfl 2 rfl ?_
        refine gfX2_36 X k0 dX2_widest_68 ?_
        refine gfX2_79 X (kd_X2_9 hG k0) dX2_widest_71 (fun r_8 => ?_)
        refine xt_isw (lv2 := [(6, iV (M_2 (v0 + 8) 0)), (5, iV (M_2 (v0 + 8) 3)), (4, iV (0)), (0, rV (v0)), (1, rV (v1)), (2, iV (v2)), (3, iV (v3))]) X dX2_widest_74 (by decide) rfl ?_
        obtain ⟨n_16, h⟩ := h
        refine xt_perm (lv2 := [(0, rV (v0)), (3, iV (v3)), (4, iV (0)), (5, iV (M_2 (v0 + 8) 3)), (6, iV (M_2 (v0 + 8) 0))]) [3, 6, 2, 1, 0] rfl ?_
        refine wX2_widest_76 X k0 r3 (i_rc 0 rfl) r_7  n_16 (M_2 (v0 + 8) 0) M_2 r_8 h
      · have h := h.2 hc
        refine xt_al X dX2_widest_48 rfl 1 rfl ?_
        refine gfX2_36 X k0 dX2_widest_49 ?_
        refine gfX2_88 X (kd_X2_9 hG k0) dX2_widest_52 (fun r_17 => ?_)
        refine xt_goto (tgt := 65) X dX2_widest_55 (by decide) ?_
        refine xt_isw (lv2 := [(5, iV (M_2 (v0 + 8) 2)), (4, iV (0)), (0, rV (v0)), (1, rV (v1)), (2, iV (v2)), (3, iV (v3))]) X dX2_widest_65 (by decide) rfl ?_
        refine xt_al X dX2_widest_67 rfl 2 rfl ?_
        refine gfX2_36 X k0 dX2_widest_68 ?_
        refine gfX2_79 X (kd_X2_9 hG k0) dX2_widest_71 (fun r_18 => ?_)
        refine xt_isw (lv2 := [(6, iV (M_2 (v0 + 8) 0)), (5, iV (M_2 (v0 + 8) 2)), (4, iV (0)), (0, rV (v0)), (1, rV (v1)), (2, iV (v2)), (3, iV (v3))]) X dX2_widest_74 (by decide) rfl ?_
        obtain ⟨n_19, h⟩ := h
        refine xt_perm (lv2 := [(0, rV (v0)), (3, iV (v3)), (4, iV (0)), (5, iV (M_2 (v0 + 8) 2)), (6, iV (M_2 (v0 + 8) 0))]) [3, 6, 2, 1, 0] rfl ?_
        refine wX2_widest_76 X k0 r3 (i_rc 0 rfl) r_17  n_19 (M_2 (v0 + 8) 0) M_2 r_18 h
    · have h := h.1 hc
      refine xt_ic X dX2_widest_36 ?_
      refine xt_goto (tgt := 41) X dX2_widest_37 (by decide) ?_
      refine xt_isw (lv2 := [(4, iV (1)), (0, rV (v0)), (1, rV (v1)), (2, iV (v2)), (3, iV (v3))]) X dX2_widest_41 (by decide) rfl ?_
      refine xt_ilw X dX2_widest_43 0 rfl ?_
      refine xt_zeq (tgt := 58) X (i_rc 1 rfl) dX2_widest_45 (by decide) (fun hc => ?_) (fun hc => ?_)
      · have h := h.1 hc
        refine xt_al X dX2_widest_58 rfl 1 rfl ?_
        refine gfX2_36 X k0 dX2_widest_59 ?_
        refine gfX2_108 X (kd_X2_9 hG k0) dX2_widest_62 (fun r_20 => ?_)
        refine xt_isw (lv2 := [(5, iV (M_2 (v0 + 8) 3)), (4, iV (1)), (0, rV (v0)), (1, rV (v1)), (2, iV (v2)), (3, iV (v3))]) X dX2_widest_65 (by decide) rfl ?_
        refine xt_al X dX2_widest_67 rfl 2 rfl ?_
        refine gfX2_36 X k0 dX2_widest_68 ?_
        refine gfX2_79 X (kd_X2_9 hG k0) dX2_widest_71 (fun r_21 => ?_)
        refine xt_isw (lv2 := [(6, iV (M_2 (v0 + 8) 0)), (5, iV (M_2 (v0 + 8) 3)), (4, iV (1)), (0, rV (v0)), (1, rV (v1)), (2, iV (v2)), (3, iV (v3))]) X dX2_widest_74 (by decide) rfl ?_
        obtain ⟨n_22, h⟩ := h
        refine xt_perm (lv2 := [(0, rV (v0)), (3, iV (v3)), (4, iV (1)), (5, iV (M_2 (v0 + 8) 3)), (6, iV (M_2 (v0 + 8) 0))]) [3, 6, 2, 1, 0] rfl ?_
        refine wX2_widest_76 X k0 r3 (i_rc 1 rfl) r_20  n_22 (M_2 (v0 + 8) 0) M_2 r_21 h
      · have h := h.2 hc
        refine xt_al X dX2_widest_48 rfl 1 rfl ?_
        refine gfX2_36 X k0 dX2_widest_49 ?_
        refine gfX2_88 X (kd_X2_9 hG k0) dX2_widest_52 (fun r_23 => ?_)
        refine xt_goto (tgt := 65) X dX2_widest_55 (by decide) ?_
        refine xt_isw (lv2 := [(5, iV (M_2 (v0 + 8) 2)), (4, iV (1)), (0, rV (v0)), (1, rV (v1)), (2, iV (v2)), (3, iV (v3))]) X dX2_widest_65 (by decide) rfl ?_
        refine xt_al X dX2_widest_67 rfl 2 rfl ?_
        refine gfX2_36 X k0 dX2_widest_68 ?_
        refine gfX2_79 X (kd_X2_9 hG k0) dX2_widest_71 (fun r_24 => ?_)
        refine xt_isw (lv2 := [(6, iV (M_2 (v0 + 8) 0)), (5, iV (M_2 (v0 + 8) 2)), (4, iV (1)), (0, rV (v0)), (1, rV (v1)), (2, iV (v2)), (3, iV (v3))]) X dX2_widest_74 (by decide) rfl ?_
        obtain ⟨n_25, h⟩ := h
        refine xt_perm (lv2 := [(0, rV (v0)), (3, iV (v3)), (4, iV (1)), (5, iV (M_2 (v0 + 8) 2)), (6, iV (M_2 (v0 + 8) 0))]) [3, 6, 2, 1, 0] rfl ?_
        refine wX2_widest_76 X k0 r3 (i_rc 1 rfl) r_23  n_25 (M_2 (v0 + 8) 0) M_2 r_24 h
  · have h := h.2 hc
    refine xt_bi X dX2_widest_23 (by decide) ?_
    exact xt_iret X (i_rc (-9) rfl) h dX2_widest_25
abbrev rmX2_saves : Room := { frames := 2, cells := 0, slots := 0, locals := 71 }
def PX2_saves (v0 : Int) (v1 : Int) (v2 : Int) (v3 : Int) (M : Mm) (Q : Int → Mm → Prop) : Prop :=
  ((0 ≤ ((v2 * 24) + v3) ∧ ((v2 * 24) + v3) < 288) ∧
  (((M (v0 + 5) ((v2 * 24) + v3)) = 0 → Q 0 M) ∧
  (¬ (M (v0 + 5) ((v2 * 24) + v3)) = 0 → (PX2_measure v0 v1 v2 v3 v2 M (fun M_4 =>
  ((0 ≤ ((v2 * 24) + v3) ∧ ((v2 * 24) + v3) < 288) ∧
  (inR (((M_4 (v0 + 6) ((v2 * 24) + v3)) - (M_4 (v0 + 8) 4)) * (((M_4 (v0 + 8) 1) - (M_4 (v0 + 8) 0)) + 1)) ∧
  Q (((M_4 (v0 + 6) ((v2 * 24) + v3)) - (M_4 (v0 + 8) 4)) * (((M_4 (v0 + 8) 1) - (M_4 (v0 + 8) 0)) + 1)) M_4)))))))
set_option maxHeartbeats 4000000 in
set_option maxRecDepth 100000 in
theorem ctX2_saves {l : Launch} {G : GG} (hG : Gd G) {v0 : Int} {v1 : Int} {v2 : Int} {v3 : Int} {M : Mm} {Q : Int → Mm → Prop} (k0 : gK G v0 = (2, 0)) (k1 : gK G v1 = (3, 0)) (r2 : inR v2) (r3 : inR v3) (h : PX2_saves v0 v1 v2 v3 M Q) : Met l yX2_saves (Cond.code yX2_saves cX2_saves 5 ((some FieldType.int)) :: tw) rmX2_saves (Pre G M [rV (v0), rV (v1), iV (v2), iV (v3)]) (PostI G Q) 0 0 (gA G) := by
  refine met_of (own := RX2) (by decide) rfl hG (Nat.le_of_ble_eq_true rfl) (fun p e s m below meth c X => ?_)
  generalize hargs : ([rV (v0), rV (v1), iV (v2), iV (v3)] : List Value).toArray = args at X ⊢
  show Wt p l e rmX2_saves s m args below meth c G (MQ below (PostI G Q) args s 0 0 (gA G)) 5 M [(0, rV (v0)), (1, rV (v1)), (2, iV (v2)), (3, iV (v3))] 0 []
  unfold PX2_saves at h
  refine xt_il X dX2_saves_0 rfl 2 rfl ?_
  refine xt_bi X dX2_saves_1 (by decide) ?_
  refine xt_mul X dX2_saves_3 ?_
  refine xt_il X dX2_saves_4 rfl 3 rfl ?_
  refine xt_add X dX2_saves_5 ?_
  refine xt_isw (lv2 := [(4, iV ((v2 * 24) + v3)), (0, rV (v0)), (1, rV (v1)), (2, iV (v2)), (3, iV (v3))]) X dX2_saves_6 (by decide) rfl ?_
  refine xt_al X dX2_saves_8 rfl 1 rfl ?_
  refine gfX2_24 X k0 dX2_saves_9 ?_
  refine xt_ilw X dX2_saves_12 0 rfl ?_
  obtain ⟨g_1, h⟩ := h
  refine xt_iald X (kd_X2_5 hG k0) g_1 (by decide) dX2_saves_14 (fun r_2 => ?_)
  refine xt_zne (tgt := 20) X r_2 dX2_saves_15 (by decide) (fun hc => ?_) (fun hc => ?_)
  · have h := h.2 hc
    refine xt_al X dX2_saves_20 rfl 1 rfl ?_
    refine xt_al X dX2_saves_21 rfl 2 rfl ?_
    refine xt_il X dX2_saves_22 rfl 3 rfl ?_
    refine xt_il X dX2_saves_23 rfl 4 rfl ?_
    refine xt_il X dX2_saves_24 rfl 3 rfl ?_
    refine xt_cVV X [rV (v1), iV (v2), iV (v3), iV (v2)] [] (ctX2_measure hG k0 k1 r2 r3 r2 h) gdX2_63 pdX2_measure ⟨rfl, rfl⟩ ⟨Nat.le_of_ble_eq_true rfl, Nat.le_of_ble_eq_true rfl⟩ rfl (k_lt k0 (by decide)) (by rw [k0]; rfl) rfl (Nat.le_of_ble_eq_true rfl) dX2_saves_25 (fun M_4 h => ?_)
    refine xt_al X dX2_saves_28 rfl 1 rfl ?_
    refine gfX2_27 X k0 dX2_saves_29 ?_
    refine xt_ilw X dX2_saves_32 0 rfl ?_
    obtain ⟨g_5, h⟩ := h
    refine xt_iald X (kd_X2_6 hG k0) g_5 (by decide) dX2_saves_34 (fun r_6 => ?_)
    refine xt_al X dX2_saves_35 rfl 1 rfl ?_
    refine gfX2_36 X k0 dX2_saves_36 ?_
    refine gfX2_85 X (kd_X2_9 hG k0) dX2_saves_39 (fun r_7 => ?_)
    refine xt_sub X dX2_saves_42 ?_
    refine xt_al X dX2_saves_43 rfl 1 rfl ?_
    refine gfX2_36 X k0 dX2_saves_44 ?_
    refine gfX2_82 X (kd_X2_9 hG k0) dX2_saves_47 (fun r_8 => ?_)
    refine xt_al X dX2_saves_50 rfl 1 rfl ?_
    refine gfX2_36 X k0 dX2_saves_51 ?_
    refine gfX2_79 X (kd_X2_9 hG k0) dX2_saves_54 (fun r_9 => ?_)
    refine xt_sub X dX2_saves_57 ?_
    refine xt_ic X dX2_saves_58 ?_
    refine xt_add X dX2_saves_59 ?_
    refine xt_mul X dX2_saves_60 ?_
    obtain ⟨g_10, h⟩ := h
    exact xt_iret X g_10 h dX2_saves_61
  · have h := h.1 hc
    refine xt_ic X dX2_saves_18 ?_
    exact xt_iret X (i_rc 0 rfl) h dX2_saves_19
abbrev rmX2_cellAt : Room := { frames := 0, cells := 0, slots := 0, locals := 0 }
def BX2_cellAt_2  (Q : Int → Mm → Prop) (v0 : Int) (v1 : Int) (v2 : Int) (rec : Int → Mm → Prop) (v3 : Int) (M : Mm) : Prop :=
  ((0 ≤ v1 ∧ v1 < 12) ∧
  (inR (v3 + 1) ∧
  (((M (v0 + 1) v1) ≤ (v3 + 1) → Q v3 M) ∧
  (¬ (M (v0 + 1) v1) ≤ (v3 + 1) → ((0 ≤ (((v1 * 24) + v3) + 1) ∧ (((v1 * 24) + v3) + 1) < 288) ∧
  ((v2 < (M (v0 + 7) (((v1 * 24) + v3) + 1)) → Q v3 M) ∧
  (¬ v2 < (M (v0 + 7) (((v1 * 24) + v3) + 1)) → (inR (v3 + 1) ∧
  rec (v3 + 1) M))))))))
def PX2_cellAt (v0 : Int) (v1 : Int) (v2 : Int) (M : Mm) (Q : Int → Mm → Prop) : Prop :=
  ∃ n_7 : Nat, lp_I (BX2_cellAt_2  Q v0 v1 v2) n_7 0 M
set_option maxHeartbeats 4000000 in
set_option maxRecDepth 100000 in
theorem wX2_cellAt_2 {p : Program} {l : Launch} {e : Env} {s : State} {m : MethodId} {args : Array Value} {below : List Frame} {meth : Method} {c : Code} {G : GG} (X : Cx p s m args meth c cX2_cellAt 4 ((some FieldType.int)) RX2 G) {Q : Int → Mm → Prop}  {v0 : Int} {v1 : Int} {v2 : Int} (k0 : gK G v0 = (2, 0)) (r1 : inR v1) (r2 : inR v2)  : ∀ (n : Nat) (v3 : Int) (M : Mm), inR v3 → lp_I (BX2_cellAt_2  Q v0 v1 v2) n v3 M → Wt p l e rmX2_cellAt s m args below meth c G (MQ below (PostI G Q) args s 0 0 (gA G)) 4 M [(0, rV (v0)), (1, iV (v1)), (2, iV (v2)), (3, iV (v3))] 2 [] := by
  have hG := X.2.2.2.2.2.2.2.2
  intro n
  induction n with
  | zero => intro v3 M r3 h; exact h.elim
  | succ n ih =>
    intro v3 M r3 h
    have h : BX2_cellAt_2  Q v0 v1 v2 (lp_I (BX2_cellAt_2  Q v0 v1 v2) n) v3 M := h
    unfold BX2_cellAt_2 at h
    refine xt_il X dX2_cellAt_2 rfl 3 rfl ?_
    refine xt_ic X dX2_cellAt_3 ?_
    refine xt_add X dX2_cellAt_4 ?_
    refine xt_al X dX2_cellAt_5 rfl 0 rfl ?_
    refine gfX2_9 X k0 dX2_cellAt_6 ?_
    refine xt_il X dX2_cellAt_9 rfl 1 rfl ?_
    obtain ⟨g_1, h⟩ := h
    refine xt_iald X (kd_X2_1 hG k0) g_1 (by decide) dX2_cellAt_10 (fun r_2 => ?_)
    obtain ⟨g_3, h⟩ := h
    refine xt_cge (tgt := 37) X g_3 r_2 dX2_cellAt_11 (by decide) (fun hc => ?_) (fun hc => ?_)
    · have h := h.1 hc
      refine xt_il X dX2_cellAt_37 rfl 3 rfl ?_
      exact xt_iret X r3 h dX2_cellAt_38
    · have h := h.2 hc
      refine xt_al X dX2_cellAt_14 rfl 0 rfl ?_
      refine gfX2_30 X k0 dX2_cellAt_15 ?_
      refine xt_il X dX2_cellAt_18 rfl 1 rfl ?_
      refine xt_bi X dX2_cellAt_19 (by decide) ?_
      refine xt_mul X dX2_cellAt_21 ?_
      refine xt_il X dX2_cellAt_22 rfl 3 rfl ?_
      refine xt_add X dX2_cellAt_23 ?_
      refine xt_ic X dX2_cellAt_24 ?_
      refine xt_add X dX2_cellAt_25 ?_
      obtain ⟨g_4, h⟩ := h
      refine xt_iald X (kd_X2_7 hG k0) g_4 (by decide) dX2_cellAt_26 (fun r_5 => ?_)
      refine xt_il X dX2_cellAt_27 rfl 2 rfl ?_
      refine xt_cgt (tgt := 37) X r_5 r2 dX2_cellAt_28 (by decide) (fun hc => ?_) (fun hc => ?_)
      · have h := h.1 hc
        refine xt_il X dX2_cellAt_37 rfl 3 rfl ?_
        exact xt_iret X r3 h dX2_cellAt_38
      · have h := h.2 hc
        refine xt_inc (lv2 := [(3, iV (v3 + 1)), (0, rV (v0)), (1, iV (v1)), (2, iV (v2))]) X dX2_cellAt_31 3 rfl (by decide) rfl ?_
        refine xt_goto (tgt := 2) X dX2_cellAt_34 (by decide) ?_
        obtain ⟨g_6, h⟩ := h
        refine xt_perm (lv2 := [(0, rV (v0)), (1, iV (v1)), (2, iV (v2)), (3, iV (v3 + 1))]) [1, 2, 3, 0] rfl ?_
        exact ih (v3 + 1) M g_6 h
set_option maxHeartbeats 4000000 in
set_option maxRecDepth 100000 in
theorem ctX2_cellAt {l : Launch} {G : GG} (hG : Gd G) {v0 : Int} {v1 : Int} {v2 : Int} {M : Mm} {Q : Int → Mm → Prop} (k0 : gK G v0 = (2, 0)) (r1 : inR v1) (r2 : inR v2) (h : PX2_cellAt v0 v1 v2 M Q) : Met l yX2_cellAt (Cond.code yX2_cellAt cX2_cellAt 4 ((some FieldType.int)) :: tw) rmX2_cellAt (Pre G M [rV (v0), iV (v1), iV (v2)]) (PostI G Q) 0 0 (gA G) := by
  refine met_of (own := RX2) (by decide) rfl hG (Nat.le_of_ble_eq_true rfl) (fun p e s m below meth c X => ?_)
  generalize hargs : ([rV (v0), iV (v1), iV (v2)] : List Value).toArray = args at X ⊢
  show Wt p l e rmX2_cellAt s m args below meth c G (MQ below (PostI G Q) args s 0 0 (gA G)) 4 M [(0, rV (v0)), (1, iV (v1)), (2, iV (v2))] 0 []
  unfold PX2_cellAt at h
  refine xt_ic X dX2_cellAt_0 ?_
  refine xt_is (lv2 := [(3, iV (0)), (0, rV (v0)), (1, iV (v1)), (2, iV (v2))]) X dX2_cellAt_1 rfl (by decide) rfl ?_
  obtain ⟨n_7, h⟩ := h
  refine xt_perm (lv2 := [(0, rV (v0)), (1, iV (v1)), (2, iV (v2)), (3, iV (0))]) [1, 2, 3, 0] rfl ?_
  refine wX2_cellAt_2 X k0 r1 r2  n_7 0 M (i_rc 0 rfl) h
abbrev rmX2_leadOf : Room := { frames := 0, cells := 0, slots := 0, locals := 0 }
def PX2_leadOf (v0 : Int) (v1 : Int) (v2 : Int) (v3 : Int) (M : Mm) (Q : Int → Mm → Prop) : Prop :=
  ((0 ≤ v2 ∧ v2 < 288) ∧
  ((0 ≤ v2 ∧ v2 < 288) ∧
  (((v3 < 1 ∨ 3 < v3) → Q 0 M) ∧
  (v3 = 1 → (inR (((M (v0 + 6) v2) - (M v1 1)) - (M (v0 + 5) v2)) ∧
  Q (((M (v0 + 6) v2) - (M v1 1)) - (M (v0 + 5) v2)) M)) ∧
  (v3 = 2 → ((0 ≤ (((M (v0 + 6) v2) - (M v1 1)) - (M (v0 + 5) v2)) ∧ (((M (v0 + 6) v2) - (M v1 1)) - (M (v0 + 5) v2)) < 2147483648) ∧
  (inR ((((M (v0 + 6) v2) - (M v1 1)) - (M (v0 + 5) v2)) / 2) ∧
  Q ((((M (v0 + 6) v2) - (M v1 1)) - (M (v0 + 5) v2)) / 2) M))) ∧
  (v3 = 3 → ((0 ≤ v2 ∧ v2 < 288) ∧
  ((0 ≤ v2 ∧ v2 < 288) ∧
  (inR ((M (v0 + 11) v2) - (M (v0 + 10) v2)) ∧
  Q ((M (v0 + 11) v2) - (M (v0 + 10) v2)) M)))))))
set_option maxHeartbeats 4000000 in
set_option maxRecDepth 100000 in
theorem ctX2_leadOf {l : Launch} {G : GG} (hG : Gd G) {v0 : Int} {v1 : Int} {v2 : Int} {v3 : Int} {M : Mm} {Q : Int → Mm → Prop} (k0 : gK G v0 = (2, 0)) (k1 : gK G v1 = (3, 0)) (r2 : inR v2) (r3 : inR v3) (h : PX2_leadOf v0 v1 v2 v3 M Q) : Met l yX2_leadOf (Cond.code yX2_leadOf cX2_leadOf 5 ((some FieldType.int)) :: tw) rmX2_leadOf (Pre G M [rV (v0), rV (v1), iV (v2), iV (v3)]) (PostI G Q) 0 0 (gA G) := by
  refine met_of (own := RX2) (by decide) rfl hG (Nat.le_of_ble_eq_true rfl) (fun p e s m below meth c X => ?_)
  generalize hargs : ([rV (v0), rV (v1), iV (v2), iV (v3)] : List Value).toArray = args at X ⊢
  show Wt p l e rmX2_leadOf s m args below meth c G (MQ below (PostI G Q) args s 0 0 (gA G)) 5 M [(0, rV (v0)), (1, rV (v1)), (2, iV (v2)), (3, iV (v3))] 0 []
  unfold PX2_leadOf at h
  refine xt_al X dX2_leadOf_0 rfl 0 rfl ?_
  refine gfX2_27 X k0 dX2_leadOf_1 ?_
  refine xt_il X dX2_leadOf_4 rfl 2 rfl ?_
  obtain ⟨g_1, h⟩ := h
  refine xt_iald X (kd_X2_6 hG k0) g_1 (by decide) dX2_leadOf_5 (fun r_2 => ?_)
  refine xt_al X dX2_leadOf_6 rfl 1 rfl ?_
  refine gfX2_114 X k1 dX2_leadOf_7 (fun r_3 => ?_)
  refine xt_sub X dX2_leadOf_10 ?_
  refine xt_al X dX2_leadOf_11 rfl 0 rfl ?_
  refine gfX2_24 X k0 dX2_leadOf_12 ?_
  refine xt_il X dX2_leadOf_15 rfl 2 rfl ?_
  obtain ⟨g_4, h⟩ := h
  refine xt_iald X (kd_X2_5 hG k0) g_4 (by decide) dX2_leadOf_16 (fun r_5 => ?_)
  refine xt_sub X dX2_leadOf_17 ?_
  refine xt_isw (lv2 := [(4, iV (((M (v0 + 6) v2) - (M v1 1)) - (M (v0 + 5) v2))), (0, rV (v0)), (1, rV (v1)), (2, iV (v2)), (3, iV (v3))]) X dX2_leadOf_18 (by decide) rfl ?_
  refine xt_il X dX2_leadOf_20 rfl 4 rfl ?_
  rcases (show (v3 < 1 ∨ 3 < v3) ∨ v3 = 1 ∨ v3 = 2 ∨ v3 = 3 by omega) with hc | hc | hc | hc
  · have h := h.1 hc
    refine xt_tout (tgt := 70) X r3 dX2_leadOf_21 hc (by decide) ?_
    refine xt_ic X dX2_leadOf_70 ?_
    exact xt_iret X (i_rc 0 rfl) h dX2_leadOf_71
  · have h := h.2.1 hc
    refine xt_tin (tgt := 48) X r3 dX2_leadOf_21 1 hc (by decide) (by decide) rfl (by decide) ?_
    refine xt_ilw X dX2_leadOf_48 0 rfl ?_
    obtain ⟨g_6, h⟩ := h
    exact xt_iret X g_6 h dX2_leadOf_50
  · have h := h.2.2.1 hc
    refine xt_tin (tgt := 51) X r3 dX2_leadOf_21 2 hc (by decide) (by decide) rfl (by decide) ?_
    refine xt_ilw X dX2_leadOf_51 0 rfl ?_
    refine xt_ic X dX2_leadOf_53 ?_
    obtain ⟨g_7, h⟩ := h
    refine xt_div X g_7 (by decide) dX2_leadOf_54 ?_
    obtain ⟨g_8, h⟩ := h
    exact xt_iret X g_8 h dX2_leadOf_55
  · have h := h.2.2.2 hc
    refine xt_tin (tgt := 56) X r3 dX2_leadOf_21 3 hc (by decide) (by decide) rfl (by decide) ?_
    refine xt_al X dX2_leadOf_56 rfl 1 rfl ?_
    refine gfX2_46 X k0 dX2_leadOf_57 ?_
    refine xt_il X dX2_leadOf_60 rfl 3 rfl ?_
    obtain ⟨g_9, h⟩ := h
    refine xt_iald X (kd_X2_12 hG k0) g_9 (by decide) dX2_leadOf_61 (fun r_10 => ?_)
    refine xt_al X dX2_leadOf_62 rfl 1 rfl ?_
    refine gfX2_43 X k0 dX2_leadOf_63 ?_
    refine xt_il X dX2_leadOf_66 rfl 3 rfl ?_
    obtain ⟨g_11, h⟩ := h
    refine xt_iald X (kd_X2_11 hG k0) g_11 (by decide) dX2_leadOf_67 (fun r_12 => ?_)
    refine xt_sub X dX2_leadOf_68 ?_
    obtain ⟨g_13, h⟩ := h
    exact xt_iret X g_13 h dX2_leadOf_69
abbrev rmX2_shownInCell : Room := { frames := 1, cells := 0, slots := 0, locals := 24 }
def JX2_shownInCell_61  (Q : Int → Mm → Prop)  (M : Mm) : Prop :=
  Q 32 M
def PX2_shownInCell (v0 : Int) (v1 : Int) (v2 : Int) (v3 : Int) (v4 : Int) (M : Mm) (Q : Int → Mm → Prop) : Prop :=
  ((0 ≤ v3 ∧ v3 < 24) ∧
  (inR ((v2 * 24) + v3) ∧
  (PX2_leadOf v0 v1 ((v2 * 24) + v3) (M (v1 + 3) v3) M (fun z_4 M_5 =>
  (inR (v4 - z_4) ∧
  (((v4 - z_4) < 0 → JX2_shownInCell_61  Q M_5) ∧
  (¬ (v4 - z_4) < 0 → ((0 ≤ ((v2 * 24) + v3) ∧ ((v2 * 24) + v3) < 288) ∧
  (((M_5 (v0 + 5) ((v2 * 24) + v3)) ≤ (v4 - z_4) → JX2_shownInCell_61  Q M_5) ∧
  (¬ (M_5 (v0 + 5) ((v2 * 24) + v3)) ≤ (v4 - z_4) → ((0 ≤ ((v2 * 24) + v3) ∧ ((v2 * 24) + v3) < 288) ∧
  (inR ((M_5 (v0 + 9) ((v2 * 24) + v3)) + (v4 - z_4)) ∧
  (PX3_signAt v1 v2 ((M_5 (v0 + 9) ((v2 * 24) + v3)) + (v4 - z_4)) M_5 (fun z_12 M_13 =>
  Q z_12 M_13))))))))))))))
set_option maxHeartbeats 4000000 in
set_option maxRecDepth 100000 in
theorem jX2_shownInCell_61 {p : Program} {l : Launch} {e : Env} {s : State} {m : MethodId} {args : Array Value} {below : List Frame} {meth : Method} {c : Code} {G : GG} (X : Cx p s m args meth c cX2_shownInCell 7 ((some FieldType.int)) RX2 G) {Q : Int → Mm → Prop}     {M : Mm} (h : JX2_shownInCell_61  Q  M) : Wt p l e rmX2_shownInCell s m args below meth c G (MQ below (PostI G Q) args s 0 0 (gA G)) 7 M [] 61 [] := by
  have hG := X.2.2.2.2.2.2.2.2
  unfold JX2_shownInCell_61 at h
  refine xt_bi X dX2_shownInCell_61 (by decide) ?_
  exact xt_iret X (i_rc 32 rfl) h dX2_shownInCell_63
set_option maxHeartbeats 4000000 in
set_option maxRecDepth 100000 in
theorem ctX2_shownInCell {l : Launch} {G : GG} (hG : Gd G) {v0 : Int} {v1 : Int} {v2 : Int} {v3 : Int} {v4 : Int} {M : Mm} {Q : Int → Mm → Prop} (k0 : gK G v0 = (2, 0)) (k1 : gK G v1 = (3, 0)) (r2 : inR v2) (r3 : inR v3) (r4 : inR v4) (h : PX2_shownInCell v0 v1 v2 v3 v4 M Q) : Met l yX2_shownInCell (Cond.code yX2_shownInCell cX2_shownInCell 7 ((some FieldType.int)) :: tw) rmX2_shownInCell (Pre G M [rV (v0), rV (v1), iV (v2), iV (v3), iV (v4)]) (PostI G Q) 0 0 (gA G) := by
  refine met_of (own := RX2) (by decide) rfl hG (Nat.le_of_ble_eq_true rfl) (fun p e s m below meth c X => ?_)
  generalize hargs : ([rV (v0), rV (v1), iV (v2), iV (v3), iV (v4)] : List Value).toArray = args at X ⊢
  show Wt p l e rmX2_shownInCell s m args below meth c G (MQ below (PostI G Q) args s 0 0 (gA G)) 7 M [(0, rV (v0)), (1, rV (v1)), (2, iV (v2)), (3, iV (v3)), (4, iV (v4))] 0 []
  unfold PX2_shownInCell at h
  refine xt_il X dX2_shownInCell_0 rfl 2 rfl ?_
  refine xt_bi X dX2_shownInCell_1 (by decide) ?_
  refine xt_mul X dX2_shownInCell_3 ?_
  refine xt_il X dX2_shownInCell_4 rfl 3 rfl ?_
  refine xt_add X dX2_shownInCell_5 ?_
  refine xt_isw (lv2 := [(5, iV ((v2 * 24) + v3)), (0, rV (v0)), (1, rV (v1)), (2, iV (v2)), (3, iV (v3)), (4, iV (v4))]) X dX2_shownInCell_6 (by decide) rfl ?_
  refine xt_ilw X dX2_shownInCell_8 5 rfl ?_
  refine xt_al X dX2_shownInCell_10 rfl 1 rfl ?_
  refine xt_al X dX2_shownInCell_11 rfl 2 rfl ?_
  refine xt_ilw X dX2_shownInCell_12 0 rfl ?_
  refine xt_al X dX2_shownInCell_14 rfl 2 rfl ?_
  refine gfX2_105 X k1 dX2_shownInCell_15 ?_
  refine xt_il X dX2_shownInCell_18 rfl 4 rfl ?_
  obtain ⟨g_1, h⟩ := h
  refine xt_iald X (kd_X3_5 hG k1) g_1 (by decide) dX2_shownInCell_19 (fun r_2 => ?_)
  obtain ⟨g_3, h⟩ := h
  refine xt_cVI X [rV (v1), iV ((v2 * 24) + v3), iV (M (v1 + 3) v3)] [iV (v4)] (ctX2_leadOf hG k0 k1 g_3 r_2 h) gdX2_117 pdX2_leadOf ⟨rfl, rfl⟩ ⟨Nat.le_of_ble_eq_true rfl, Nat.le_of_ble_eq_true rfl⟩ rfl (k_lt k0 (by decide)) (by rw [k0]; rfl) rfl (Nat.le_of_ble_eq_true rfl) dX2_shownInCell_20 (fun z_4 M_5 z_4r h => ?_)
  refine xt_sub X dX2_shownInCell_23 ?_
  refine xt_isw (lv2 := [(6, iV (v4 - z_4)), (5, iV ((v2 * 24) + v3)), (0, rV (v0)), (1, rV (v1)), (2, iV (v2)), (3, iV (v3)), (4, iV (v4))]) X dX2_shownInCell_24 (by decide) rfl ?_
  refine xt_ilw X dX2_shownInCell_26 0 rfl ?_
  obtain ⟨g_6, h⟩ := h
  refine xt_zlt (tgt := 61) X g_6 dX2_shownInCell_28 (by decide) (fun hc => ?_) (fun hc => ?_)
  · have h := h.1 hc
    refine xt_perm (lv2 := []) [] rfl ?_
    exact jX2_shownInCell_61 X   h
  · have h := h.2 hc
    refine xt_ilw X dX2_shownInCell_31 0 rfl ?_
    refine xt_al X dX2_shownInCell_33 rfl 2 rfl ?_
    refine gfX2_24 X k0 dX2_shownInCell_34 ?_
    refine xt_ilw X dX2_shownInCell_37 1 rfl ?_
    obtain ⟨g_7, h⟩ := h
    refine xt_iald X (kd_X2_5 hG k0) g_7 (by decide) dX2_shownInCell_39 (fun r_8 => ?_)
    refine xt_cge (tgt := 61) X g_6 r_8 dX2_shownInCell_40 (by decide) (fun hc => ?_) (fun hc => ?_)
    · have h := h.1 hc
      refine xt_perm (lv2 := []) [] rfl ?_
      exact jX2_shownInCell_61 X   h
    · have h := h.2 hc
      refine xt_al X dX2_shownInCell_43 rfl 3 rfl ?_
      refine xt_il X dX2_shownInCell_44 rfl 4 rfl ?_
      refine xt_al X dX2_shownInCell_45 rfl 2 rfl ?_
      refine gfX2_40 X k0 dX2_shownInCell_46 ?_
      refine xt_ilw X dX2_shownInCell_49 1 rfl ?_
      obtain ⟨g_9, h⟩ := h
      refine xt_iald X (kd_X2_10 hG k0) g_9 (by decide) dX2_shownInCell_51 (fun r_10 => ?_)
      refine xt_ilw X dX2_shownInCell_52 0 rfl ?_
      refine xt_add X dX2_shownInCell_54 ?_
      obtain ⟨g_11, h⟩ := h
      refine xt_cVI X [iV (v2), iV ((M_5 (v0 + 9) ((v2 * 24) + v3)) + (v4 - z_4))] [] (ctX3_signAt hG k1 r2 g_11 h) gdX2_75 pdX3_signAt ⟨rfl, rfl⟩ ⟨Nat.le_of_ble_eq_true rfl, Nat.le_of_ble_eq_true rfl⟩ rfl (k_lt k1 (by decide)) (by rw [k1]; rfl) rfl (Nat.le_of_ble_eq_true rfl) dX2_shownInCell_55 (fun z_12 M_13 z_12r h => ?_)
      refine xt_goto (tgt := 63) X dX2_shownInCell_58 (by decide) ?_
      exact xt_iret X z_12r h dX2_shownInCell_63
abbrev rmX2_widestLine : Room := { frames := 1, cells := 0, slots := 0, locals := 40 }
def BX2_widestLine_4  (Q : Int → Mm → Prop) (v0 : Int) (rec : Int → Int → Mm → Prop) (v1 : Int) (v2 : Int) (M : Mm) : Prop :=
  (((M v0 8) ≤ v2 → Q v1 M) ∧
  (¬ (M v0 8) ≤ v2 → ((0 ≤ v2 ∧ v2 < 12) ∧
  (inR (v2 + 1) ∧
  rec (max v1 (M (v0 + 4) v2)) (v2 + 1) M))))
def PX2_widestLine (v0 : Int) (M : Mm) (Q : Int → Mm → Prop) : Prop :=
  ∃ n_5 : Nat, lp_II (BX2_widestLine_4  Q v0) n_5 0 0 M
set_option maxHeartbeats 4000000 in
set_option maxRecDepth 100000 in
theorem wX2_widestLine_4 {p : Program} {l : Launch} {e : Env} {s : State} {m : MethodId} {args : Array Value} {below : List Frame} {meth : Method} {c : Code} {G : GG} (X : Cx p s m args meth c cX2_widestLine 3 ((some FieldType.int)) RX2 G) {Q : Int → Mm → Prop}  {v0 : Int} (k0 : gK G v0 = (2, 0))  : ∀ (n : Nat) (v1 : Int) (v2 : Int) (M : Mm), inR v1 → inR v2 → lp_II (BX2_widestLine_4  Q v0) n v1 v2 M → Wt p l e rmX2_widestLine s m args below meth c G (MQ below (PostI G Q) args s 0 0 (gA G)) 3 M [(0, rV (v0)), (1, iV (v1)), (2, iV (v2))] 4 [] := by
  have hG := X.2.2.2.2.2.2.2.2
  intro n
  induction n with
  | zero => intro v1 v2 M r1 r2 h; exact h.elim
  | succ n ih =>
    intro v1 v2 M r1 r2 h
    have h : BX2_widestLine_4  Q v0 (lp_II (BX2_widestLine_4  Q v0) n) v1 v2 M := h
    unfold BX2_widestLine_4 at h
    refine xt_il X dX2_widestLine_4 rfl 2 rfl ?_
    refine xt_al X dX2_widestLine_5 rfl 0 rfl ?_
    refine gfX2_55 X k0 dX2_widestLine_6 (fun r_1 => ?_)
    refine xt_cge (tgt := 29) X r2 r_1 dX2_widestLine_9 (by decide) (fun hc => ?_) (fun hc => ?_)
    · have h := h.1 hc
      refine xt_il X dX2_widestLine_29 rfl 1 rfl ?_
      exact xt_iret X r1 h dX2_widestLine_30
    · have h := h.2 hc
      refine xt_il X dX2_widestLine_12 rfl 1 rfl ?_
      refine xt_al X dX2_widestLine_13 rfl 0 rfl ?_
      refine gfX2_21 X k0 dX2_widestLine_14 ?_
      refine xt_il X dX2_widestLine_17 rfl 2 rfl ?_
      obtain ⟨g_2, h⟩ := h
      refine xt_iald X (kd_X2_4 hG k0) g_2 (by decide) dX2_widestLine_18 (fun r_3 => ?_)
      refine xt_max X r1 r_3 mlX2_102 (by decide) (Nat.le_of_ble_eq_true rfl) dX2_widestLine_19 ?_
      refine xt_is (lv2 := [(1, iV (max v1 (M (v0 + 4) v2))), (0, rV (v0)), (2, iV (v2))]) X dX2_widestLine_22 rfl (by decide) rfl ?_
      refine xt_inc (lv2 := [(2, iV (v2 + 1)), (1, iV (max v1 (M (v0 + 4) v2))), (0, rV (v0))]) X dX2_widestLine_23 2 rfl (by decide) rfl ?_
      refine xt_goto (tgt := 4) X dX2_widestLine_26 (by decide) ?_
      obtain ⟨g_4, h⟩ := h
      refine xt_perm (lv2 := [(0, rV (v0)), (1, iV (max v1 (M (v0 + 4) v2))), (2, iV (v2 + 1))]) [2, 1, 0] rfl ?_
      exact ih (max v1 (M (v0 + 4) v2)) (v2 + 1) M (in_max r1 r_3) g_4 h
set_option maxHeartbeats 4000000 in
set_option maxRecDepth 100000 in
theorem ctX2_widestLine {l : Launch} {G : GG} (hG : Gd G) {v0 : Int} {M : Mm} {Q : Int → Mm → Prop} (k0 : gK G v0 = (2, 0)) (h : PX2_widestLine v0 M Q) : Met l yX2_widestLine (Cond.code yX2_widestLine cX2_widestLine 3 ((some FieldType.int)) :: tw) rmX2_widestLine (Pre G M [rV (v0)]) (PostI G Q) 0 0 (gA G) := by
  refine met_of (own := RX2) (by decide) rfl hG (Nat.le_of_ble_eq_true rfl) (fun p e s m below meth c X => ?_)
  generalize hargs : ([rV (v0)] : List Value).toArray = args at X ⊢
  show Wt p l e rmX2_widestLine s m args below meth c G (MQ below (PostI G Q) args s 0 0 (gA G)) 3 M [(0, rV (v0))] 0 []
  unfold PX2_widestLine at h
  refine xt_ic X dX2_widestLine_0 ?_
  refine xt_is (lv2 := [(1, iV (0)), (0, rV (v0))]) X dX2_widestLine_1 rfl (by decide) rfl ?_
  refine xt_ic X dX2_widestLine_2 ?_
  refine xt_is (lv2 := [(2, iV (0)), (1, iV (0)), (0, rV (v0))]) X dX2_widestLine_3 rfl (by decide) rfl ?_
  obtain ⟨n_5, h⟩ := h
  refine xt_perm (lv2 := [(0, rV (v0)), (1, iV (0)), (2, iV (0))]) [2, 1, 0] rfl ?_
  refine wX2_widestLine_4 X k0  n_5 0 0 M (i_rc 0 rfl) (i_rc 0 rfl) h
abbrev rmX2_allTogether : Room := { frames := 0, cells := 0, slots := 0, locals := 0 }
def BX2_allTogether_4  (Q : Int → Mm → Prop) (v0 : Int) (rec : Int → Int → Mm → Prop) (v1 : Int) (v2 : Int) (M : Mm) : Prop :=
  (((M v0 8) ≤ v2 → Q v1 M) ∧
  (¬ (M v0 8) ≤ v2 → ((0 ≤ v2 ∧ v2 < 12) ∧
  (inR (v1 + (M (v0 + 4) v2)) ∧
  (inR (v2 + 1) ∧
  rec (v1 + (M (v0 + 4) v2)) (v2 + 1) M)))))
def PX2_allTogether (v0 : Int) (M : Mm) (Q : Int → Mm → Prop) : Prop :=
  ∃ n_6 : Nat, lp_II (BX2_allTogether_4  Q v0) n_6 0 0 M
set_option maxHeartbeats 4000000 in
set_option maxRecDepth 100000 in
theorem wX2_allTogether_4 {p : Program} {l : Launch} {e : Env} {s : State} {m : MethodId} {args : Array Value} {below : List Frame} {meth : Method} {c : Code} {G : GG} (X : Cx p s m args meth c cX2_allTogether 3 ((some FieldType.int)) RX2 G) {Q : Int → Mm → Prop}  {v0 : Int} (k0 : gK G v0 = (2, 0))  : ∀ (n : Nat) (v1 : Int) (v2 : Int) (M : Mm), inR v1 → inR v2 → lp_II (BX2_allTogether_4  Q v0) n v1 v2 M → Wt p l e rmX2_allTogether s m args below meth c G (MQ below (PostI G Q) args s 0 0 (gA G)) 3 M [(0, rV (v0)), (1, iV (v1)), (2, iV (v2))] 4 [] := by
  have hG := X.2.2.2.2.2.2.2.2
  intro n
  induction n with
  | zero => intro v1 v2 M r1 r2 h; exact h.elim
  | succ n ih =>
    intro v1 v2 M r1 r2 h
    have h : BX2_allTogether_4  Q v0 (lp_II (BX2_allTogether_4  Q v0) n) v1 v2 M := h
    unfold BX2_allTogether_4 at h
    refine xt_il X dX2_allTogether_4 rfl 2 rfl ?_
    refine xt_al X dX2_allTogether_5 rfl 0 rfl ?_
    refine gfX2_55 X k0 dX2_allTogether_6 (fun r_1 => ?_)
    refine xt_cge (tgt := 27) X r2 r_1 dX2_allTogether_9 (by decide) (fun hc => ?_) (fun hc => ?_)
    · have h := h.1 hc
      refine xt_il X dX2_allTogether_27 rfl 1 rfl ?_
      exact xt_iret X r1 h dX2_allTogether_28
    · have h := h.2 hc
      refine xt_il X dX2_allTogether_12 rfl 1 rfl ?_
      refine xt_al X dX2_allTogether_13 rfl 0 rfl ?_
      refine gfX2_21 X k0 dX2_allTogether_14 ?_
      refine xt_il X dX2_allTogether_17 rfl 2 rfl ?_
      obtain ⟨g_2, h⟩ := h
      refine xt_iald X (kd_X2_4 hG k0) g_2 (by decide) dX2_allTogether_18 (fun r_3 => ?_)
      refine xt_add X dX2_allTogether_19 ?_
      refine xt_is (lv2 := [(1, iV (v1 + (M (v0 + 4) v2))), (0, rV (v0)), (2, iV (v2))]) X dX2_allTogether_20 rfl (by decide) rfl ?_
      refine xt_inc (lv2 := [(2, iV (v2 + 1)), (1, iV (v1 + (M (v0 + 4) v2))), (0, rV (v0))]) X dX2_allTogether_21 2 rfl (by decide) rfl ?_
      refine xt_goto (tgt := 4) X dX2_allTogether_24 (by decide) ?_
      obtain ⟨g_4, h⟩ := h
      obtain ⟨g_5, h⟩ := h
      refine xt_perm (lv2 := [(0, rV (v0)), (1, iV (v1 + (M (v0 + 4) v2))), (2, iV (v2 + 1))]) [2, 1, 0] rfl ?_
      exact ih (v1 + (M (v0 + 4) v2)) (v2 + 1) M g_4 g_5 h
set_option maxHeartbeats 4000000 in
set_option maxRecDepth 100000 in
theorem ctX2_allTogether {l : Launch} {G : GG} (hG : Gd G) {v0 : Int} {M : Mm} {Q : Int → Mm → Prop} (k0 : gK G v0 = (2, 0)) (h : PX2_allTogether v0 M Q) : Met l yX2_allTogether (Cond.code yX2_allTogether cX2_allTogether 3 ((some FieldType.int)) :: tw) rmX2_allTogether (Pre G M [rV (v0)]) (PostI G Q) 0 0 (gA G) := by
  refine met_of (own := RX2) (by decide) rfl hG (Nat.le_of_ble_eq_true rfl) (fun p e s m below meth c X => ?_)
  generalize hargs : ([rV (v0)] : List Value).toArray = args at X ⊢
  show Wt p l e rmX2_allTogether s m args below meth c G (MQ below (PostI G Q) args s 0 0 (gA G)) 3 M [(0, rV (v0))] 0 []
  unfold PX2_allTogether at h
  refine xt_ic X dX2_allTogether_0 ?_
  refine xt_is (lv2 := [(1, iV (0)), (0, rV (v0))]) X dX2_allTogether_1 rfl (by decide) rfl ?_
  refine xt_ic X dX2_allTogether_2 ?_
  refine xt_is (lv2 := [(2, iV (0)), (1, iV (0)), (0, rV (v0))]) X dX2_allTogether_3 rfl (by decide) rfl ?_
  obtain ⟨n_6, h⟩ := h
  refine xt_perm (lv2 := [(0, rV (v0)), (1, iV (0)), (2, iV (0))]) [2, 1, 0] rfl ?_
  refine wX2_allTogether_4 X k0  n_6 0 0 M (i_rc 0 rfl) (i_rc 0 rfl) h
