/-! ===== the law's loop, its start, its end ===== -/
section LWALK
variable {p : Program} {l : Launch} {e : Env} {s : State} {m : MethodId} {args : Array Value} {below : List Frame} {meth : Method} {c : Code} {G : GG} {Qf : State → Prop} {M : Mm} {ret : Option FieldType} {b L i : Nat} {x : Int} {xs : Nat → Int32}
set_option maxHeartbeats 4000000 in
theorem lw_body (X : Cx p s m args meth c code 4 ret RL G) (hC : Sc b L xs s G) (k6 : gK G x = (6, 0)) (k7 : gK G (x + 168) = (7, 0)) (hI : Inv x M) (hi : i + 3 < L) (k : ∀ M2 : Mm, Inv x M2 → Wl p l e room_1 s m args below meth c G Qf 4 600000 7302250 M2 (lvL b x i) 558 []) : Wl p l e room_1 s m args below meth c G Qf 4 600000 7302250 M (lvL b x i) 26 [] := by
  refine lx_al X dL_law_26 rfl 3 rfl ?_
  refine lx_il X dL_law_27 rfl 0 rfl ?_
  refine lx_ld X hC rfl (by omega) dL_law_28 ?_
  refine lx_bi X dL_law_29 rfl ?_
  refine lx_and X dL_law_31 ?_
  have hv : inR (iAnd (sv xs i) 31) := i_rg _
  generalize iAnd (sv xs i) 31 = v at hv ⊢
  rcases (show v = 0 ∨ v = 1 ∨ v = 2 ∨ v = 3 ∨ v = 4 ∨ v = 5 ∨ v = 6 ∨ v = 7 ∨ v = 8 ∨ v = 9 ∨ v = 10 ∨ v = 11 ∨ v = 12 ∨ v = 13 ∨ v = 14 ∨ v = 15 ∨ v = 16 ∨ (v < 0 ∨ 16 < v) by omega) with h | h | h | h | h | h | h | h | h | h | h | h | h | h | h | h | h | h
  · exact lx_tin X hv dL_law_32 0 h (by decide) (by decide) (off := 84) rfl (tgt := 116) (by decide) (lc_type X hC k6 k7 hI hi k)
  · exact lx_tin X hv dL_law_32 1 h (by decide) (by decide) (off := 107) rfl (tgt := 139) (by decide) (lc_clear X hC k6 k7 hI hi k)
  · exact lx_tin X hv dL_law_32 2 h (by decide) (by decide) (off := 120) rfl (tgt := 152) (by decide) (lc_run X hC k6 k7 hI hi k)
  · exact lx_tin X hv dL_law_32 3 h (by decide) (by decide) (off := 133) rfl (tgt := 165) (by decide) (lc_put X hC k6 k7 hI hi k)
  · exact lx_tin X hv dL_law_32 4 h (by decide) (by decide) (off := 176) rfl (tgt := 208) (by decide) (lc_cut X hC k6 k7 hI hi k)
  · exact lx_tin X hv dL_law_32 5 h (by decide) (by decide) (off := 209) rfl (tgt := 241) (by decide) (lc_split X hC k6 k7 hI hi k)
  · exact lx_tin X hv dL_law_32 6 h (by decide) (by decide) (off := 242) rfl (tgt := 274) (by decide) (lc_join X hC k6 k7 hI hi k)
  · exact lx_tin X hv dL_law_32 7 h (by decide) (by decide) (off := 265) rfl (tgt := 297) (by decide) (lc_undo X hC k6 k7 hI hi k)
  · exact lx_tin X hv dL_law_32 8 h (by decide) (by decide) (off := 278) rfl (tgt := 310) (by decide) (lc_line X hC k6 k7 hI hi k)
  · exact lx_tin X hv dL_law_32 9 h (by decide) (by decide) (off := 311) rfl (tgt := 343) (by decide) (lc_sign X hC k6 k7 hI hi k)
  · exact lx_tin X hv dL_law_32 10 h (by decide) (by decide) (off := 344) rfl (tgt := 376) (by decide) (lc_cell X hC k6 k7 hI hi k)
  · exact lx_tin X hv dL_law_32 11 h (by decide) (by decide) (off := 387) rfl (tgt := 419) (by decide) (lc_shown X hC k6 k7 hI hi k)
  · exact lx_tin X hv dL_law_32 12 h (by decide) (by decide) (off := 420) rfl (tgt := 452) (by decide) (lc_align X hC k6 k7 hI hi k)
  · exact lx_tin X hv dL_law_32 13 h (by decide) (by decide) (off := 443) rfl (tgt := 475) (by decide) (lc_count X hC k6 k7 hI hi k)
  · exact lx_tin X hv dL_law_32 14 h (by decide) (by decide) (off := 466) rfl (tgt := 498) (by decide) (lc_digest X hC k6 k7 hI hi k)
  · exact lx_tin X hv dL_law_32 15 h (by decide) (by decide) (off := 480) rfl (tgt := 512) (by decide) (lc_keep X hC k6 k7 hI hi k)
  · exact lx_tin X hv dL_law_32 16 h (by decide) (by decide) (off := 503) rfl (tgt := 535) (by decide) (lc_back X hC k6 k7 hI hi k)
  · exact lx_tout X hv dL_law_32 h (tgt := 558) (by decide) (k M hI)
set_option maxHeartbeats 4000000 in
theorem lw_loop (X : Cx p s m args meth c code 4 ret RL G) (hC : Sc b L xs s G) (k6 : gK G x = (6, 0)) (k7 : gK G (x + 168) = (7, 0)) (kE : ∀ (M2 : Mm) (j : Nat), Wl p l e room_1 s m args below meth c G Qf 4 600000 7302250 M2 (lvL b x j) 564 []) : ∀ (n i : Nat) (M : Mm), L < i + n → i ≤ L + 4 → Inv x M → Wl p l e room_1 s m args below meth c G Qf 4 600000 7302250 M (lvL b x i) 18 [] := by
  have hL := hC.2.2.2
  intro n
  induction n with
  | zero =>
    intro i M hn hb hI
    refine lx_il X dL_law_18 rfl 0 rfl ?_
    refine lx_al X dL_law_19 rfl 3 rfl ?_
    refine lx_sl X hC dL_law_20 ?_
    refine lx_ic X dL_law_21 ?_
    refine lx_sub X dL_law_22 ?_
    exact lx_cgt X (by omega) (by omega) dL_law_23 (tgt := 564) (by decide) (fun _ => kE M i) (fun h => absurd (by omega) h)
  | succ n ih =>
    intro i M hn hb hI
    refine lx_il X dL_law_18 rfl 0 rfl ?_
    refine lx_al X dL_law_19 rfl 3 rfl ?_
    refine lx_sl X hC dL_law_20 ?_
    refine lx_ic X dL_law_21 ?_
    refine lx_sub X dL_law_22 ?_
    refine lx_cgt X (by omega) (by omega) dL_law_23 (tgt := 564) (by decide) (fun _ => kE M i) (fun h => ?_)
    refine lw_body X hC k6 k7 hI (by omega) (fun M2 hI2 => ?_)
    refine lx_inc (lv2 := lvL b x (i + 4)) X dL_law_558 0 rfl (by decide) (by show [(3, iV ((i : Int) + 4)), (2, rV (x + 168)), (1, rV x), (0, .ref b)] = [(3, iV ((i + 4 : Nat) : Int)), (2, rV (x + 168)), (1, rV x), (0, .ref b)]; rw [show ((i + 4 : Nat) : Int) = (i : Int) + 4 by omega]) ?_
    refine lx_goto X dL_law_561 (tgt := 18) (by decide) ?_
    exact ih (i + 4) M2 (by omega) (by omega) hI2
end LWALK
theorem hf6 : ∀ j, j < 7 → defaultValue (tyX6 j) = vp_V [.null, .null, .null, .null, .null, .null, .int 0] j := fun j hj => by rcases (show j = 0 ∨ j = 1 ∨ j = 2 ∨ j = 3 ∨ j = 4 ∨ j = 5 ∨ j = 6 by omega) with rfl | rfl | rfl | rfl | rfl | rfl | rfl <;> rfl
theorem hf7 : ∀ j, j < 22 → defaultValue (tyX7 j) = vp_V [.null, .null, .null, .int 0, .int 0, .int 0, .null, .int 0, .null, .int 0, .int 0, .int 0, .int 0, .int 0, .int 0, .int 0, .int 0, .null, .null, .null, .null, .null] j := fun j hj => by rcases (show j = 0 ∨ j = 1 ∨ j = 2 ∨ j = 3 ∨ j = 4 ∨ j = 5 ∨ j = 6 ∨ j = 7 ∨ j = 8 ∨ j = 9 ∨ j = 10 ∨ j = 11 ∨ j = 12 ∨ j = 13 ∨ j = 14 ∨ j = 15 ∨ j = 16 ∨ j = 17 ∨ j = 18 ∨ j = 19 ∨ j = 20 ∨ j = 21 by omega) with rfl | rfl | rfl | rfl | rfl | rfl | rfl | rfl | rfl | rfl | rfl | rfl | rfl | rfl | rfl | rfl | rfl | rfl | rfl | rfl | rfl | rfl <;> rfl
set_option maxHeartbeats 4000000 in
/-- from the entry, for every script of at most 2048 ints, the law comes to its end with true -/
theorem whole_start {p : Program} {e : Env} {s : State} {m : MethodId} {below : List Frame} {meth : Method} {c : Code} (l : Launch) (hflags : l.flags = flags0) {b L : Nat} {xs : Nat → Int32} (hL : L ≤ 2048) (C0 : lw_At p s m meth c b L xs) : W p l e room_1 s m #[Value.ref b] below meth c s.heap [] 0 0 (lw_Z below #[Value.ref b] s) (entryFrame m ([Value.ref b] : List Value).toArray 4) := by
  obtain ⟨dC, dI, cs, S, V, hKn, hAO⟩ := start_kn C0
  obtain ⟨hx, hb, hr, hml, hown, hts, hX, hbl, hlocks, hgv⟩ := id C0
  have hG : Gd (mkG dC dI cs s.heap.size S V) := gd_mk
  have hgB : gB (mkG dC dI cs s.heap.size S V) = s.heap.size := rfl
  have X : Cx p s m #[Value.ref b] meth c code 4 ret RL (mkG dC dI cs s.heap.size S V) := ⟨hx, hb, hml, hown, fun w h => hts w (List.mem_filter.mp h).1, hr, hlocks, hKn, hG⟩
  have hC : Sc b L xs s (mkG dC dI cs s.heap.size S V) := ⟨hX, hbl, Nat.not_le.mpr hbl, hL⟩
  have kat : ∀ d : Nat, gK (mkG dC dI cs s.heap.size S V) ((s.heap.size + d : Nat) : Int) = tk d := fun d => kB_at s.heap.size d
  have k6 : gK (mkG dC dI cs s.heap.size S V) ((s.heap.size : Nat) : Int) = (6, 0) := kat 0
  have k7n : gK (mkG dC dI cs s.heap.size S V) ((s.heap.size + 168 : Nat) : Int) = (7, 0) := (kat 168).trans (by decide +kernel)
  have k7 : gK (mkG dC dI cs s.heap.size S V) ((s.heap.size : Int) + 168) = (7, 0) := by rw [show (s.heap.size : Int) + 168 = ((s.heap.size + 168 : Nat) : Int) by omega]; exact k7n
  have hl := lv_entry ([.ref b]) (n := 4) (Nat.le_of_ble_eq_true rfl)
  rw [lg_entry_eq]
  generalize (lg_sl ([.ref b]) ++ List.replicate (4 - (lg_sl ([.ref b])).length) Slot.unset).toArray = ls at hl ⊢
  have hl : lv_has ls 4 [(0, .ref b)] := hl
  have kE : ∀ (M2 : Mm) (j : Nat), Wl p l e room_1 s m #[Value.ref b] below meth c (mkG dC dI cs s.heap.size S V) (lw_Z below #[Value.ref b] s) 4 600000 7302250 M2 (lvL b (s.heap.size : Int) j) 564 [] := fun M2 j H locs ls hP hS hl => va_forget hS.2.2 (lv_iconst (v := 1) hx hb dL_law_564 (by decide) (lw_ret hx hb hr hlocks dL_law_565))
  have hB0 : Bw (mkG dC dI cs s.heap.size S V) s.heap.size (fun _ => .inr (0, [])) s.heap := ⟨rfl, fun q h1 h2 => absurd h2 (Nat.not_lt.mpr h1)⟩
  have walk : Wc p l e room_1 s m #[Value.ref b] below meth c (mkG dC dI cs s.heap.size S V) (lw_Z below #[Value.ref b] s) 4 s.heap.size (fun _ => .inr (0, [])) [(0, .ref b)] 0 [] 0 0 := by
    refine wc_mk X hAO (ci := 6) (Cn := RX6) (T := TX6) (N := 7) (ty0 := tyX6) (fs := [.null, .null, .null, .null, .null, .null, .int 0]) (sz2 := s.heap.size + 168) rfl inX6 tyX6_ok clL_7 insX6 iniX6 hf6 (fun E1 h1 => ctX6_init hG (Nat.le_of_eq hgB) (Nat.le_of_eq (by rw [hgB])) k6 (kat 50) (kat 62) h1) coX6_init mlL_9 imX6_init rfl rfl (by decide +kernel) rfl rfl (by decide) (Nat.le_of_ble_eq_true rfl) (Nat.le_of_ble_eq_true rfl) (Nat.le_of_ble_eq_true rfl) dL_law_0 dL_law_3 dL_law_4 (fun E1 O1 Ok1 => ?_)
    refine wc_as X dL_law_7 rfl (by decide) rfl ?_
    refine wc_mk X hAO (ci := 7) (Cn := RX7) (T := TX7) (N := 22) (ty0 := tyX7) (fs := [.null, .null, .null, .int 0, .int 0, .int 0, .null, .int 0, .null, .int 0, .int 0, .int 0, .int 0, .int 0, .int 0, .int 0, .int 0, .null, .null, .null, .null, .null]) (sz2 := s.heap.size + 168 + 11) rfl inX7 tyX7_ok clL_10 insX7 iniX7 hf7 (fun E2 h2 => ctX7_init hG (by rw [hgB]; omega) (by rw [hgB]) k7n h2) coX7_init mlL_12 imX7_init rfl rfl (by decide +kernel) rfl rfl (by decide) (Nat.le_of_ble_eq_true rfl) (Nat.le_of_ble_eq_true rfl) (Nat.le_of_ble_eq_true rfl) dL_law_8 dL_law_11 dL_law_12 (fun E2 O2 Ok2 => ?_)
    refine wc_as X dL_law_15 rfl (by decide) rfl ?_
    refine wc_ic X dL_law_16 ?_
    refine wc_is X dL_law_17 rfl (by decide) rfl ?_
    intro H locs ls hB hS hl
    refine W.widen (k := 600000) (n := 7302250) (Nat.le_of_ble_eq_true rfl) (Nat.le_of_ble_eq_true rfl) ?_
    have hO : Ok (mkG dC dI cs s.heap.size S V) E2 s.heap.size (s.heap.size + 179) := fun q h1 h2 => by
      by_cases hq : q < s.heap.size + 168
      · rw [O2 q hq]; exact Ok1 q h1 hq
      · exact Ok2 q (by omega) (by omega)
    have e7 : rV ((s.heap.size : Int) + 168) = .ref (s.heap.size + 168) := by show Value.ref ((s.heap.size : Int) + 168).toNat = _; rw [show ((s.heap.size : Int) + 168).toNat = s.heap.size + 168 by omega]
    have hlL : lv_has ls 4 (lvL b (s.heap.size : Int) 0) := by
      show lv_has ls 4 [(3, iV ((0 : Nat) : Int)), (2, rV ((s.heap.size : Int) + 168)), (1, rV (s.heap.size : Int)), (0, .ref b)]
      rw [e7]; exact hl
    exact lw_loop X hC k6 k7 kE (L + 1) 0 _ (by omega) (by omega) inv_0 H locs ls (wp_0 hB hO) hS hlL
  exact walk s.heap [] ls hB0 va_S.rf hl
