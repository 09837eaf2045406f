section LCASES
variable {p : Program} {l : Launch} {e : Env} {s : State} {m : MethodId} {args : Array Value} {below : List Frame} {meth : Method} {c : Code} {G : GG} {Qf : State → Prop} {M : Mm} {ret : Option FieldType} {b L i : Nat} {x : Int} {xs : Nat → Int32}
set_option maxHeartbeats 4000000 in
theorem lc_type (X : Cx p s m args meth c code 4 ret RL G) (hC : Sc b L xs s G) (k6 : gK G x = (6, 0)) (k7 : gK G (x + 168) = (7, 0)) (hI : Inv x M) (hi : i + 3 < L) (k : ∀ M2 : Mm, Inv x M2 → Wl p l e room_1 s m args below meth c G Qf 4 600000 7302250 M2 (lvL b x i) 558 []) : Wl p l e room_1 s m args below meth c G Qf 4 600000 7302250 M (lvL b x i) 116 [] := by
  refine lx_al X dL_law_116 rfl 2 rfl ?_
  refine lx_arg X hC (n := 1) (by decide) (by omega) dL_law_117 dL_law_118 dL_law_119 dL_law_120 dL_law_121 ?_
  refine lx_cI X [iV (sv xs (i + 1))] [] (ctX6_type X.2.2.2.2.2.2.2.2 k6 (sv_r _ _) (i_type hI)) gdL_13 pdX6_type ⟨rfl, rfl⟩ ⟨Nat.le_of_ble_eq_true rfl, Nat.le_of_ble_eq_true rfl⟩ ⟨Nat.le_of_ble_eq_true rfl, Nat.le_of_ble_eq_true rfl⟩ rfl (k_lt k6 (by decide)) (by rw [k6]; rfl) rfl (Nat.le_of_ble_eq_true rfl) dL_law_122 (fun z1 M1 r1 h1 => ?_)
  refine lx_al X dL_law_125 rfl 1 rfl ?_
  refine lx_arg X hC (n := 1) (by decide) (by omega) dL_law_126 dL_law_127 dL_law_128 dL_law_129 dL_law_130 ?_
  refine lx_cI X [iV (sv xs (i + 1))] [iV z1] (ctX7_type X.2.2.2.2.2.2.2.2 k7 (sv_r _ _) h1) gdL_17 pdX7_type ⟨rfl, rfl⟩ ⟨Nat.le_of_ble_eq_true rfl, Nat.le_of_ble_eq_true rfl⟩ ⟨Nat.le_of_ble_eq_true rfl, Nat.le_of_ble_eq_true rfl⟩ rfl (k_lt k7 (by decide)) (by rw [k7]; rfl) rfl (Nat.le_of_ble_eq_true rfl) dL_law_131 (fun z2 M2 r2 h2 => ?_)
  exact lx_ceq X h2.1 dL_law_134 (tgt := 558) (by decide) (k M2 h2.2)
set_option maxHeartbeats 4000000 in
theorem lc_clear (X : Cx p s m args meth c code 4 ret RL G) (hC : Sc b L xs s G) (k6 : gK G x = (6, 0)) (k7 : gK G (x + 168) = (7, 0)) (hI : Inv x M) (hi : i + 3 < L) (k : ∀ M2 : Mm, Inv x M2 → Wl p l e room_1 s m args below meth c G Qf 4 600000 7302250 M2 (lvL b x i) 558 []) : Wl p l e room_1 s m args below meth c G Qf 4 600000 7302250 M (lvL b x i) 139 [] := by
  refine lx_al X dL_law_139 rfl 2 rfl ?_
  refine lx_cI X [] [] (ctX6_clear X.2.2.2.2.2.2.2.2 k6  (i_clear hI)) gdL_18 pdX6_clear ⟨rfl, rfl⟩ ⟨Nat.le_of_ble_eq_true rfl, Nat.le_of_ble_eq_true rfl⟩ ⟨Nat.le_of_ble_eq_true rfl, Nat.le_of_ble_eq_true rfl⟩ rfl (k_lt k6 (by decide)) (by rw [k6]; rfl) rfl (Nat.le_of_ble_eq_true rfl) dL_law_140 (fun z1 M1 r1 h1 => ?_)
  refine lx_al X dL_law_143 rfl 1 rfl ?_
  refine lx_cI X [] [iV z1] (ctX7_clear X.2.2.2.2.2.2.2.2 k7  h1) gdL_22 pdX7_clear ⟨rfl, rfl⟩ ⟨Nat.le_of_ble_eq_true rfl, Nat.le_of_ble_eq_true rfl⟩ ⟨Nat.le_of_ble_eq_true rfl, Nat.le_of_ble_eq_true rfl⟩ rfl (k_lt k7 (by decide)) (by rw [k7]; rfl) rfl (Nat.le_of_ble_eq_true rfl) dL_law_144 (fun z2 M2 r2 h2 => ?_)
  exact lx_ceq X h2.1 dL_law_147 (tgt := 558) (by decide) (k M2 h2.2)
set_option maxHeartbeats 4000000 in
theorem lc_run (X : Cx p s m args meth c code 4 ret RL G) (hC : Sc b L xs s G) (k6 : gK G x = (6, 0)) (k7 : gK G (x + 168) = (7, 0)) (hI : Inv x M) (hi : i + 3 < L) (k : ∀ M2 : Mm, Inv x M2 → Wl p l e room_1 s m args below meth c G Qf 4 600000 7302250 M2 (lvL b x i) 558 []) : Wl p l e room_1 s m args below meth c G Qf 4 600000 7302250 M (lvL b x i) 152 [] := by
  refine lx_al X dL_law_152 rfl 2 rfl ?_
  refine lx_cI X [] [] (ctX6_run X.2.2.2.2.2.2.2.2 k6  (i_run hI)) gdL_23 pdX6_run ⟨rfl, rfl⟩ ⟨Nat.le_of_ble_eq_true rfl, Nat.le_of_ble_eq_true rfl⟩ ⟨Nat.le_of_ble_eq_true rfl, Nat.le_of_ble_eq_true rfl⟩ rfl (k_lt k6 (by decide)) (by rw [k6]; rfl) rfl (Nat.le_of_ble_eq_true rfl) dL_law_153 (fun z1 M1 r1 h1 => ?_)
  refine lx_al X dL_law_156 rfl 1 rfl ?_
  refine lx_cI X [] [iV z1] (ctX7_run X.2.2.2.2.2.2.2.2 k7  h1) gdL_26 pdX7_run ⟨rfl, rfl⟩ ⟨Nat.le_of_ble_eq_true rfl, Nat.le_of_ble_eq_true rfl⟩ ⟨Nat.le_of_ble_eq_true rfl, Nat.le_of_ble_eq_true rfl⟩ rfl (k_lt k7 (by decide)) (by rw [k7]; rfl) rfl (Nat.le_of_ble_eq_true rfl) dL_law_157 (fun z2 M2 r2 h2 => ?_)
  exact lx_ceq X h2.1 dL_law_160 (tgt := 558) (by decide) (k M2 h2.2)
set_option maxHeartbeats 4000000 in
theorem lc_put (X : Cx p s m args meth c code 4 ret RL G) (hC : Sc b L xs s G) (k6 : gK G x = (6, 0)) (k7 : gK G (x + 168) = (7, 0)) (hI : Inv x M) (hi : i + 3 < L) (k : ∀ M2 : Mm, Inv x M2 → Wl p l e room_1 s m args below meth c G Qf 4 600000 7302250 M2 (lvL b x i) 558 []) : Wl p l e room_1 s m args below meth c G Qf 4 600000 7302250 M (lvL b x i) 165 [] := by
  refine lx_al X dL_law_165 rfl 2 rfl ?_
  refine lx_arg X hC (n := 1) (by decide) (by omega) dL_law_166 dL_law_167 dL_law_168 dL_law_169 dL_law_170 ?_
  refine lx_arg X hC (n := 2) (by decide) (by omega) dL_law_171 dL_law_172 dL_law_173 dL_law_174 dL_law_175 ?_
  refine lx_arg X hC (n := 3) (by decide) (by omega) dL_law_176 dL_law_177 dL_law_178 dL_law_179 dL_law_180 ?_
  refine lx_cI X [iV (sv xs (i + 1)), iV (sv xs (i + 2)), iV (sv xs (i + 3))] [] (ctX6_put X.2.2.2.2.2.2.2.2 k6 (sv_r _ _) (sv_r _ _) (sv_r _ _) (i_put hI)) gdL_27 pdX6_put ⟨rfl, rfl⟩ ⟨Nat.le_of_ble_eq_true rfl, Nat.le_of_ble_eq_true rfl⟩ ⟨Nat.le_of_ble_eq_true rfl, Nat.le_of_ble_eq_true rfl⟩ rfl (k_lt k6 (by decide)) (by rw [k6]; rfl) rfl (Nat.le_of_ble_eq_true rfl) dL_law_181 (fun z1 M1 r1 h1 => ?_)
  refine lx_al X dL_law_184 rfl 1 rfl ?_
  refine lx_arg X hC (n := 1) (by decide) (by omega) dL_law_185 dL_law_186 dL_law_187 dL_law_188 dL_law_189 ?_
  refine lx_arg X hC (n := 2) (by decide) (by omega) dL_law_190 dL_law_191 dL_law_192 dL_law_193 dL_law_194 ?_
  refine lx_arg X hC (n := 3) (by decide) (by omega) dL_law_195 dL_law_196 dL_law_197 dL_law_198 dL_law_199 ?_
  refine lx_cI X [iV (sv xs (i + 1)), iV (sv xs (i + 2)), iV (sv xs (i + 3))] [iV z1] (ctX7_put X.2.2.2.2.2.2.2.2 k7 (sv_r _ _) (sv_r _ _) (sv_r _ _) h1) gdL_31 pdX7_put ⟨rfl, rfl⟩ ⟨Nat.le_of_ble_eq_true rfl, Nat.le_of_ble_eq_true rfl⟩ ⟨Nat.le_of_ble_eq_true rfl, Nat.le_of_ble_eq_true rfl⟩ rfl (k_lt k7 (by decide)) (by rw [k7]; rfl) rfl (Nat.le_of_ble_eq_true rfl) dL_law_200 (fun z2 M2 r2 h2 => ?_)
  exact lx_ceq X h2.1 dL_law_203 (tgt := 558) (by decide) (k M2 h2.2)
set_option maxHeartbeats 4000000 in
theorem lc_cut (X : Cx p s m args meth c code 4 ret RL G) (hC : Sc b L xs s G) (k6 : gK G x = (6, 0)) (k7 : gK G (x + 168) = (7, 0)) (hI : Inv x M) (hi : i + 3 < L) (k : ∀ M2 : Mm, Inv x M2 → Wl p l e room_1 s m args below meth c G Qf 4 600000 7302250 M2 (lvL b x i) 558 []) : Wl p l e room_1 s m args below meth c G Qf 4 600000 7302250 M (lvL b x i) 208 [] := by
  refine lx_al X dL_law_208 rfl 2 rfl ?_
  refine lx_arg X hC (n := 1) (by decide) (by omega) dL_law_209 dL_law_210 dL_law_211 dL_law_212 dL_law_213 ?_
  refine lx_arg X hC (n := 2) (by decide) (by omega) dL_law_214 dL_law_215 dL_law_216 dL_law_217 dL_law_218 ?_
  refine lx_cI X [iV (sv xs (i + 1)), iV (sv xs (i + 2))] [] (ctX6_cut X.2.2.2.2.2.2.2.2 k6 (sv_r _ _) (sv_r _ _) (i_cut hI)) gdL_32 pdX6_cut ⟨rfl, rfl⟩ ⟨Nat.le_of_ble_eq_true rfl, Nat.le_of_ble_eq_true rfl⟩ ⟨Nat.le_of_ble_eq_true rfl, Nat.le_of_ble_eq_true rfl⟩ rfl (k_lt k6 (by decide)) (by rw [k6]; rfl) rfl (Nat.le_of_ble_eq_true rfl) dL_law_219 (fun z1 M1 r1 h1 => ?_)
  refine lx_al X dL_law_222 rfl 1 rfl ?_
  refine lx_arg X hC (n := 1) (by decide) (by omega) dL_law_223 dL_law_224 dL_law_225 dL_law_226 dL_law_227 ?_
  refine lx_arg X hC (n := 2) (by decide) (by omega) dL_law_228 dL_law_229 dL_law_230 dL_law_231 dL_law_232 ?_
  refine lx_cI X [iV (sv xs (i + 1)), iV (sv xs (i + 2))] [iV z1] (ctX7_cut X.2.2.2.2.2.2.2.2 k7 (sv_r _ _) (sv_r _ _) h1) gdL_36 pdX7_cut ⟨rfl, rfl⟩ ⟨Nat.le_of_ble_eq_true rfl, Nat.le_of_ble_eq_true rfl⟩ ⟨Nat.le_of_ble_eq_true rfl, Nat.le_of_ble_eq_true rfl⟩ rfl (k_lt k7 (by decide)) (by rw [k7]; rfl) rfl (Nat.le_of_ble_eq_true rfl) dL_law_233 (fun z2 M2 r2 h2 => ?_)
  exact lx_ceq X h2.1 dL_law_236 (tgt := 558) (by decide) (k M2 h2.2)
set_option maxHeartbeats 4000000 in
theorem lc_split (X : Cx p s m args meth c code 4 ret RL G) (hC : Sc b L xs s G) (k6 : gK G x = (6, 0)) (k7 : gK G (x + 168) = (7, 0)) (hI : Inv x M) (hi : i + 3 < L) (k : ∀ M2 : Mm, Inv x M2 → Wl p l e room_1 s m args below meth c G Qf 4 600000 7302250 M2 (lvL b x i) 558 []) : Wl p l e room_1 s m args below meth c G Qf 4 600000 7302250 M (lvL b x i) 241 [] := by
  refine lx_al X dL_law_241 rfl 2 rfl ?_
  refine lx_arg X hC (n := 1) (by decide) (by omega) dL_law_242 dL_law_243 dL_law_244 dL_law_245 dL_law_246 ?_
  refine lx_arg X hC (n := 2) (by decide) (by omega) dL_law_247 dL_law_248 dL_law_249 dL_law_250 dL_law_251 ?_
  refine lx_cI X [iV (sv xs (i + 1)), iV (sv xs (i + 2))] [] (ctX6_split X.2.2.2.2.2.2.2.2 k6 (sv_r _ _) (sv_r _ _) (i_split hI)) gdL_37 pdX6_split ⟨rfl, rfl⟩ ⟨Nat.le_of_ble_eq_true rfl, Nat.le_of_ble_eq_true rfl⟩ ⟨Nat.le_of_ble_eq_true rfl, Nat.le_of_ble_eq_true rfl⟩ rfl (k_lt k6 (by decide)) (by rw [k6]; rfl) rfl (Nat.le_of_ble_eq_true rfl) dL_law_252 (fun z1 M1 r1 h1 => ?_)
  refine lx_al X dL_law_255 rfl 1 rfl ?_
  refine lx_arg X hC (n := 1) (by decide) (by omega) dL_law_256 dL_law_257 dL_law_258 dL_law_259 dL_law_260 ?_
  refine lx_arg X hC (n := 2) (by decide) (by omega) dL_law_261 dL_law_262 dL_law_263 dL_law_264 dL_law_265 ?_
  refine lx_cI X [iV (sv xs (i + 1)), iV (sv xs (i + 2))] [iV z1] (ctX7_split X.2.2.2.2.2.2.2.2 k7 (sv_r _ _) (sv_r _ _) h1) gdL_40 pdX7_split ⟨rfl, rfl⟩ ⟨Nat.le_of_ble_eq_true rfl, Nat.le_of_ble_eq_true rfl⟩ ⟨Nat.le_of_ble_eq_true rfl, Nat.le_of_ble_eq_true rfl⟩ rfl (k_lt k7 (by decide)) (by rw [k7]; rfl) rfl (Nat.le_of_ble_eq_true rfl) dL_law_266 (fun z2 M2 r2 h2 => ?_)
  exact lx_ceq X h2.1 dL_law_269 (tgt := 558) (by decide) (k M2 h2.2)
set_option maxHeartbeats 4000000 in
theorem lc_join (X : Cx p s m args meth c code 4 ret RL G) (hC : Sc b L xs s G) (k6 : gK G x = (6, 0)) (k7 : gK G (x + 168) = (7, 0)) (hI : Inv x M) (hi : i + 3 < L) (k : ∀ M2 : Mm, Inv x M2 → Wl p l e room_1 s m args below meth c G Qf 4 600000 7302250 M2 (lvL b x i) 558 []) : Wl p l e room_1 s m args below meth c G Qf 4 600000 7302250 M (lvL b x i) 274 [] := by
  refine lx_al X dL_law_274 rfl 2 rfl ?_
  refine lx_arg X hC (n := 1) (by decide) (by omega) dL_law_275 dL_law_276 dL_law_277 dL_law_278 dL_law_279 ?_
  refine lx_cI X [iV (sv xs (i + 1))] [] (ctX6_join X.2.2.2.2.2.2.2.2 k6 (sv_r _ _) (i_join hI)) gdL_41 pdX6_join ⟨rfl, rfl⟩ ⟨Nat.le_of_ble_eq_true rfl, Nat.le_of_ble_eq_true rfl⟩ ⟨Nat.le_of_ble_eq_true rfl, Nat.le_of_ble_eq_true rfl⟩ rfl (k_lt k6 (by decide)) (by rw [k6]; rfl) rfl (Nat.le_of_ble_eq_true rfl) dL_law_280 (fun z1 M1 r1 h1 => ?_)
  refine lx_al X dL_law_283 rfl 1 rfl ?_
  refine lx_arg X hC (n := 1) (by decide) (by omega) dL_law_284 dL_law_285 dL_law_286 dL_law_287 dL_law_288 ?_
  refine lx_cI X [iV (sv xs (i + 1))] [iV z1] (ctX7_join X.2.2.2.2.2.2.2.2 k7 (sv_r _ _) h1) gdL_44 pdX7_join ⟨rfl, rfl⟩ ⟨Nat.le_of_ble_eq_true rfl, Nat.le_of_ble_eq_true rfl⟩ ⟨Nat.le_of_ble_eq_true rfl, Nat.le_of_ble_eq_true rfl⟩ rfl (k_lt k7 (by decide)) (by rw [k7]; rfl) rfl (Nat.le_of_ble_eq_true rfl) dL_law_289 (fun z2 M2 r2 h2 => ?_)
  exact lx_ceq X h2.1 dL_law_292 (tgt := 558) (by decide) (k M2 h2.2)
set_option maxHeartbeats 4000000 in
theorem lc_undo (X : Cx p s m args meth c code 4 ret RL G) (hC : Sc b L xs s G) (k6 : gK G x = (6, 0)) (k7 : gK G (x + 168) = (7, 0)) (hI : Inv x M) (hi : i + 3 < L) (k : ∀ M2 : Mm, Inv x M2 → Wl p l e room_1 s m args below meth c G Qf 4 600000 7302250 M2 (lvL b x i) 558 []) : Wl p l e room_1 s m args below meth c G Qf 4 600000 7302250 M (lvL b x i) 297 [] := by
  refine lx_al X dL_law_297 rfl 2 rfl ?_
  refine lx_cI X [] [] (ctX6_undo X.2.2.2.2.2.2.2.2 k6  (i_undo hI)) gdL_45 pdX6_undo ⟨rfl, rfl⟩ ⟨Nat.le_of_ble_eq_true rfl, Nat.le_of_ble_eq_true rfl⟩ ⟨Nat.le_of_ble_eq_true rfl, Nat.le_of_ble_eq_true rfl⟩ rfl (k_lt k6 (by decide)) (by rw [k6]; rfl) rfl (Nat.le_of_ble_eq_true rfl) dL_law_298 (fun z1 M1 r1 h1 => ?_)
  refine lx_al X dL_law_301 rfl 1 rfl ?_
  refine lx_cI X [] [iV z1] (ctX7_undo X.2.2.2.2.2.2.2.2 k7  h1) gdL_48 pdX7_undo ⟨rfl, rfl⟩ ⟨Nat.le_of_ble_eq_true rfl, Nat.le_of_ble_eq_true rfl⟩ ⟨Nat.le_of_ble_eq_true rfl, Nat.le_of_ble_eq_true rfl⟩ rfl (k_lt k7 (by decide)) (by rw [k7]; rfl) rfl (Nat.le_of_ble_eq_true rfl) dL_law_302 (fun z2 M2 r2 h2 => ?_)
  exact lx_ceq X h2.1 dL_law_305 (tgt := 558) (by decide) (k M2 h2.2)
set_option maxHeartbeats 4000000 in
theorem lc_line (X : Cx p s m args meth c code 4 ret RL G) (hC : Sc b L xs s G) (k6 : gK G x = (6, 0)) (k7 : gK G (x + 168) = (7, 0)) (hI : Inv x M) (hi : i + 3 < L) (k : ∀ M2 : Mm, Inv x M2 → Wl p l e room_1 s m args below meth c G Qf 4 600000 7302250 M2 (lvL b x i) 558 []) : Wl p l e room_1 s m args below meth c G Qf 4 600000 7302250 M (lvL b x i) 310 [] := by
  refine lx_al X dL_law_310 rfl 2 rfl ?_
  refine lx_arg X hC (n := 1) (by decide) (by omega) dL_law_311 dL_law_312 dL_law_313 dL_law_314 dL_law_315 ?_
  refine lx_arg X hC (n := 2) (by decide) (by omega) dL_law_316 dL_law_317 dL_law_318 dL_law_319 dL_law_320 ?_
  refine lx_cI X [iV (sv xs (i + 1)), iV (sv xs (i + 2))] [] (ctX6_line X.2.2.2.2.2.2.2.2 k6 (sv_r _ _) (sv_r _ _) (i_line hI)) gdL_49 pdX6_line ⟨rfl, rfl⟩ ⟨Nat.le_of_ble_eq_true rfl, Nat.le_of_ble_eq_true rfl⟩ ⟨Nat.le_of_ble_eq_true rfl, Nat.le_of_ble_eq_true rfl⟩ rfl (k_lt k6 (by decide)) (by rw [k6]; rfl) rfl (Nat.le_of_ble_eq_true rfl) dL_law_321 (fun z1 M1 r1 h1 => ?_)
  refine lx_al X dL_law_324 rfl 1 rfl ?_
  refine lx_arg X hC (n := 1) (by decide) (by omega) dL_law_325 dL_law_326 dL_law_327 dL_law_328 dL_law_329 ?_
  refine lx_arg X hC (n := 2) (by decide) (by omega) dL_law_330 dL_law_331 dL_law_332 dL_law_333 dL_law_334 ?_
  refine lx_cI X [iV (sv xs (i + 1)), iV (sv xs (i + 2))] [iV z1] (ctX7_line X.2.2.2.2.2.2.2.2 k7 (sv_r _ _) (sv_r _ _) h1) gdL_52 pdX7_line ⟨rfl, rfl⟩ ⟨Nat.le_of_ble_eq_true rfl, Nat.le_of_ble_eq_true rfl⟩ ⟨Nat.le_of_ble_eq_true rfl, Nat.le_of_ble_eq_true rfl⟩ rfl (k_lt k7 (by decide)) (by rw [k7]; rfl) rfl (Nat.le_of_ble_eq_true rfl) dL_law_335 (fun z2 M2 r2 h2 => ?_)
  exact lx_ceq X h2.1 dL_law_338 (tgt := 558) (by decide) (k M2 h2.2)
set_option maxHeartbeats 4000000 in
theorem lc_sign (X : Cx p s m args meth c code 4 ret RL G) (hC : Sc b L xs s G) (k6 : gK G x = (6, 0)) (k7 : gK G (x + 168) = (7, 0)) (hI : Inv x M) (hi : i + 3 < L) (k : ∀ M2 : Mm, Inv x M2 → Wl p l e room_1 s m args below meth c G Qf 4 600000 7302250 M2 (lvL b x i) 558 []) : Wl p l e room_1 s m args below meth c G Qf 4 600000 7302250 M (lvL b x i) 343 [] := by
  refine lx_al X dL_law_343 rfl 2 rfl ?_
  refine lx_arg X hC (n := 1) (by decide) (by omega) dL_law_344 dL_law_345 dL_law_346 dL_law_347 dL_law_348 ?_
  refine lx_arg X hC (n := 2) (by decide) (by omega) dL_law_349 dL_law_350 dL_law_351 dL_law_352 dL_law_353 ?_
  refine lx_cI X [iV (sv xs (i + 1)), iV (sv xs (i + 2))] [] (ctX6_sign X.2.2.2.2.2.2.2.2 k6 (sv_r _ _) (sv_r _ _) (i_sign hI)) gdL_53 pdX6_sign ⟨rfl, rfl⟩ ⟨Nat.le_of_ble_eq_true rfl, Nat.le_of_ble_eq_true rfl⟩ ⟨Nat.le_of_ble_eq_true rfl, Nat.le_of_ble_eq_true rfl⟩ rfl (k_lt k6 (by decide)) (by rw [k6]; rfl) rfl (Nat.le_of_ble_eq_true rfl) dL_law_354 (fun z1 M1 r1 h1 => ?_)
  refine lx_al X dL_law_357 rfl 1 rfl ?_
  refine lx_arg X hC (n := 1) (by decide) (by omega) dL_law_358 dL_law_359 dL_law_360 dL_law_361 dL_law_362 ?_
  refine lx_arg X hC (n := 2) (by decide) (by omega) dL_law_363 dL_law_364 dL_law_365 dL_law_366 dL_law_367 ?_
  refine lx_cI X [iV (sv xs (i + 1)), iV (sv xs (i + 2))] [iV z1] (ctX7_sign_ X.2.2.2.2.2.2.2.2 k7 (sv_r _ _) (sv_r _ _) h1) gdL_56 pdX7_sign_ ⟨rfl, rfl⟩ ⟨Nat.le_of_ble_eq_true rfl, Nat.le_of_ble_eq_true rfl⟩ ⟨Nat.le_of_ble_eq_true rfl, Nat.le_of_ble_eq_true rfl⟩ rfl (k_lt k7 (by decide)) (by rw [k7]; rfl) rfl (Nat.le_of_ble_eq_true rfl) dL_law_368 (fun z2 M2 r2 h2 => ?_)
  exact lx_ceq X h2.1 dL_law_371 (tgt := 558) (by decide) (k M2 h2.2)
set_option maxHeartbeats 4000000 in
theorem lc_cell (X : Cx p s m args meth c code 4 ret RL G) (hC : Sc b L xs s G) (k6 : gK G x = (6, 0)) (k7 : gK G (x + 168) = (7, 0)) (hI : Inv x M) (hi : i + 3 < L) (k : ∀ M2 : Mm, Inv x M2 → Wl p l e room_1 s m args below meth c G Qf 4 600000 7302250 M2 (lvL b x i) 558 []) : Wl p l e room_1 s m args below meth c G Qf 4 600000 7302250 M (lvL b x i) 376 [] := by
  refine lx_al X dL_law_376 rfl 2 rfl ?_
  refine lx_arg X hC (n := 1) (by decide) (by omega) dL_law_377 dL_law_378 dL_law_379 dL_law_380 dL_law_381 ?_
  refine lx_arg X hC (n := 2) (by decide) (by omega) dL_law_382 dL_law_383 dL_law_384 dL_law_385 dL_law_386 ?_
  refine lx_arg X hC (n := 3) (by decide) (by omega) dL_law_387 dL_law_388 dL_law_389 dL_law_390 dL_law_391 ?_
  refine lx_cI X [iV (sv xs (i + 1)), iV (sv xs (i + 2)), iV (sv xs (i + 3))] [] (ctX6_cell X.2.2.2.2.2.2.2.2 k6 (sv_r _ _) (sv_r _ _) (sv_r _ _) (i_cell hI)) gdL_57 pdX6_cell ⟨rfl, rfl⟩ ⟨Nat.le_of_ble_eq_true rfl, Nat.le_of_ble_eq_true rfl⟩ ⟨Nat.le_of_ble_eq_true rfl, Nat.le_of_ble_eq_true rfl⟩ rfl (k_lt k6 (by decide)) (by rw [k6]; rfl) rfl (Nat.le_of_ble_eq_true rfl) dL_law_392 (fun z1 M1 r1 h1 => ?_)
  refine lx_al X dL_law_395 rfl 1 rfl ?_
  refine lx_arg X hC (n := 1) (by decide) (by omega) dL_law_396 dL_law_397 dL_law_398 dL_law_399 dL_law_400 ?_
  refine lx_arg X hC (n := 2) (by decide) (by omega) dL_law_401 dL_law_402 dL_law_403 dL_law_404 dL_law_405 ?_
  refine lx_arg X hC (n := 3) (by decide) (by omega) dL_law_406 dL_law_407 dL_law_408 dL_law_409 dL_law_410 ?_
  refine lx_cI X [iV (sv xs (i + 1)), iV (sv xs (i + 2)), iV (sv xs (i + 3))] [iV z1] (ctX7_cell X.2.2.2.2.2.2.2.2 k7 (sv_r _ _) (sv_r _ _) (sv_r _ _) h1) gdL_60 pdX7_cell ⟨rfl, rfl⟩ ⟨Nat.le_of_ble_eq_true rfl, Nat.le_of_ble_eq_true rfl⟩ ⟨Nat.le_of_ble_eq_true rfl, Nat.le_of_ble_eq_true rfl⟩ rfl (k_lt k7 (by decide)) (by rw [k7]; rfl) rfl (Nat.le_of_ble_eq_true rfl) dL_law_411 (fun z2 M2 r2 h2 => ?_)
  exact lx_ceq X h2.1 dL_law_414 (tgt := 558) (by decide) (k M2 h2.2)
set_option maxHeartbeats 4000000 in
theorem lc_shown (X : Cx p s m args meth c code 4 ret RL G) (hC : Sc b L xs s G) (k6 : gK G x = (6, 0)) (k7 : gK G (x + 168) = (7, 0)) (hI : Inv x M) (hi : i + 3 < L) (k : ∀ M2 : Mm, Inv x M2 → Wl p l e room_1 s m args below meth c G Qf 4 600000 7302250 M2 (lvL b x i) 558 []) : Wl p l e room_1 s m args below meth c G Qf 4 600000 7302250 M (lvL b x i) 419 [] := by
  refine lx_al X dL_law_419 rfl 2 rfl ?_
  refine lx_arg X hC (n := 1) (by decide) (by omega) dL_law_420 dL_law_421 dL_law_422 dL_law_423 dL_law_424 ?_
  refine lx_arg X hC (n := 2) (by decide) (by omega) dL_law_425 dL_law_426 dL_law_427 dL_law_428 dL_law_429 ?_
  refine lx_cI X [iV (sv xs (i + 1)), iV (sv xs (i + 2))] [] (ctX6_shown X.2.2.2.2.2.2.2.2 k6 (sv_r _ _) (sv_r _ _) (i_shown hI)) gdL_61 pdX6_shown ⟨rfl, rfl⟩ ⟨Nat.le_of_ble_eq_true rfl, Nat.le_of_ble_eq_true rfl⟩ ⟨Nat.le_of_ble_eq_true rfl, Nat.le_of_ble_eq_true rfl⟩ rfl (k_lt k6 (by decide)) (by rw [k6]; rfl) rfl (Nat.le_of_ble_eq_true rfl) dL_law_430 (fun z1 M1 r1 h1 => ?_)
  refine lx_al X dL_law_433 rfl 1 rfl ?_
  refine lx_arg X hC (n := 1) (by decide) (by omega) dL_law_434 dL_law_435 dL_law_436 dL_law_437 dL_law_438 ?_
  refine lx_arg X hC (n := 2) (by decide) (by omega) dL_law_439 dL_law_440 dL_law_441 dL_law_442 dL_law_443 ?_
  refine lx_cI X [iV (sv xs (i + 1)), iV (sv xs (i + 2))] [iV z1] (ctX7_shown X.2.2.2.2.2.2.2.2 k7 (sv_r _ _) (sv_r _ _) h1) gdL_64 pdX7_shown ⟨rfl, rfl⟩ ⟨Nat.le_of_ble_eq_true rfl, Nat.le_of_ble_eq_true rfl⟩ ⟨Nat.le_of_ble_eq_true rfl, Nat.le_of_ble_eq_true rfl⟩ rfl (k_lt k7 (by decide)) (by rw [k7]; rfl) rfl (Nat.le_of_ble_eq_true rfl) dL_law_444 (fun z2 M2 r2 h2 => ?_)
  exact lx_ceq X h2.1 dL_law_447 (tgt := 558) (by decide) (k M2 h2.2)
set_option maxHeartbeats 4000000 in
theorem lc_align (X : Cx p s m args meth c code 4 ret RL G) (hC : Sc b L xs s G) (k6 : gK G x = (6, 0)) (k7 : gK G (x + 168) = (7, 0)) (hI : Inv x M) (hi : i + 3 < L) (k : ∀ M2 : Mm, Inv x M2 → Wl p l e room_1 s m args below meth c G Qf 4 600000 7302250 M2 (lvL b x i) 558 []) : Wl p l e room_1 s m args below meth c G Qf 4 600000 7302250 M (lvL b x i) 452 [] := by
  refine lx_al X dL_law_452 rfl 2 rfl ?_
  refine lx_arg X hC (n := 1) (by decide) (by omega) dL_law_453 dL_law_454 dL_law_455 dL_law_456 dL_law_457 ?_
  refine lx_cI X [iV (sv xs (i + 1))] [] (ctX6_align X.2.2.2.2.2.2.2.2 k6 (sv_r _ _) (i_align hI)) gdL_65 pdX6_align ⟨rfl, rfl⟩ ⟨Nat.le_of_ble_eq_true rfl, Nat.le_of_ble_eq_true rfl⟩ ⟨Nat.le_of_ble_eq_true rfl, Nat.le_of_ble_eq_true rfl⟩ rfl (k_lt k6 (by decide)) (by rw [k6]; rfl) rfl (Nat.le_of_ble_eq_true rfl) dL_law_458 (fun z1 M1 r1 h1 => ?_)
  refine lx_al X dL_law_461 rfl 1 rfl ?_
  refine lx_arg X hC (n := 1) (by decide) (by omega) dL_law_462 dL_law_463 dL_law_464 dL_law_465 dL_law_466 ?_
  refine lx_cI X [iV (sv xs (i + 1))] [iV z1] (ctX7_align X.2.2.2.2.2.2.2.2 k7 (sv_r _ _) h1) gdL_68 pdX7_align ⟨rfl, rfl⟩ ⟨Nat.le_of_ble_eq_true rfl, Nat.le_of_ble_eq_true rfl⟩ ⟨Nat.le_of_ble_eq_true rfl, Nat.le_of_ble_eq_true rfl⟩ rfl (k_lt k7 (by decide)) (by rw [k7]; rfl) rfl (Nat.le_of_ble_eq_true rfl) dL_law_467 (fun z2 M2 r2 h2 => ?_)
  exact lx_ceq X h2.1 dL_law_470 (tgt := 558) (by decide) (k M2 h2.2)
set_option maxHeartbeats 4000000 in
theorem lc_count (X : Cx p s m args meth c code 4 ret RL G) (hC : Sc b L xs s G) (k6 : gK G x = (6, 0)) (k7 : gK G (x + 168) = (7, 0)) (hI : Inv x M) (hi : i + 3 < L) (k : ∀ M2 : Mm, Inv x M2 → Wl p l e room_1 s m args below meth c G Qf 4 600000 7302250 M2 (lvL b x i) 558 []) : Wl p l e room_1 s m args below meth c G Qf 4 600000 7302250 M (lvL b x i) 475 [] := by
  refine lx_al X dL_law_475 rfl 2 rfl ?_
  refine lx_arg X hC (n := 1) (by decide) (by omega) dL_law_476 dL_law_477 dL_law_478 dL_law_479 dL_law_480 ?_
  refine lx_cI X [iV (sv xs (i + 1))] [] (ctX6_count X.2.2.2.2.2.2.2.2 k6 (sv_r _ _) (i_count hI)) gdL_69 pdX6_count ⟨rfl, rfl⟩ ⟨Nat.le_of_ble_eq_true rfl, Nat.le_of_ble_eq_true rfl⟩ ⟨Nat.le_of_ble_eq_true rfl, Nat.le_of_ble_eq_true rfl⟩ rfl (k_lt k6 (by decide)) (by rw [k6]; rfl) rfl (Nat.le_of_ble_eq_true rfl) dL_law_481 (fun z1 M1 r1 h1 => ?_)
  refine lx_al X dL_law_484 rfl 1 rfl ?_
  refine lx_arg X hC (n := 1) (by decide) (by omega) dL_law_485 dL_law_486 dL_law_487 dL_law_488 dL_law_489 ?_
  refine lx_cI X [iV (sv xs (i + 1))] [iV z1] (ctX7_count X.2.2.2.2.2.2.2.2 k7 (sv_r _ _) h1) gdL_72 pdX7_count ⟨rfl, rfl⟩ ⟨Nat.le_of_ble_eq_true rfl, Nat.le_of_ble_eq_true rfl⟩ ⟨Nat.le_of_ble_eq_true rfl, Nat.le_of_ble_eq_true rfl⟩ rfl (k_lt k7 (by decide)) (by rw [k7]; rfl) rfl (Nat.le_of_ble_eq_true rfl) dL_law_490 (fun z2 M2 r2 h2 => ?_)
  exact lx_ceq X h2.1 dL_law_493 (tgt := 558) (by decide) (k M2 h2.2)
set_option maxHeartbeats 4000000 in
theorem lc_digest (X : Cx p s m args meth c code 4 ret RL G) (hC : Sc b L xs s G) (k6 : gK G x = (6, 0)) (k7 : gK G (x + 168) = (7, 0)) (hI : Inv x M) (hi : i + 3 < L) (k : ∀ M2 : Mm, Inv x M2 → Wl p l e room_1 s m args below meth c G Qf 4 600000 7302250 M2 (lvL b x i) 558 []) : Wl p l e room_1 s m args below meth c G Qf 4 600000 7302250 M (lvL b x i) 498 [] := by
  refine lx_al X dL_law_498 rfl 2 rfl ?_
  refine lx_cL X [] [] (ctX6_digest X.2.2.2.2.2.2.2.2 k6  (i_digest hI)) gdL_73 pdX6_digest ⟨rfl, rfl⟩ ⟨Nat.le_of_ble_eq_true rfl, Nat.le_of_ble_eq_true rfl⟩ ⟨Nat.le_of_ble_eq_true rfl, Nat.le_of_ble_eq_true rfl⟩ rfl (k_lt k6 (by decide)) (by rw [k6]; rfl) rfl (Nat.le_of_ble_eq_true rfl) dL_law_499 (fun z1 M1 h1 => ?_)
  refine lx_al X dL_law_502 rfl 1 rfl ?_
  refine lx_cL X [] [.long z1] (ctX7_digest X.2.2.2.2.2.2.2.2 k7  h1) gdL_77 pdX7_digest ⟨rfl, rfl⟩ ⟨Nat.le_of_ble_eq_true rfl, Nat.le_of_ble_eq_true rfl⟩ ⟨Nat.le_of_ble_eq_true rfl, Nat.le_of_ble_eq_true rfl⟩ rfl (k_lt k7 (by decide)) (by rw [k7]; rfl) rfl (Nat.le_of_ble_eq_true rfl) dL_law_503 (fun z2 M2 h2 => ?_)
  exact lx_leq X h2.1 dL_law_506 dL_law_507 (tgt := 558) (by decide) (k M2 h2.2)
set_option maxHeartbeats 4000000 in
theorem lc_keep (X : Cx p s m args meth c code 4 ret RL G) (hC : Sc b L xs s G) (k6 : gK G x = (6, 0)) (k7 : gK G (x + 168) = (7, 0)) (hI : Inv x M) (hi : i + 3 < L) (k : ∀ M2 : Mm, Inv x M2 → Wl p l e room_1 s m args below meth c G Qf 4 600000 7302250 M2 (lvL b x i) 558 []) : Wl p l e room_1 s m args below meth c G Qf 4 600000 7302250 M (lvL b x i) 512 [] := by
  refine lx_al X dL_law_512 rfl 2 rfl ?_
  refine lx_arg X hC (n := 1) (by decide) (by omega) dL_law_513 dL_law_514 dL_law_515 dL_law_516 dL_law_517 ?_
  refine lx_cI X [iV (sv xs (i + 1))] [] (ctX6_keep X.2.2.2.2.2.2.2.2 k6 (sv_r _ _) (i_keep hI)) gdL_78 pdX6_keep ⟨rfl, rfl⟩ ⟨Nat.le_of_ble_eq_true rfl, Nat.le_of_ble_eq_true rfl⟩ ⟨Nat.le_of_ble_eq_true rfl, Nat.le_of_ble_eq_true rfl⟩ rfl (k_lt k6 (by decide)) (by rw [k6]; rfl) rfl (Nat.le_of_ble_eq_true rfl) dL_law_518 (fun z1 M1 r1 h1 => ?_)
  refine lx_al X dL_law_521 rfl 1 rfl ?_
  refine lx_arg X hC (n := 1) (by decide) (by omega) dL_law_522 dL_law_523 dL_law_524 dL_law_525 dL_law_526 ?_
  refine lx_cI X [iV (sv xs (i + 1))] [iV z1] (ctX7_keep X.2.2.2.2.2.2.2.2 k7 (sv_r _ _) h1) gdL_81 pdX7_keep ⟨rfl, rfl⟩ ⟨Nat.le_of_ble_eq_true rfl, Nat.le_of_ble_eq_true rfl⟩ ⟨Nat.le_of_ble_eq_true rfl, Nat.le_of_ble_eq_true rfl⟩ rfl (k_lt k7 (by decide)) (by rw [k7]; rfl) rfl (Nat.le_of_ble_eq_true rfl) dL_law_527 (fun z2 M2 r2 h2 => ?_)
  exact lx_ceq X h2.1 dL_law_530 (tgt := 558) (by decide) (k M2 h2.2)
set_option maxHeartbeats 4000000 in
theorem lc_back (X : Cx p s m args meth c code 4 ret RL G) (hC : Sc b L xs s G) (k6 : gK G x = (6, 0)) (k7 : gK G (x + 168) = (7, 0)) (hI : Inv x M) (hi : i + 3 < L) (k : ∀ M2 : Mm, Inv x M2 → Wl p l e room_1 s m args below meth c G Qf 4 600000 7302250 M2 (lvL b x i) 558 []) : Wl p l e room_1 s m args below meth c G Qf 4 600000 7302250 M (lvL b x i) 535 [] := by
  refine lx_al X dL_law_535 rfl 2 rfl ?_
  refine lx_arg X hC (n := 1) (by decide) (by omega) dL_law_536 dL_law_537 dL_law_538 dL_law_539 dL_law_540 ?_
  refine lx_cI X [iV (sv xs (i + 1))] [] (ctX6_back X.2.2.2.2.2.2.2.2 k6 (sv_r _ _) (i_back hI)) gdL_82 pdX6_back ⟨rfl, rfl⟩ ⟨Nat.le_of_ble_eq_true rfl, Nat.le_of_ble_eq_true rfl⟩ ⟨Nat.le_of_ble_eq_true rfl, Nat.le_of_ble_eq_true rfl⟩ rfl (k_lt k6 (by decide)) (by rw [k6]; rfl) rfl (Nat.le_of_ble_eq_true rfl) dL_law_541 (fun z1 M1 r1 h1 => ?_)
  refine lx_al X dL_law_544 rfl 1 rfl ?_
  refine lx_arg X hC (n := 1) (by decide) (by omega) dL_law_545 dL_law_546 dL_law_547 dL_law_548 dL_law_549 ?_
  refine lx_cI X [iV (sv xs (i + 1))] [iV z1] (ctX7_back X.2.2.2.2.2.2.2.2 k7 (sv_r _ _) h1) gdL_85 pdX7_back ⟨rfl, rfl⟩ ⟨Nat.le_of_ble_eq_true rfl, Nat.le_of_ble_eq_true rfl⟩ ⟨Nat.le_of_ble_eq_true rfl, Nat.le_of_ble_eq_true rfl⟩ rfl (k_lt k7 (by decide)) (by rw [k7]; rfl) rfl (Nat.le_of_ble_eq_true rfl) dL_law_550 (fun z2 M2 r2 h2 => ?_)
  exact lx_ceq X h2.1 dL_law_553 (tgt := 558) (by decide) (k M2 h2.2)
end LCASES
