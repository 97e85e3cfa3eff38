/-! ===== the law: its cases ===== -/
theorem inL {i c L : Nat} (hL : L ≤ 2560) (hi : i + 5 ≤ L) (hc : c < 5) : vp_in (nI i + nI c) L := by
  rw [nI_add]
  exact in_nI (by omega) (by omega)
theorem lm_13 : Cond.methodLink R_law 13 yX11_stop ∈ lw_tbl := List.mem_of_getElem? (i := 514) (by decide +kernel)
theorem lm_17 : Cond.methodLink R_law 17 yX12_stop ∈ lw_tbl := List.mem_of_getElem? (i := 1166) (by decide +kernel)
theorem lm_18 : Cond.methodLink R_law 18 yX11_fare ∈ lw_tbl := List.mem_of_getElem? (i := 528) (by decide +kernel)
theorem lm_22 : Cond.methodLink R_law 22 yX12_fare ∈ lw_tbl := List.mem_of_getElem? (i := 1173) (by decide +kernel)
theorem lm_23 : Cond.methodLink R_law 23 yX11_day ∈ lw_tbl := List.mem_of_getElem? (i := 536) (by decide +kernel)
theorem lm_26 : Cond.methodLink R_law 26 yX12_day ∈ lw_tbl := List.mem_of_getElem? (i := 1177) (by decide +kernel)
theorem lm_27 : Cond.methodLink R_law 27 yX11_trip ∈ lw_tbl := List.mem_of_getElem? (i := 543) (by decide +kernel)
theorem lm_30 : Cond.methodLink R_law 30 yX12_trip ∈ lw_tbl := List.mem_of_getElem? (i := 1184) (by decide +kernel)
theorem lm_31 : Cond.methodLink R_law 31 yX11_call ∈ lw_tbl := List.mem_of_getElem? (i := 551) (by decide +kernel)
theorem lm_35 : Cond.methodLink R_law 35 yX12_call ∈ lw_tbl := List.mem_of_getElem? (i := 1188) (by decide +kernel)
theorem lm_36 : Cond.methodLink R_law 36 yX11_miss ∈ lw_tbl := List.mem_of_getElem? (i := 567) (by decide +kernel)
theorem lm_40 : Cond.methodLink R_law 40 yX12_miss ∈ lw_tbl := List.mem_of_getElem? (i := 1200) (by decide +kernel)
theorem lm_41 : Cond.methodLink R_law 41 yX11_walk ∈ lw_tbl := List.mem_of_getElem? (i := 580) (by decide +kernel)
theorem lm_44 : Cond.methodLink R_law 44 yX12_walk ∈ lw_tbl := List.mem_of_getElem? (i := 1208) (by decide +kernel)
theorem lm_45 : Cond.methodLink R_law 45 yX11_shuttle ∈ lw_tbl := List.mem_of_getElem? (i := 588) (by decide +kernel)
theorem lm_48 : Cond.methodLink R_law 48 yX12_shuttle ∈ lw_tbl := List.mem_of_getElem? (i := 1212) (by decide +kernel)
theorem lm_49 : Cond.methodLink R_law 49 yX11_asked ∈ lw_tbl := List.mem_of_getElem? (i := 603) (by decide +kernel)
theorem lm_52 : Cond.methodLink R_law 52 yX12_asked ∈ lw_tbl := List.mem_of_getElem? (i := 1220) (by decide +kernel)
theorem lm_53 : Cond.methodLink R_law 53 yX11_late ∈ lw_tbl := List.mem_of_getElem? (i := 611) (by decide +kernel)
theorem lm_56 : Cond.methodLink R_law 56 yX12_late ∈ lw_tbl := List.mem_of_getElem? (i := 1224) (by decide +kernel)
theorem lm_57 : Cond.methodLink R_law 57 yX11_gone ∈ lw_tbl := List.mem_of_getElem? (i := 623) (by decide +kernel)
theorem lm_60 : Cond.methodLink R_law 60 yX12_gone ∈ lw_tbl := List.mem_of_getElem? (i := 1232) (by decide +kernel)
theorem lm_61 : Cond.methodLink R_law 61 yX11_ways ∈ lw_tbl := List.mem_of_getElem? (i := 631) (by decide +kernel)
theorem lm_64 : Cond.methodLink R_law 64 yX12_ways ∈ lw_tbl := List.mem_of_getElem? (i := 1236) (by decide +kernel)
theorem lm_65 : Cond.methodLink R_law 65 yX11_way ∈ lw_tbl := List.mem_of_getElem? (i := 814) (by decide +kernel)
theorem lm_68 : Cond.methodLink R_law 68 yX12_way ∈ lw_tbl := List.mem_of_getElem? (i := 1319) (by decide +kernel)
theorem lm_69 : Cond.methodLink R_law 69 yX11_leg ∈ lw_tbl := List.mem_of_getElem? (i := 826) (by decide +kernel)
theorem lm_72 : Cond.methodLink R_law 72 yX12_leg ∈ lw_tbl := List.mem_of_getElem? (i := 1323) (by decide +kernel)
theorem lm_73 : Cond.methodLink R_law 73 yX11_take ∈ lw_tbl := List.mem_of_getElem? (i := 837) (by decide +kernel)
theorem lm_77 : Cond.methodLink R_law 77 yX12_take ∈ lw_tbl := List.mem_of_getElem? (i := 1327) (by decide +kernel)
theorem lm_78 : Cond.methodLink R_law 78 yX11_give ∈ lw_tbl := List.mem_of_getElem? (i := 875) (by decide +kernel)
theorem lm_81 : Cond.methodLink R_law 81 yX12_give ∈ lw_tbl := List.mem_of_getElem? (i := 1335) (by decide +kernel)
theorem lm_82 : Cond.methodLink R_law 82 yX11_still ∈ lw_tbl := List.mem_of_getElem? (i := 887) (by decide +kernel)
theorem lm_85 : Cond.methodLink R_law 85 yX12_still ∈ lw_tbl := List.mem_of_getElem? (i := 1343) (by decide +kernel)
theorem lm_86 : Cond.methodLink R_law 86 yX11_comes ∈ lw_tbl := List.mem_of_getElem? (i := 915) (by decide +kernel)
theorem lm_89 : Cond.methodLink R_law 89 yX12_comes ∈ lw_tbl := List.mem_of_getElem? (i := 1347) (by decide +kernel)
theorem lm_90 : Cond.methodLink R_law 90 yX11_taken ∈ lw_tbl := List.mem_of_getElem? (i := 920) (by decide +kernel)
theorem lm_93 : Cond.methodLink R_law 93 yX12_taken ∈ lw_tbl := List.mem_of_getElem? (i := 1352) (by decide +kernel)
theorem lm_94 : Cond.methodLink R_law 94 yX11_latest ∈ lw_tbl := List.mem_of_getElem? (i := 925) (by decide +kernel)
theorem lm_97 : Cond.methodLink R_law 97 yX12_latest ∈ lw_tbl := List.mem_of_getElem? (i := 1356) (by decide +kernel)
theorem lm_98 : Cond.methodLink R_law 98 yX11_reach ∈ lw_tbl := List.mem_of_getElem? (i := 935) (by decide +kernel)
theorem lm_101 : Cond.methodLink R_law 101 yX12_reach ∈ lw_tbl := List.mem_of_getElem? (i := 1368) (by decide +kernel)
theorem lm_102 : Cond.methodLink R_law 102 yX11_meet ∈ lw_tbl := List.mem_of_getElem? (i := 939) (by decide +kernel)
theorem lm_105 : Cond.methodLink R_law 105 yX12_meet ∈ lw_tbl := List.mem_of_getElem? (i := 1372) (by decide +kernel)
theorem lm_106 : Cond.methodLink R_law 106 yX11_met ∈ lw_tbl := List.mem_of_getElem? (i := 948) (by decide +kernel)
theorem lm_110 : Cond.methodLink R_law 110 yX12_met ∈ lw_tbl := List.mem_of_getElem? (i := 1376) (by decide +kernel)
theorem lm_111 : Cond.methodLink R_law 111 yX11_table ∈ lw_tbl := List.mem_of_getElem? (i := 952) (by decide +kernel)
theorem lm_114 : Cond.methodLink R_law 114 yX12_table ∈ lw_tbl := List.mem_of_getElem? (i := 1380) (by decide +kernel)
theorem lm_115 : Cond.methodLink R_law 115 yX11_count ∈ lw_tbl := List.mem_of_getElem? (i := 975) (by decide +kernel)
theorem lm_118 : Cond.methodLink R_law 118 yX12_count ∈ lw_tbl := List.mem_of_getElem? (i := 1392) (by decide +kernel)
set_option maxHeartbeats 2000000 in
theorem law_stop {p : Program} {l : Launch} {e : Env} {s : State} {m : MethodId} {below : List Frame} {meth : Method} {c : Code} {b L : Nat} {xs : Nat → Int32} {G : GA} {h : HP} {i : Nat} (C : LC p s m meth c b L xs G) (hL : L ≤ 2560) (hi : i + 5 ≤ L) (r : Rel h) (ih : ∀ h2, Rel h2 → Lj p l e s m below meth c b G 1155 [(0, .ref b), (1, .ref (G.1 0)), (2, .ref (G.1 67)), (3, .int (nI i))] [] h2) : Lj p l e s m below meth c b G 148 [(0, .ref b), (1, .ref (G.1 0)), (2, .ref (G.1 67)), (3, .int (nI i))] [] h := by
  refine Y_al (q := 1) C dL_law_148 rfl rfl ?_
  refine Y_al (q := 0) C dL_law_149 rfl rfl ?_
  refine Y_il (q := 3) C dL_law_150 rfl rfl ?_
  refine Y_ic (v := nI 1) C dL_law_151 rfl ?_
  refine Y_iadd C dL_law_152 ?_
  refine Y_sld C (inL hL hi (by decide)) dL_law_153 ?_
  refine Y_al (q := 0) C dL_law_154 rfl rfl ?_
  refine Y_il (q := 3) C dL_law_155 rfl rfl ?_
  refine Y_ic (v := nI 2) C dL_law_156 rfl ?_
  refine Y_iadd C dL_law_157 ?_
  refine Y_sld C (inL hL hi (by decide)) dL_law_158 ?_
  refine Y_call (k0 := 0) [.int (xs (tn (nI i + nI 1))), .int (xs (tn (nI i + nI 2)))] [] C cw_X11_stop lm_13 wc_X11 nd_X11_stop ⟨by decide, by decide⟩ wi_X11_stop ws_X11_stop dL_law_159 rfl rfl rfl rfl rfl (Nat.le_of_ble_eq_true rfl) (L_stop (x1 := (xs (tn (nI i + nI 1)))) (x2 := (xs (tn (nI i + nI 2)))) r) (fun a h1 hm => ?_)
  refine Y_al (q := 2) C dL_law_162 rfl rfl ?_
  refine Y_al (q := 0) C dL_law_163 rfl rfl ?_
  refine Y_il (q := 3) C dL_law_164 rfl rfl ?_
  refine Y_ic (v := nI 1) C dL_law_165 rfl ?_
  refine Y_iadd C dL_law_166 ?_
  refine Y_sld C (inL hL hi (by decide)) dL_law_167 ?_
  refine Y_al (q := 0) C dL_law_168 rfl rfl ?_
  refine Y_il (q := 3) C dL_law_169 rfl rfl ?_
  refine Y_ic (v := nI 2) C dL_law_170 rfl ?_
  refine Y_iadd C dL_law_171 ?_
  refine Y_sld C (inL hL hi (by decide)) dL_law_172 ?_
  refine Y_call (k0 := 67) [.int (xs (tn (nI i + nI 1))), .int (xs (tn (nI i + nI 2)))] [.int a] C cw_X12_stop lm_17 wc_X12 nd_X12_stop ⟨by decide, by decide⟩ wi_X12_stop ws_X12_stop dL_law_173 rfl rfl rfl rfl rfl (Nat.le_of_ble_eq_true rfl) hm (fun b2 h2 hb => ?_)
  exact Y_eq (tgt := 1155) C dL_law_176 (by decide) (fun _ => ih h2 hb.2) (fun ne => absurd hb.1 ne)
set_option maxHeartbeats 2000000 in
theorem law_fare {p : Program} {l : Launch} {e : Env} {s : State} {m : MethodId} {below : List Frame} {meth : Method} {c : Code} {b L : Nat} {xs : Nat → Int32} {G : GA} {h : HP} {i : Nat} (C : LC p s m meth c b L xs G) (hL : L ≤ 2560) (hi : i + 5 ≤ L) (r : Rel h) (ih : ∀ h2, Rel h2 → Lj p l e s m below meth c b G 1155 [(0, .ref b), (1, .ref (G.1 0)), (2, .ref (G.1 67)), (3, .int (nI i))] [] h2) : Lj p l e s m below meth c b G 181 [(0, .ref b), (1, .ref (G.1 0)), (2, .ref (G.1 67)), (3, .int (nI i))] [] h := by
  refine Y_al (q := 1) C dL_law_181 rfl rfl ?_
  refine Y_al (q := 0) C dL_law_182 rfl rfl ?_
  refine Y_il (q := 3) C dL_law_183 rfl rfl ?_
  refine Y_ic (v := nI 1) C dL_law_184 rfl ?_
  refine Y_iadd C dL_law_185 ?_
  refine Y_sld C (inL hL hi (by decide)) dL_law_186 ?_
  refine Y_al (q := 0) C dL_law_187 rfl rfl ?_
  refine Y_il (q := 3) C dL_law_188 rfl rfl ?_
  refine Y_ic (v := nI 2) C dL_law_189 rfl ?_
  refine Y_iadd C dL_law_190 ?_
  refine Y_sld C (inL hL hi (by decide)) dL_law_191 ?_
  refine Y_al (q := 0) C dL_law_192 rfl rfl ?_
  refine Y_il (q := 3) C dL_law_193 rfl rfl ?_
  refine Y_ic (v := nI 3) C dL_law_194 rfl ?_
  refine Y_iadd C dL_law_195 ?_
  refine Y_sld C (inL hL hi (by decide)) dL_law_196 ?_
  refine Y_call (k0 := 0) [.int (xs (tn (nI i + nI 1))), .int (xs (tn (nI i + nI 2))), .int (xs (tn (nI i + nI 3)))] [] C cw_X11_fare lm_18 wc_X11 nd_X11_fare ⟨by decide, by decide⟩ wi_X11_fare ws_X11_fare dL_law_197 rfl rfl rfl rfl rfl (Nat.le_of_ble_eq_true rfl) (L_fare (x1 := (xs (tn (nI i + nI 1)))) (x2 := (xs (tn (nI i + nI 2)))) (x3 := (xs (tn (nI i + nI 3)))) r) (fun a h1 hm => ?_)
  refine Y_al (q := 2) C dL_law_200 rfl rfl ?_
  refine Y_al (q := 0) C dL_law_201 rfl rfl ?_
  refine Y_il (q := 3) C dL_law_202 rfl rfl ?_
  refine Y_ic (v := nI 1) C dL_law_203 rfl ?_
  refine Y_iadd C dL_law_204 ?_
  refine Y_sld C (inL hL hi (by decide)) dL_law_205 ?_
  refine Y_al (q := 0) C dL_law_206 rfl rfl ?_
  refine Y_il (q := 3) C dL_law_207 rfl rfl ?_
  refine Y_ic (v := nI 2) C dL_law_208 rfl ?_
  refine Y_iadd C dL_law_209 ?_
  refine Y_sld C (inL hL hi (by decide)) dL_law_210 ?_
  refine Y_al (q := 0) C dL_law_211 rfl rfl ?_
  refine Y_il (q := 3) C dL_law_212 rfl rfl ?_
  refine Y_ic (v := nI 3) C dL_law_213 rfl ?_
  refine Y_iadd C dL_law_214 ?_
  refine Y_sld C (inL hL hi (by decide)) dL_law_215 ?_
  refine Y_call (k0 := 67) [.int (xs (tn (nI i + nI 1))), .int (xs (tn (nI i + nI 2))), .int (xs (tn (nI i + nI 3)))] [.int a] C cw_X12_fare lm_22 wc_X12 nd_X12_fare ⟨by decide, by decide⟩ wi_X12_fare ws_X12_fare dL_law_216 rfl rfl rfl rfl rfl (Nat.le_of_ble_eq_true rfl) hm (fun b2 h2 hb => ?_)
  exact Y_eq (tgt := 1155) C dL_law_219 (by decide) (fun _ => ih h2 hb.2) (fun ne => absurd hb.1 ne)
set_option maxHeartbeats 2000000 in
theorem law_day {p : Program} {l : Launch} {e : Env} {s : State} {m : MethodId} {below : List Frame} {meth : Method} {c : Code} {b L : Nat} {xs : Nat → Int32} {G : GA} {h : HP} {i : Nat} (C : LC p s m meth c b L xs G) (hL : L ≤ 2560) (hi : i + 5 ≤ L) (r : Rel h) (ih : ∀ h2, Rel h2 → Lj p l e s m below meth c b G 1155 [(0, .ref b), (1, .ref (G.1 0)), (2, .ref (G.1 67)), (3, .int (nI i))] [] h2) : Lj p l e s m below meth c b G 224 [(0, .ref b), (1, .ref (G.1 0)), (2, .ref (G.1 67)), (3, .int (nI i))] [] h := by
  refine Y_al (q := 1) C dL_law_224 rfl rfl ?_
  refine Y_al (q := 0) C dL_law_225 rfl rfl ?_
  refine Y_il (q := 3) C dL_law_226 rfl rfl ?_
  refine Y_ic (v := nI 1) C dL_law_227 rfl ?_
  refine Y_iadd C dL_law_228 ?_
  refine Y_sld C (inL hL hi (by decide)) dL_law_229 ?_
  refine Y_al (q := 0) C dL_law_230 rfl rfl ?_
  refine Y_il (q := 3) C dL_law_231 rfl rfl ?_
  refine Y_ic (v := nI 2) C dL_law_232 rfl ?_
  refine Y_iadd C dL_law_233 ?_
  refine Y_sld C (inL hL hi (by decide)) dL_law_234 ?_
  refine Y_call (k0 := 0) [.int (xs (tn (nI i + nI 1))), .int (xs (tn (nI i + nI 2)))] [] C cw_X11_day lm_23 wc_X11 nd_X11_day ⟨by decide, by decide⟩ wi_X11_day ws_X11_day dL_law_235 rfl rfl rfl rfl rfl (Nat.le_of_ble_eq_true rfl) (L_day (x1 := (xs (tn (nI i + nI 1)))) (x2 := (xs (tn (nI i + nI 2)))) r) (fun a h1 hm => ?_)
  refine Y_al (q := 2) C dL_law_238 rfl rfl ?_
  refine Y_al (q := 0) C dL_law_239 rfl rfl ?_
  refine Y_il (q := 3) C dL_law_240 rfl rfl ?_
  refine Y_ic (v := nI 1) C dL_law_241 rfl ?_
  refine Y_iadd C dL_law_242 ?_
  refine Y_sld C (inL hL hi (by decide)) dL_law_243 ?_
  refine Y_al (q := 0) C dL_law_244 rfl rfl ?_
  refine Y_il (q := 3) C dL_law_245 rfl rfl ?_
  refine Y_ic (v := nI 2) C dL_law_246 rfl ?_
  refine Y_iadd C dL_law_247 ?_
  refine Y_sld C (inL hL hi (by decide)) dL_law_248 ?_
  refine Y_call (k0 := 67) [.int (xs (tn (nI i + nI 1))), .int (xs (tn (nI i + nI 2)))] [.int a] C cw_X12_day lm_26 wc_X12 nd_X12_day ⟨by decide, by decide⟩ wi_X12_day ws_X12_day dL_law_249 rfl rfl rfl rfl rfl (Nat.le_of_ble_eq_true rfl) hm (fun b2 h2 hb => ?_)
  exact Y_eq (tgt := 1155) C dL_law_252 (by decide) (fun _ => ih h2 hb.2) (fun ne => absurd hb.1 ne)
set_option maxHeartbeats 2000000 in
theorem law_trip {p : Program} {l : Launch} {e : Env} {s : State} {m : MethodId} {below : List Frame} {meth : Method} {c : Code} {b L : Nat} {xs : Nat → Int32} {G : GA} {h : HP} {i : Nat} (C : LC p s m meth c b L xs G) (hL : L ≤ 2560) (hi : i + 5 ≤ L) (r : Rel h) (ih : ∀ h2, Rel h2 → Lj p l e s m below meth c b G 1155 [(0, .ref b), (1, .ref (G.1 0)), (2, .ref (G.1 67)), (3, .int (nI i))] [] h2) : Lj p l e s m below meth c b G 257 [(0, .ref b), (1, .ref (G.1 0)), (2, .ref (G.1 67)), (3, .int (nI i))] [] h := by
  refine Y_al (q := 1) C dL_law_257 rfl rfl ?_
  refine Y_al (q := 0) C dL_law_258 rfl rfl ?_
  refine Y_il (q := 3) C dL_law_259 rfl rfl ?_
  refine Y_ic (v := nI 1) C dL_law_260 rfl ?_
  refine Y_iadd C dL_law_261 ?_
  refine Y_sld C (inL hL hi (by decide)) dL_law_262 ?_
  refine Y_al (q := 0) C dL_law_263 rfl rfl ?_
  refine Y_il (q := 3) C dL_law_264 rfl rfl ?_
  refine Y_ic (v := nI 2) C dL_law_265 rfl ?_
  refine Y_iadd C dL_law_266 ?_
  refine Y_sld C (inL hL hi (by decide)) dL_law_267 ?_
  refine Y_al (q := 0) C dL_law_268 rfl rfl ?_
  refine Y_il (q := 3) C dL_law_269 rfl rfl ?_
  refine Y_ic (v := nI 3) C dL_law_270 rfl ?_
  refine Y_iadd C dL_law_271 ?_
  refine Y_sld C (inL hL hi (by decide)) dL_law_272 ?_
  refine Y_call (k0 := 0) [.int (xs (tn (nI i + nI 1))), .int (xs (tn (nI i + nI 2))), .int (xs (tn (nI i + nI 3)))] [] C cw_X11_trip lm_27 wc_X11 nd_X11_trip ⟨by decide, by decide⟩ wi_X11_trip ws_X11_trip dL_law_273 rfl rfl rfl rfl rfl (Nat.le_of_ble_eq_true rfl) (L_trip (x1 := (xs (tn (nI i + nI 1)))) (x2 := (xs (tn (nI i + nI 2)))) (x3 := (xs (tn (nI i + nI 3)))) r) (fun a h1 hm => ?_)
  refine Y_al (q := 2) C dL_law_276 rfl rfl ?_
  refine Y_al (q := 0) C dL_law_277 rfl rfl ?_
  refine Y_il (q := 3) C dL_law_278 rfl rfl ?_
  refine Y_ic (v := nI 1) C dL_law_279 rfl ?_
  refine Y_iadd C dL_law_280 ?_
  refine Y_sld C (inL hL hi (by decide)) dL_law_281 ?_
  refine Y_al (q := 0) C dL_law_282 rfl rfl ?_
  refine Y_il (q := 3) C dL_law_283 rfl rfl ?_
  refine Y_ic (v := nI 2) C dL_law_284 rfl ?_
  refine Y_iadd C dL_law_285 ?_
  refine Y_sld C (inL hL hi (by decide)) dL_law_286 ?_
  refine Y_al (q := 0) C dL_law_287 rfl rfl ?_
  refine Y_il (q := 3) C dL_law_288 rfl rfl ?_
  refine Y_ic (v := nI 3) C dL_law_289 rfl ?_
  refine Y_iadd C dL_law_290 ?_
  refine Y_sld C (inL hL hi (by decide)) dL_law_291 ?_
  refine Y_call (k0 := 67) [.int (xs (tn (nI i + nI 1))), .int (xs (tn (nI i + nI 2))), .int (xs (tn (nI i + nI 3)))] [.int a] C cw_X12_trip lm_30 wc_X12 nd_X12_trip ⟨by decide, by decide⟩ wi_X12_trip ws_X12_trip dL_law_292 rfl rfl rfl rfl rfl (Nat.le_of_ble_eq_true rfl) hm (fun b2 h2 hb => ?_)
  exact Y_eq (tgt := 1155) C dL_law_295 (by decide) (fun _ => ih h2 hb.2) (fun ne => absurd hb.1 ne)
set_option maxHeartbeats 2000000 in
theorem law_call {p : Program} {l : Launch} {e : Env} {s : State} {m : MethodId} {below : List Frame} {meth : Method} {c : Code} {b L : Nat} {xs : Nat → Int32} {G : GA} {h : HP} {i : Nat} (C : LC p s m meth c b L xs G) (hL : L ≤ 2560) (hi : i + 5 ≤ L) (r : Rel h) (ih : ∀ h2, Rel h2 → Lj p l e s m below meth c b G 1155 [(0, .ref b), (1, .ref (G.1 0)), (2, .ref (G.1 67)), (3, .int (nI i))] [] h2) : Lj p l e s m below meth c b G 300 [(0, .ref b), (1, .ref (G.1 0)), (2, .ref (G.1 67)), (3, .int (nI i))] [] h := by
  refine Y_al (q := 1) C dL_law_300 rfl rfl ?_
  refine Y_al (q := 0) C dL_law_301 rfl rfl ?_
  refine Y_il (q := 3) C dL_law_302 rfl rfl ?_
  refine Y_ic (v := nI 1) C dL_law_303 rfl ?_
  refine Y_iadd C dL_law_304 ?_
  refine Y_sld C (inL hL hi (by decide)) dL_law_305 ?_
  refine Y_al (q := 0) C dL_law_306 rfl rfl ?_
  refine Y_il (q := 3) C dL_law_307 rfl rfl ?_
  refine Y_ic (v := nI 2) C dL_law_308 rfl ?_
  refine Y_iadd C dL_law_309 ?_
  refine Y_sld C (inL hL hi (by decide)) dL_law_310 ?_
  refine Y_al (q := 0) C dL_law_311 rfl rfl ?_
  refine Y_il (q := 3) C dL_law_312 rfl rfl ?_
  refine Y_ic (v := nI 3) C dL_law_313 rfl ?_
  refine Y_iadd C dL_law_314 ?_
  refine Y_sld C (inL hL hi (by decide)) dL_law_315 ?_
  refine Y_al (q := 0) C dL_law_316 rfl rfl ?_
  refine Y_il (q := 3) C dL_law_317 rfl rfl ?_
  refine Y_ic (v := nI 4) C dL_law_318 rfl ?_
  refine Y_iadd C dL_law_319 ?_
  refine Y_sld C (inL hL hi (by decide)) dL_law_320 ?_
  refine Y_call (k0 := 0) [.int (xs (tn (nI i + nI 1))), .int (xs (tn (nI i + nI 2))), .int (xs (tn (nI i + nI 3))), .int (xs (tn (nI i + nI 4)))] [] C cw_X11_call lm_31 wc_X11 nd_X11_call ⟨by decide, by decide⟩ wi_X11_call ws_X11_call dL_law_321 rfl rfl rfl rfl rfl (Nat.le_of_ble_eq_true rfl) (L_call (x1 := (xs (tn (nI i + nI 1)))) (x2 := (xs (tn (nI i + nI 2)))) (x3 := (xs (tn (nI i + nI 3)))) (x4 := (xs (tn (nI i + nI 4)))) r) (fun a h1 hm => ?_)
  refine Y_al (q := 2) C dL_law_324 rfl rfl ?_
  refine Y_al (q := 0) C dL_law_325 rfl rfl ?_
  refine Y_il (q := 3) C dL_law_326 rfl rfl ?_
  refine Y_ic (v := nI 1) C dL_law_327 rfl ?_
  refine Y_iadd C dL_law_328 ?_
  refine Y_sld C (inL hL hi (by decide)) dL_law_329 ?_
  refine Y_al (q := 0) C dL_law_330 rfl rfl ?_
  refine Y_il (q := 3) C dL_law_331 rfl rfl ?_
  refine Y_ic (v := nI 2) C dL_law_332 rfl ?_
  refine Y_iadd C dL_law_333 ?_
  refine Y_sld C (inL hL hi (by decide)) dL_law_334 ?_
  refine Y_al (q := 0) C dL_law_335 rfl rfl ?_
  refine Y_il (q := 3) C dL_law_336 rfl rfl ?_
  refine Y_ic (v := nI 3) C dL_law_337 rfl ?_
  refine Y_iadd C dL_law_338 ?_
  refine Y_sld C (inL hL hi (by decide)) dL_law_339 ?_
  refine Y_al (q := 0) C dL_law_340 rfl rfl ?_
  refine Y_il (q := 3) C dL_law_341 rfl rfl ?_
  refine Y_ic (v := nI 4) C dL_law_342 rfl ?_
  refine Y_iadd C dL_law_343 ?_
  refine Y_sld C (inL hL hi (by decide)) dL_law_344 ?_
  refine Y_call (k0 := 67) [.int (xs (tn (nI i + nI 1))), .int (xs (tn (nI i + nI 2))), .int (xs (tn (nI i + nI 3))), .int (xs (tn (nI i + nI 4)))] [.int a] C cw_X12_call lm_35 wc_X12 nd_X12_call ⟨by decide, by decide⟩ wi_X12_call ws_X12_call dL_law_345 rfl rfl rfl rfl rfl (Nat.le_of_ble_eq_true rfl) hm (fun b2 h2 hb => ?_)
  exact Y_eq (tgt := 1155) C dL_law_348 (by decide) (fun _ => ih h2 hb.2) (fun ne => absurd hb.1 ne)
set_option maxHeartbeats 2000000 in
theorem law_miss {p : Program} {l : Launch} {e : Env} {s : State} {m : MethodId} {below : List Frame} {meth : Method} {c : Code} {b L : Nat} {xs : Nat → Int32} {G : GA} {h : HP} {i : Nat} (C : LC p s m meth c b L xs G) (hL : L ≤ 2560) (hi : i + 5 ≤ L) (r : Rel h) (ih : ∀ h2, Rel h2 → Lj p l e s m below meth c b G 1155 [(0, .ref b), (1, .ref (G.1 0)), (2, .ref (G.1 67)), (3, .int (nI i))] [] h2) : Lj p l e s m below meth c b G 353 [(0, .ref b), (1, .ref (G.1 0)), (2, .ref (G.1 67)), (3, .int (nI i))] [] h := by
  by_cases hz : xs (tn (nI i + nI 3)) = 0
  · refine Y_al (q := 1) C dL_law_353 rfl rfl ?_
    refine Y_al (q := 0) C dL_law_354 rfl rfl ?_
    refine Y_il (q := 3) C dL_law_355 rfl rfl ?_
    refine Y_ic (v := nI 1) C dL_law_356 rfl ?_
    refine Y_iadd C dL_law_357 ?_
    refine Y_sld C (inL hL hi (by decide)) dL_law_358 ?_
    refine Y_al (q := 0) C dL_law_359 rfl rfl ?_
    refine Y_il (q := 3) C dL_law_360 rfl rfl ?_
    refine Y_ic (v := nI 2) C dL_law_361 rfl ?_
    refine Y_iadd C dL_law_362 ?_
    refine Y_sld C (inL hL hi (by decide)) dL_law_363 ?_
    refine Y_al (q := 0) C dL_law_364 rfl rfl ?_
    refine Y_il (q := 3) C dL_law_365 rfl rfl ?_
    refine Y_ic (v := nI 3) C dL_law_366 rfl ?_
    refine Y_iadd C dL_law_367 ?_
    refine Y_sld C (inL hL hi (by decide)) dL_law_368 ?_
    refine Y_ifeq (tgt := 376) C dL_law_369 (by decide) (fun _ => ?_) (fun ne => absurd hz ne)
    refine Y_ic (v := nI 0) C dL_law_376 rfl ?_
    refine Y_call (k0 := 0) [.int (xs (tn (nI i + nI 1))), .int (xs (tn (nI i + nI 2))), .int (b2i false)] [] C cw_X11_miss lm_36 wc_X11 nd_X11_miss ⟨by decide, by decide⟩ wi_X11_miss ws_X11_miss dL_law_377 rfl rfl rfl rfl rfl (Nat.le_of_ble_eq_true rfl) (L_miss (x1 := (xs (tn (nI i + nI 1)))) (x2 := (xs (tn (nI i + nI 2)))) (x3 := false) r) (fun a h1 hm => ?_)
    refine Y_al (q := 2) C dL_law_380 rfl rfl ?_
    refine Y_al (q := 0) C dL_law_381 rfl rfl ?_
    refine Y_il (q := 3) C dL_law_382 rfl rfl ?_
    refine Y_ic (v := nI 1) C dL_law_383 rfl ?_
    refine Y_iadd C dL_law_384 ?_
    refine Y_sld C (inL hL hi (by decide)) dL_law_385 ?_
    refine Y_al (q := 0) C dL_law_386 rfl rfl ?_
    refine Y_il (q := 3) C dL_law_387 rfl rfl ?_
    refine Y_ic (v := nI 2) C dL_law_388 rfl ?_
    refine Y_iadd C dL_law_389 ?_
    refine Y_sld C (inL hL hi (by decide)) dL_law_390 ?_
    refine Y_al (q := 0) C dL_law_391 rfl rfl ?_
    refine Y_il (q := 3) C dL_law_392 rfl rfl ?_
    refine Y_ic (v := nI 3) C dL_law_393 rfl ?_
    refine Y_iadd C dL_law_394 ?_
    refine Y_sld C (inL hL hi (by decide)) dL_law_395 ?_
    refine Y_ifeq (tgt := 403) C dL_law_396 (by decide) (fun _ => ?_) (fun ne => absurd hz ne)
    refine Y_ic (v := nI 0) C dL_law_403 rfl ?_
    refine Y_call (k0 := 67) [.int (xs (tn (nI i + nI 1))), .int (xs (tn (nI i + nI 2))), .int (b2i false)] [.int a] C cw_X12_miss lm_40 wc_X12 nd_X12_miss ⟨by decide, by decide⟩ wi_X12_miss ws_X12_miss dL_law_404 rfl rfl rfl rfl rfl (Nat.le_of_ble_eq_true rfl) hm (fun b2 h2 hb => ?_)
    exact Y_eq (tgt := 1155) C dL_law_407 (by decide) (fun _ => ih h2 hb.2) (fun ne => absurd hb.1 ne)
  · refine Y_al (q := 1) C dL_law_353 rfl rfl ?_
    refine Y_al (q := 0) C dL_law_354 rfl rfl ?_
    refine Y_il (q := 3) C dL_law_355 rfl rfl ?_
    refine Y_ic (v := nI 1) C dL_law_356 rfl ?_
    refine Y_iadd C dL_law_357 ?_
    refine Y_sld C (inL hL hi (by decide)) dL_law_358 ?_
    refine Y_al (q := 0) C dL_law_359 rfl rfl ?_
    refine Y_il (q := 3) C dL_law_360 rfl rfl ?_
    refine Y_ic (v := nI 2) C dL_law_361 rfl ?_
    refine Y_iadd C dL_law_362 ?_
    refine Y_sld C (inL hL hi (by decide)) dL_law_363 ?_
    refine Y_al (q := 0) C dL_law_364 rfl rfl ?_
    refine Y_il (q := 3) C dL_law_365 rfl rfl ?_
    refine Y_ic (v := nI 3) C dL_law_366 rfl ?_
    refine Y_iadd C dL_law_367 ?_
    refine Y_sld C (inL hL hi (by decide)) dL_law_368 ?_
    refine Y_ifeq (tgt := 376) C dL_law_369 (by decide) (fun e0 => absurd e0 hz) (fun _ => ?_)
    refine Y_ic (v := nI 1) C dL_law_372 rfl ?_
    refine Y_goto (tgt := 377) C dL_law_373 (by decide) ?_
    refine Y_call (k0 := 0) [.int (xs (tn (nI i + nI 1))), .int (xs (tn (nI i + nI 2))), .int (b2i true)] [] C cw_X11_miss lm_36 wc_X11 nd_X11_miss ⟨by decide, by decide⟩ wi_X11_miss ws_X11_miss dL_law_377 rfl rfl rfl rfl rfl (Nat.le_of_ble_eq_true rfl) (L_miss (x1 := (xs (tn (nI i + nI 1)))) (x2 := (xs (tn (nI i + nI 2)))) (x3 := true) r) (fun a h1 hm => ?_)
    refine Y_al (q := 2) C dL_law_380 rfl rfl ?_
    refine Y_al (q := 0) C dL_law_381 rfl rfl ?_
    refine Y_il (q := 3) C dL_law_382 rfl rfl ?_
    refine Y_ic (v := nI 1) C dL_law_383 rfl ?_
    refine Y_iadd C dL_law_384 ?_
    refine Y_sld C (inL hL hi (by decide)) dL_law_385 ?_
    refine Y_al (q := 0) C dL_law_386 rfl rfl ?_
    refine Y_il (q := 3) C dL_law_387 rfl rfl ?_
    refine Y_ic (v := nI 2) C dL_law_388 rfl ?_
    refine Y_iadd C dL_law_389 ?_
    refine Y_sld C (inL hL hi (by decide)) dL_law_390 ?_
    refine Y_al (q := 0) C dL_law_391 rfl rfl ?_
    refine Y_il (q := 3) C dL_law_392 rfl rfl ?_
    refine Y_ic (v := nI 3) C dL_law_393 rfl ?_
    refine Y_iadd C dL_law_394 ?_
    refine Y_sld C (inL hL hi (by decide)) dL_law_395 ?_
    refine Y_ifeq (tgt := 403) C dL_law_396 (by decide) (fun e0 => absurd e0 hz) (fun _ => ?_)
    refine Y_ic (v := nI 1) C dL_law_399 rfl ?_
    refine Y_goto (tgt := 404) C dL_law_400 (by decide) ?_
    refine Y_call (k0 := 67) [.int (xs (tn (nI i + nI 1))), .int (xs (tn (nI i + nI 2))), .int (b2i true)] [.int a] C cw_X12_miss lm_40 wc_X12 nd_X12_miss ⟨by decide, by decide⟩ wi_X12_miss ws_X12_miss dL_law_404 rfl rfl rfl rfl rfl (Nat.le_of_ble_eq_true rfl) hm (fun b2 h2 hb => ?_)
    exact Y_eq (tgt := 1155) C dL_law_407 (by decide) (fun _ => ih h2 hb.2) (fun ne => absurd hb.1 ne)
set_option maxHeartbeats 2000000 in
theorem law_walk {p : Program} {l : Launch} {e : Env} {s : State} {m : MethodId} {below : List Frame} {meth : Method} {c : Code} {b L : Nat} {xs : Nat → Int32} {G : GA} {h : HP} {i : Nat} (C : LC p s m meth c b L xs G) (hL : L ≤ 2560) (hi : i + 5 ≤ L) (r : Rel h) (ih : ∀ h2, Rel h2 → Lj p l e s m below meth c b G 1155 [(0, .ref b), (1, .ref (G.1 0)), (2, .ref (G.1 67)), (3, .int (nI i))] [] h2) : Lj p l e s m below meth c b G 412 [(0, .ref b), (1, .ref (G.1 0)), (2, .ref (G.1 67)), (3, .int (nI i))] [] h := by
  refine Y_al (q := 1) C dL_law_412 rfl rfl ?_
  refine Y_al (q := 0) C dL_law_413 rfl rfl ?_
  refine Y_il (q := 3) C dL_law_414 rfl rfl ?_
  refine Y_ic (v := nI 1) C dL_law_415 rfl ?_
  refine Y_iadd C dL_law_416 ?_
  refine Y_sld C (inL hL hi (by decide)) dL_law_417 ?_
  refine Y_al (q := 0) C dL_law_418 rfl rfl ?_
  refine Y_il (q := 3) C dL_law_419 rfl rfl ?_
  refine Y_ic (v := nI 2) C dL_law_420 rfl ?_
  refine Y_iadd C dL_law_421 ?_
  refine Y_sld C (inL hL hi (by decide)) dL_law_422 ?_
  refine Y_al (q := 0) C dL_law_423 rfl rfl ?_
  refine Y_il (q := 3) C dL_law_424 rfl rfl ?_
  refine Y_ic (v := nI 3) C dL_law_425 rfl ?_
  refine Y_iadd C dL_law_426 ?_
  refine Y_sld C (inL hL hi (by decide)) dL_law_427 ?_
  refine Y_call (k0 := 0) [.int (xs (tn (nI i + nI 1))), .int (xs (tn (nI i + nI 2))), .int (xs (tn (nI i + nI 3)))] [] C cw_X11_walk lm_41 wc_X11 nd_X11_walk ⟨by decide, by decide⟩ wi_X11_walk ws_X11_walk dL_law_428 rfl rfl rfl rfl rfl (Nat.le_of_ble_eq_true rfl) (L_walk (x1 := (xs (tn (nI i + nI 1)))) (x2 := (xs (tn (nI i + nI 2)))) (x3 := (xs (tn (nI i + nI 3)))) r) (fun a h1 hm => ?_)
  refine Y_al (q := 2) C dL_law_431 rfl rfl ?_
  refine Y_al (q := 0) C dL_law_432 rfl rfl ?_
  refine Y_il (q := 3) C dL_law_433 rfl rfl ?_
  refine Y_ic (v := nI 1) C dL_law_434 rfl ?_
  refine Y_iadd C dL_law_435 ?_
  refine Y_sld C (inL hL hi (by decide)) dL_law_436 ?_
  refine Y_al (q := 0) C dL_law_437 rfl rfl ?_
  refine Y_il (q := 3) C dL_law_438 rfl rfl ?_
  refine Y_ic (v := nI 2) C dL_law_439 rfl ?_
  refine Y_iadd C dL_law_440 ?_
  refine Y_sld C (inL hL hi (by decide)) dL_law_441 ?_
  refine Y_al (q := 0) C dL_law_442 rfl rfl ?_
  refine Y_il (q := 3) C dL_law_443 rfl rfl ?_
  refine Y_ic (v := nI 3) C dL_law_444 rfl ?_
  refine Y_iadd C dL_law_445 ?_
  refine Y_sld C (inL hL hi (by decide)) dL_law_446 ?_
  refine Y_call (k0 := 67) [.int (xs (tn (nI i + nI 1))), .int (xs (tn (nI i + nI 2))), .int (xs (tn (nI i + nI 3)))] [.int a] C cw_X12_walk lm_44 wc_X12 nd_X12_walk ⟨by decide, by decide⟩ wi_X12_walk ws_X12_walk dL_law_447 rfl rfl rfl rfl rfl (Nat.le_of_ble_eq_true rfl) hm (fun b2 h2 hb => ?_)
  exact Y_eq (tgt := 1155) C dL_law_450 (by decide) (fun _ => ih h2 hb.2) (fun ne => absurd hb.1 ne)
set_option maxHeartbeats 2000000 in
theorem law_shuttle {p : Program} {l : Launch} {e : Env} {s : State} {m : MethodId} {below : List Frame} {meth : Method} {c : Code} {b L : Nat} {xs : Nat → Int32} {G : GA} {h : HP} {i : Nat} (C : LC p s m meth c b L xs G) (hL : L ≤ 2560) (hi : i + 5 ≤ L) (r : Rel h) (ih : ∀ h2, Rel h2 → Lj p l e s m below meth c b G 1155 [(0, .ref b), (1, .ref (G.1 0)), (2, .ref (G.1 67)), (3, .int (nI i))] [] h2) : Lj p l e s m below meth c b G 455 [(0, .ref b), (1, .ref (G.1 0)), (2, .ref (G.1 67)), (3, .int (nI i))] [] h := by
  refine Y_al (q := 1) C dL_law_455 rfl rfl ?_
  refine Y_al (q := 0) C dL_law_456 rfl rfl ?_
  refine Y_il (q := 3) C dL_law_457 rfl rfl ?_
  refine Y_ic (v := nI 1) C dL_law_458 rfl ?_
  refine Y_iadd C dL_law_459 ?_
  refine Y_sld C (inL hL hi (by decide)) dL_law_460 ?_
  refine Y_al (q := 0) C dL_law_461 rfl rfl ?_
  refine Y_il (q := 3) C dL_law_462 rfl rfl ?_
  refine Y_ic (v := nI 2) C dL_law_463 rfl ?_
  refine Y_iadd C dL_law_464 ?_
  refine Y_sld C (inL hL hi (by decide)) dL_law_465 ?_
  refine Y_al (q := 0) C dL_law_466 rfl rfl ?_
  refine Y_il (q := 3) C dL_law_467 rfl rfl ?_
  refine Y_ic (v := nI 3) C dL_law_468 rfl ?_
  refine Y_iadd C dL_law_469 ?_
  refine Y_sld C (inL hL hi (by decide)) dL_law_470 ?_
  refine Y_al (q := 0) C dL_law_471 rfl rfl ?_
  refine Y_il (q := 3) C dL_law_472 rfl rfl ?_
  refine Y_ic (v := nI 4) C dL_law_473 rfl ?_
  refine Y_iadd C dL_law_474 ?_
  refine Y_sld C (inL hL hi (by decide)) dL_law_475 ?_
  refine Y_call (k0 := 0) [.int (xs (tn (nI i + nI 1))), .int (xs (tn (nI i + nI 2))), .int (xs (tn (nI i + nI 3))), .int (xs (tn (nI i + nI 4)))] [] C cw_X11_shuttle lm_45 wc_X11 nd_X11_shuttle ⟨by decide, by decide⟩ wi_X11_shuttle ws_X11_shuttle dL_law_476 rfl rfl rfl rfl rfl (Nat.le_of_ble_eq_true rfl) (L_shuttle (x1 := (xs (tn (nI i + nI 1)))) (x2 := (xs (tn (nI i + nI 2)))) (x3 := (xs (tn (nI i + nI 3)))) (x4 := (xs (tn (nI i + nI 4)))) r) (fun a h1 hm => ?_)
  refine Y_al (q := 2) C dL_law_479 rfl rfl ?_
  refine Y_al (q := 0) C dL_law_480 rfl rfl ?_
  refine Y_il (q := 3) C dL_law_481 rfl rfl ?_
  refine Y_ic (v := nI 1) C dL_law_482 rfl ?_
  refine Y_iadd C dL_law_483 ?_
  refine Y_sld C (inL hL hi (by decide)) dL_law_484 ?_
  refine Y_al (q := 0) C dL_law_485 rfl rfl ?_
  refine Y_il (q := 3) C dL_law_486 rfl rfl ?_
  refine Y_ic (v := nI 2) C dL_law_487 rfl ?_
  refine Y_iadd C dL_law_488 ?_
  refine Y_sld C (inL hL hi (by decide)) dL_law_489 ?_
  refine Y_al (q := 0) C dL_law_490 rfl rfl ?_
  refine Y_il (q := 3) C dL_law_491 rfl rfl ?_
  refine Y_ic (v := nI 3) C dL_law_492 rfl ?_
  refine Y_iadd C dL_law_493 ?_
  refine Y_sld C (inL hL hi (by decide)) dL_law_494 ?_
  refine Y_al (q := 0) C dL_law_495 rfl rfl ?_
  refine Y_il (q := 3) C dL_law_496 rfl rfl ?_
  refine Y_ic (v := nI 4) C dL_law_497 rfl ?_
  refine Y_iadd C dL_law_498 ?_
  refine Y_sld C (inL hL hi (by decide)) dL_law_499 ?_
  refine Y_call (k0 := 67) [.int (xs (tn (nI i + nI 1))), .int (xs (tn (nI i + nI 2))), .int (xs (tn (nI i + nI 3))), .int (xs (tn (nI i + nI 4)))] [.int a] C cw_X12_shuttle lm_48 wc_X12 nd_X12_shuttle ⟨by decide, by decide⟩ wi_X12_shuttle ws_X12_shuttle dL_law_500 rfl rfl rfl rfl rfl (Nat.le_of_ble_eq_true rfl) hm (fun b2 h2 hb => ?_)
  exact Y_eq (tgt := 1155) C dL_law_503 (by decide) (fun _ => ih h2 hb.2) (fun ne => absurd hb.1 ne)
set_option maxHeartbeats 2000000 in
theorem law_asked {p : Program} {l : Launch} {e : Env} {s : State} {m : MethodId} {below : List Frame} {meth : Method} {c : Code} {b L : Nat} {xs : Nat → Int32} {G : GA} {h : HP} {i : Nat} (C : LC p s m meth c b L xs G) (hL : L ≤ 2560) (hi : i + 5 ≤ L) (r : Rel h) (ih : ∀ h2, Rel h2 → Lj p l e s m below meth c b G 1155 [(0, .ref b), (1, .ref (G.1 0)), (2, .ref (G.1 67)), (3, .int (nI i))] [] h2) : Lj p l e s m below meth c b G 508 [(0, .ref b), (1, .ref (G.1 0)), (2, .ref (G.1 67)), (3, .int (nI i))] [] h := by
  refine Y_al (q := 1) C dL_law_508 rfl rfl ?_
  refine Y_al (q := 0) C dL_law_509 rfl rfl ?_
  refine Y_il (q := 3) C dL_law_510 rfl rfl ?_
  refine Y_ic (v := nI 1) C dL_law_511 rfl ?_
  refine Y_iadd C dL_law_512 ?_
  refine Y_sld C (inL hL hi (by decide)) dL_law_513 ?_
  refine Y_al (q := 0) C dL_law_514 rfl rfl ?_
  refine Y_il (q := 3) C dL_law_515 rfl rfl ?_
  refine Y_ic (v := nI 2) C dL_law_516 rfl ?_
  refine Y_iadd C dL_law_517 ?_
  refine Y_sld C (inL hL hi (by decide)) dL_law_518 ?_
  refine Y_call (k0 := 0) [.int (xs (tn (nI i + nI 1))), .int (xs (tn (nI i + nI 2)))] [] C cw_X11_asked lm_49 wc_X11 nd_X11_asked ⟨by decide, by decide⟩ wi_X11_asked ws_X11_asked dL_law_519 rfl rfl rfl rfl rfl (Nat.le_of_ble_eq_true rfl) (L_asked (x1 := (xs (tn (nI i + nI 1)))) (x2 := (xs (tn (nI i + nI 2)))) r) (fun a h1 hm => ?_)
  refine Y_al (q := 2) C dL_law_522 rfl rfl ?_
  refine Y_al (q := 0) C dL_law_523 rfl rfl ?_
  refine Y_il (q := 3) C dL_law_524 rfl rfl ?_
  refine Y_ic (v := nI 1) C dL_law_525 rfl ?_
  refine Y_iadd C dL_law_526 ?_
  refine Y_sld C (inL hL hi (by decide)) dL_law_527 ?_
  refine Y_al (q := 0) C dL_law_528 rfl rfl ?_
  refine Y_il (q := 3) C dL_law_529 rfl rfl ?_
  refine Y_ic (v := nI 2) C dL_law_530 rfl ?_
  refine Y_iadd C dL_law_531 ?_
  refine Y_sld C (inL hL hi (by decide)) dL_law_532 ?_
  refine Y_call (k0 := 67) [.int (xs (tn (nI i + nI 1))), .int (xs (tn (nI i + nI 2)))] [.int a] C cw_X12_asked lm_52 wc_X12 nd_X12_asked ⟨by decide, by decide⟩ wi_X12_asked ws_X12_asked dL_law_533 rfl rfl rfl rfl rfl (Nat.le_of_ble_eq_true rfl) hm (fun b2 h2 hb => ?_)
  exact Y_eq (tgt := 1155) C dL_law_536 (by decide) (fun _ => ih h2 hb.2) (fun ne => absurd hb.1 ne)
set_option maxHeartbeats 2000000 in
theorem law_late {p : Program} {l : Launch} {e : Env} {s : State} {m : MethodId} {below : List Frame} {meth : Method} {c : Code} {b L : Nat} {xs : Nat → Int32} {G : GA} {h : HP} {i : Nat} (C : LC p s m meth c b L xs G) (hL : L ≤ 2560) (hi : i + 5 ≤ L) (r : Rel h) (ih : ∀ h2, Rel h2 → Lj p l e s m below meth c b G 1155 [(0, .ref b), (1, .ref (G.1 0)), (2, .ref (G.1 67)), (3, .int (nI i))] [] h2) : Lj p l e s m below meth c b G 541 [(0, .ref b), (1, .ref (G.1 0)), (2, .ref (G.1 67)), (3, .int (nI i))] [] h := by
  refine Y_al (q := 1) C dL_law_541 rfl rfl ?_
  refine Y_al (q := 0) C dL_law_542 rfl rfl ?_
  refine Y_il (q := 3) C dL_law_543 rfl rfl ?_
  refine Y_ic (v := nI 1) C dL_law_544 rfl ?_
  refine Y_iadd C dL_law_545 ?_
  refine Y_sld C (inL hL hi (by decide)) dL_law_546 ?_
  refine Y_al (q := 0) C dL_law_547 rfl rfl ?_
  refine Y_il (q := 3) C dL_law_548 rfl rfl ?_
  refine Y_ic (v := nI 2) C dL_law_549 rfl ?_
  refine Y_iadd C dL_law_550 ?_
  refine Y_sld C (inL hL hi (by decide)) dL_law_551 ?_
  refine Y_al (q := 0) C dL_law_552 rfl rfl ?_
  refine Y_il (q := 3) C dL_law_553 rfl rfl ?_
  refine Y_ic (v := nI 3) C dL_law_554 rfl ?_
  refine Y_iadd C dL_law_555 ?_
  refine Y_sld C (inL hL hi (by decide)) dL_law_556 ?_
  refine Y_al (q := 0) C dL_law_557 rfl rfl ?_
  refine Y_il (q := 3) C dL_law_558 rfl rfl ?_
  refine Y_ic (v := nI 4) C dL_law_559 rfl ?_
  refine Y_iadd C dL_law_560 ?_
  refine Y_sld C (inL hL hi (by decide)) dL_law_561 ?_
  refine Y_call (k0 := 0) [.int (xs (tn (nI i + nI 1))), .int (xs (tn (nI i + nI 2))), .int (xs (tn (nI i + nI 3))), .int (xs (tn (nI i + nI 4)))] [] C cw_X11_late lm_53 wc_X11 nd_X11_late ⟨by decide, by decide⟩ wi_X11_late ws_X11_late dL_law_562 rfl rfl rfl rfl rfl (Nat.le_of_ble_eq_true rfl) (L_late (x1 := (xs (tn (nI i + nI 1)))) (x2 := (xs (tn (nI i + nI 2)))) (x3 := (xs (tn (nI i + nI 3)))) (x4 := (xs (tn (nI i + nI 4)))) r) (fun a h1 hm => ?_)
  refine Y_al (q := 2) C dL_law_565 rfl rfl ?_
  refine Y_al (q := 0) C dL_law_566 rfl rfl ?_
  refine Y_il (q := 3) C dL_law_567 rfl rfl ?_
  refine Y_ic (v := nI 1) C dL_law_568 rfl ?_
  refine Y_iadd C dL_law_569 ?_
  refine Y_sld C (inL hL hi (by decide)) dL_law_570 ?_
  refine Y_al (q := 0) C dL_law_571 rfl rfl ?_
  refine Y_il (q := 3) C dL_law_572 rfl rfl ?_
  refine Y_ic (v := nI 2) C dL_law_573 rfl ?_
  refine Y_iadd C dL_law_574 ?_
  refine Y_sld C (inL hL hi (by decide)) dL_law_575 ?_
  refine Y_al (q := 0) C dL_law_576 rfl rfl ?_
  refine Y_il (q := 3) C dL_law_577 rfl rfl ?_
  refine Y_ic (v := nI 3) C dL_law_578 rfl ?_
  refine Y_iadd C dL_law_579 ?_
  refine Y_sld C (inL hL hi (by decide)) dL_law_580 ?_
  refine Y_al (q := 0) C dL_law_581 rfl rfl ?_
  refine Y_il (q := 3) C dL_law_582 rfl rfl ?_
  refine Y_ic (v := nI 4) C dL_law_583 rfl ?_
  refine Y_iadd C dL_law_584 ?_
  refine Y_sld C (inL hL hi (by decide)) dL_law_585 ?_
  refine Y_call (k0 := 67) [.int (xs (tn (nI i + nI 1))), .int (xs (tn (nI i + nI 2))), .int (xs (tn (nI i + nI 3))), .int (xs (tn (nI i + nI 4)))] [.int a] C cw_X12_late lm_56 wc_X12 nd_X12_late ⟨by decide, by decide⟩ wi_X12_late ws_X12_late dL_law_586 rfl rfl rfl rfl rfl (Nat.le_of_ble_eq_true rfl) hm (fun b2 h2 hb => ?_)
  exact Y_eq (tgt := 1155) C dL_law_589 (by decide) (fun _ => ih h2 hb.2) (fun ne => absurd hb.1 ne)
set_option maxHeartbeats 2000000 in
theorem law_gone {p : Program} {l : Launch} {e : Env} {s : State} {m : MethodId} {below : List Frame} {meth : Method} {c : Code} {b L : Nat} {xs : Nat → Int32} {G : GA} {h : HP} {i : Nat} (C : LC p s m meth c b L xs G) (hL : L ≤ 2560) (hi : i + 5 ≤ L) (r : Rel h) (ih : ∀ h2, Rel h2 → Lj p l e s m below meth c b G 1155 [(0, .ref b), (1, .ref (G.1 0)), (2, .ref (G.1 67)), (3, .int (nI i))] [] h2) : Lj p l e s m below meth c b G 594 [(0, .ref b), (1, .ref (G.1 0)), (2, .ref (G.1 67)), (3, .int (nI i))] [] h := by
  by_cases hz : xs (tn (nI i + nI 3)) = 0
  · refine Y_al (q := 1) C dL_law_594 rfl rfl ?_
    refine Y_al (q := 0) C dL_law_595 rfl rfl ?_
    refine Y_il (q := 3) C dL_law_596 rfl rfl ?_
    refine Y_ic (v := nI 1) C dL_law_597 rfl ?_
    refine Y_iadd C dL_law_598 ?_
    refine Y_sld C (inL hL hi (by decide)) dL_law_599 ?_
    refine Y_al (q := 0) C dL_law_600 rfl rfl ?_
    refine Y_il (q := 3) C dL_law_601 rfl rfl ?_
    refine Y_ic (v := nI 2) C dL_law_602 rfl ?_
    refine Y_iadd C dL_law_603 ?_
    refine Y_sld C (inL hL hi (by decide)) dL_law_604 ?_
    refine Y_al (q := 0) C dL_law_605 rfl rfl ?_
    refine Y_il (q := 3) C dL_law_606 rfl rfl ?_
    refine Y_ic (v := nI 3) C dL_law_607 rfl ?_
    refine Y_iadd C dL_law_608 ?_
    refine Y_sld C (inL hL hi (by decide)) dL_law_609 ?_
    refine Y_ifeq (tgt := 617) C dL_law_610 (by decide) (fun _ => ?_) (fun ne => absurd hz ne)
    refine Y_ic (v := nI 0) C dL_law_617 rfl ?_
    refine Y_call (k0 := 0) [.int (xs (tn (nI i + nI 1))), .int (xs (tn (nI i + nI 2))), .int (b2i false)] [] C cw_X11_gone lm_57 wc_X11 nd_X11_gone ⟨by decide, by decide⟩ wi_X11_gone ws_X11_gone dL_law_618 rfl rfl rfl rfl rfl (Nat.le_of_ble_eq_true rfl) (L_gone (x1 := (xs (tn (nI i + nI 1)))) (x2 := (xs (tn (nI i + nI 2)))) (x3 := false) r) (fun a h1 hm => ?_)
    refine Y_al (q := 2) C dL_law_621 rfl rfl ?_
    refine Y_al (q := 0) C dL_law_622 rfl rfl ?_
    refine Y_il (q := 3) C dL_law_623 rfl rfl ?_
    refine Y_ic (v := nI 1) C dL_law_624 rfl ?_
    refine Y_iadd C dL_law_625 ?_
    refine Y_sld C (inL hL hi (by decide)) dL_law_626 ?_
    refine Y_al (q := 0) C dL_law_627 rfl rfl ?_
    refine Y_il (q := 3) C dL_law_628 rfl rfl ?_
    refine Y_ic (v := nI 2) C dL_law_629 rfl ?_
    refine Y_iadd C dL_law_630 ?_
    refine Y_sld C (inL hL hi (by decide)) dL_law_631 ?_
    refine Y_al (q := 0) C dL_law_632 rfl rfl ?_
    refine Y_il (q := 3) C dL_law_633 rfl rfl ?_
    refine Y_ic (v := nI 3) C dL_law_634 rfl ?_
    refine Y_iadd C dL_law_635 ?_
    refine Y_sld C (inL hL hi (by decide)) dL_law_636 ?_
    refine Y_ifeq (tgt := 644) C dL_law_637 (by decide) (fun _ => ?_) (fun ne => absurd hz ne)
    refine Y_ic (v := nI 0) C dL_law_644 rfl ?_
    refine Y_call (k0 := 67) [.int (xs (tn (nI i + nI 1))), .int (xs (tn (nI i + nI 2))), .int (b2i false)] [.int a] C cw_X12_gone lm_60 wc_X12 nd_X12_gone ⟨by decide, by decide⟩ wi_X12_gone ws_X12_gone dL_law_645 rfl rfl rfl rfl rfl (Nat.le_of_ble_eq_true rfl) hm (fun b2 h2 hb => ?_)
    exact Y_eq (tgt := 1155) C dL_law_648 (by decide) (fun _ => ih h2 hb.2) (fun ne => absurd hb.1 ne)
  · refine Y_al (q := 1) C dL_law_594 rfl rfl ?_
    refine Y_al (q := 0) C dL_law_595 rfl rfl ?_
    refine Y_il (q := 3) C dL_law_596 rfl rfl ?_
    refine Y_ic (v := nI 1) C dL_law_597 rfl ?_
    refine Y_iadd C dL_law_598 ?_
    refine Y_sld C (inL hL hi (by decide)) dL_law_599 ?_
    refine Y_al (q := 0) C dL_law_600 rfl rfl ?_
    refine Y_il (q := 3) C dL_law_601 rfl rfl ?_
    refine Y_ic (v := nI 2) C dL_law_602 rfl ?_
    refine Y_iadd C dL_law_603 ?_
    refine Y_sld C (inL hL hi (by decide)) dL_law_604 ?_
    refine Y_al (q := 0) C dL_law_605 rfl rfl ?_
    refine Y_il (q := 3) C dL_law_606 rfl rfl ?_
    refine Y_ic (v := nI 3) C dL_law_607 rfl ?_
    refine Y_iadd C dL_law_608 ?_
    refine Y_sld C (inL hL hi (by decide)) dL_law_609 ?_
    refine Y_ifeq (tgt := 617) C dL_law_610 (by decide) (fun e0 => absurd e0 hz) (fun _ => ?_)
    refine Y_ic (v := nI 1) C dL_law_613 rfl ?_
    refine Y_goto (tgt := 618) C dL_law_614 (by decide) ?_
    refine Y_call (k0 := 0) [.int (xs (tn (nI i + nI 1))), .int (xs (tn (nI i + nI 2))), .int (b2i true)] [] C cw_X11_gone lm_57 wc_X11 nd_X11_gone ⟨by decide, by decide⟩ wi_X11_gone ws_X11_gone dL_law_618 rfl rfl rfl rfl rfl (Nat.le_of_ble_eq_true rfl) (L_gone (x1 := (xs (tn (nI i + nI 1)))) (x2 := (xs (tn (nI i + nI 2)))) (x3 := true) r) (fun a h1 hm => ?_)
    refine Y_al (q := 2) C dL_law_621 rfl rfl ?_
    refine Y_al (q := 0) C dL_law_622 rfl rfl ?_
    refine Y_il (q := 3) C dL_law_623 rfl rfl ?_
    refine Y_ic (v := nI 1) C dL_law_624 rfl ?_
    refine Y_iadd C dL_law_625 ?_
    refine Y_sld C (inL hL hi (by decide)) dL_law_626 ?_
    refine Y_al (q := 0) C dL_law_627 rfl rfl ?_
    refine Y_il (q := 3) C dL_law_628 rfl rfl ?_
    refine Y_ic (v := nI 2) C dL_law_629 rfl ?_
    refine Y_iadd C dL_law_630 ?_
    refine Y_sld C (inL hL hi (by decide)) dL_law_631 ?_
    refine Y_al (q := 0) C dL_law_632 rfl rfl ?_
    refine Y_il (q := 3) C dL_law_633 rfl rfl ?_
    refine Y_ic (v := nI 3) C dL_law_634 rfl ?_
    refine Y_iadd C dL_law_635 ?_
    refine Y_sld C (inL hL hi (by decide)) dL_law_636 ?_
    refine Y_ifeq (tgt := 644) C dL_law_637 (by decide) (fun e0 => absurd e0 hz) (fun _ => ?_)
    refine Y_ic (v := nI 1) C dL_law_640 rfl ?_
    refine Y_goto (tgt := 645) C dL_law_641 (by decide) ?_
    refine Y_call (k0 := 67) [.int (xs (tn (nI i + nI 1))), .int (xs (tn (nI i + nI 2))), .int (b2i true)] [.int a] C cw_X12_gone lm_60 wc_X12 nd_X12_gone ⟨by decide, by decide⟩ wi_X12_gone ws_X12_gone dL_law_645 rfl rfl rfl rfl rfl (Nat.le_of_ble_eq_true rfl) hm (fun b2 h2 hb => ?_)
    exact Y_eq (tgt := 1155) C dL_law_648 (by decide) (fun _ => ih h2 hb.2) (fun ne => absurd hb.1 ne)
set_option maxHeartbeats 2000000 in
theorem law_ways {p : Program} {l : Launch} {e : Env} {s : State} {m : MethodId} {below : List Frame} {meth : Method} {c : Code} {b L : Nat} {xs : Nat → Int32} {G : GA} {h : HP} {i : Nat} (C : LC p s m meth c b L xs G) (hL : L ≤ 2560) (hi : i + 5 ≤ L) (r : Rel h) (ih : ∀ h2, Rel h2 → Lj p l e s m below meth c b G 1155 [(0, .ref b), (1, .ref (G.1 0)), (2, .ref (G.1 67)), (3, .int (nI i))] [] h2) : Lj p l e s m below meth c b G 653 [(0, .ref b), (1, .ref (G.1 0)), (2, .ref (G.1 67)), (3, .int (nI i))] [] h := by
  refine Y_al (q := 1) C dL_law_653 rfl rfl ?_
  refine Y_al (q := 0) C dL_law_654 rfl rfl ?_
  refine Y_il (q := 3) C dL_law_655 rfl rfl ?_
  refine Y_ic (v := nI 1) C dL_law_656 rfl ?_
  refine Y_iadd C dL_law_657 ?_
  refine Y_sld C (inL hL hi (by decide)) dL_law_658 ?_
  refine Y_al (q := 0) C dL_law_659 rfl rfl ?_
  refine Y_il (q := 3) C dL_law_660 rfl rfl ?_
  refine Y_ic (v := nI 2) C dL_law_661 rfl ?_
  refine Y_iadd C dL_law_662 ?_
  refine Y_sld C (inL hL hi (by decide)) dL_law_663 ?_
  refine Y_al (q := 0) C dL_law_664 rfl rfl ?_
  refine Y_il (q := 3) C dL_law_665 rfl rfl ?_
  refine Y_ic (v := nI 3) C dL_law_666 rfl ?_
  refine Y_iadd C dL_law_667 ?_
  refine Y_sld C (inL hL hi (by decide)) dL_law_668 ?_
  refine Y_al (q := 0) C dL_law_669 rfl rfl ?_
  refine Y_il (q := 3) C dL_law_670 rfl rfl ?_
  refine Y_ic (v := nI 4) C dL_law_671 rfl ?_
  refine Y_iadd C dL_law_672 ?_
  refine Y_sld C (inL hL hi (by decide)) dL_law_673 ?_
  refine Y_call (k0 := 0) [.int (xs (tn (nI i + nI 1))), .int (xs (tn (nI i + nI 2))), .int (xs (tn (nI i + nI 3))), .int (xs (tn (nI i + nI 4)))] [] C cw_X11_ways lm_61 wc_X11 nd_X11_ways ⟨by decide, by decide⟩ wi_X11_ways ws_X11_ways dL_law_674 rfl rfl rfl rfl rfl (Nat.le_of_ble_eq_true rfl) (L_ways (x1 := (xs (tn (nI i + nI 1)))) (x2 := (xs (tn (nI i + nI 2)))) (x3 := (xs (tn (nI i + nI 3)))) (x4 := (xs (tn (nI i + nI 4)))) r) (fun a h1 hm => ?_)
  refine Y_al (q := 2) C dL_law_677 rfl rfl ?_
  refine Y_al (q := 0) C dL_law_678 rfl rfl ?_
  refine Y_il (q := 3) C dL_law_679 rfl rfl ?_
  refine Y_ic (v := nI 1) C dL_law_680 rfl ?_
  refine Y_iadd C dL_law_681 ?_
  refine Y_sld C (inL hL hi (by decide)) dL_law_682 ?_
  refine Y_al (q := 0) C dL_law_683 rfl rfl ?_
  refine Y_il (q := 3) C dL_law_684 rfl rfl ?_
  refine Y_ic (v := nI 2) C dL_law_685 rfl ?_
  refine Y_iadd C dL_law_686 ?_
  refine Y_sld C (inL hL hi (by decide)) dL_law_687 ?_
  refine Y_al (q := 0) C dL_law_688 rfl rfl ?_
  refine Y_il (q := 3) C dL_law_689 rfl rfl ?_
  refine Y_ic (v := nI 3) C dL_law_690 rfl ?_
  refine Y_iadd C dL_law_691 ?_
  refine Y_sld C (inL hL hi (by decide)) dL_law_692 ?_
  refine Y_al (q := 0) C dL_law_693 rfl rfl ?_
  refine Y_il (q := 3) C dL_law_694 rfl rfl ?_
  refine Y_ic (v := nI 4) C dL_law_695 rfl ?_
  refine Y_iadd C dL_law_696 ?_
  refine Y_sld C (inL hL hi (by decide)) dL_law_697 ?_
  refine Y_call (k0 := 67) [.int (xs (tn (nI i + nI 1))), .int (xs (tn (nI i + nI 2))), .int (xs (tn (nI i + nI 3))), .int (xs (tn (nI i + nI 4)))] [.int a] C cw_X12_ways lm_64 wc_X12 nd_X12_ways ⟨by decide, by decide⟩ wi_X12_ways ws_X12_ways dL_law_698 rfl rfl rfl rfl rfl (Nat.le_of_ble_eq_true rfl) hm (fun b2 h2 hb => ?_)
  exact Y_eq (tgt := 1155) C dL_law_701 (by decide) (fun _ => ih h2 hb.2) (fun ne => absurd hb.1 ne)
set_option maxHeartbeats 2000000 in
theorem law_way {p : Program} {l : Launch} {e : Env} {s : State} {m : MethodId} {below : List Frame} {meth : Method} {c : Code} {b L : Nat} {xs : Nat → Int32} {G : GA} {h : HP} {i : Nat} (C : LC p s m meth c b L xs G) (hL : L ≤ 2560) (hi : i + 5 ≤ L) (r : Rel h) (ih : ∀ h2, Rel h2 → Lj p l e s m below meth c b G 1155 [(0, .ref b), (1, .ref (G.1 0)), (2, .ref (G.1 67)), (3, .int (nI i))] [] h2) : Lj p l e s m below meth c b G 706 [(0, .ref b), (1, .ref (G.1 0)), (2, .ref (G.1 67)), (3, .int (nI i))] [] h := by
  refine Y_al (q := 1) C dL_law_706 rfl rfl ?_
  refine Y_al (q := 0) C dL_law_707 rfl rfl ?_
  refine Y_il (q := 3) C dL_law_708 rfl rfl ?_
  refine Y_ic (v := nI 1) C dL_law_709 rfl ?_
  refine Y_iadd C dL_law_710 ?_
  refine Y_sld C (inL hL hi (by decide)) dL_law_711 ?_
  refine Y_al (q := 0) C dL_law_712 rfl rfl ?_
  refine Y_il (q := 3) C dL_law_713 rfl rfl ?_
  refine Y_ic (v := nI 2) C dL_law_714 rfl ?_
  refine Y_iadd C dL_law_715 ?_
  refine Y_sld C (inL hL hi (by decide)) dL_law_716 ?_
  refine Y_call (k0 := 0) [.int (xs (tn (nI i + nI 1))), .int (xs (tn (nI i + nI 2)))] [] C cw_X11_way lm_65 wc_X11 nd_X11_way ⟨by decide, by decide⟩ wi_X11_way ws_X11_way dL_law_717 rfl rfl rfl rfl rfl (Nat.le_of_ble_eq_true rfl) (L_way (x1 := (xs (tn (nI i + nI 1)))) (x2 := (xs (tn (nI i + nI 2)))) r) (fun a h1 hm => ?_)
  refine Y_al (q := 2) C dL_law_720 rfl rfl ?_
  refine Y_al (q := 0) C dL_law_721 rfl rfl ?_
  refine Y_il (q := 3) C dL_law_722 rfl rfl ?_
  refine Y_ic (v := nI 1) C dL_law_723 rfl ?_
  refine Y_iadd C dL_law_724 ?_
  refine Y_sld C (inL hL hi (by decide)) dL_law_725 ?_
  refine Y_al (q := 0) C dL_law_726 rfl rfl ?_
  refine Y_il (q := 3) C dL_law_727 rfl rfl ?_
  refine Y_ic (v := nI 2) C dL_law_728 rfl ?_
  refine Y_iadd C dL_law_729 ?_
  refine Y_sld C (inL hL hi (by decide)) dL_law_730 ?_
  refine Y_call (k0 := 67) [.int (xs (tn (nI i + nI 1))), .int (xs (tn (nI i + nI 2)))] [.int a] C cw_X12_way lm_68 wc_X12 nd_X12_way ⟨by decide, by decide⟩ wi_X12_way ws_X12_way dL_law_731 rfl rfl rfl rfl rfl (Nat.le_of_ble_eq_true rfl) hm (fun b2 h2 hb => ?_)
  exact Y_eq (tgt := 1155) C dL_law_734 (by decide) (fun _ => ih h2 hb.2) (fun ne => absurd hb.1 ne)
set_option maxHeartbeats 2000000 in
theorem law_leg {p : Program} {l : Launch} {e : Env} {s : State} {m : MethodId} {below : List Frame} {meth : Method} {c : Code} {b L : Nat} {xs : Nat → Int32} {G : GA} {h : HP} {i : Nat} (C : LC p s m meth c b L xs G) (hL : L ≤ 2560) (hi : i + 5 ≤ L) (r : Rel h) (ih : ∀ h2, Rel h2 → Lj p l e s m below meth c b G 1155 [(0, .ref b), (1, .ref (G.1 0)), (2, .ref (G.1 67)), (3, .int (nI i))] [] h2) : Lj p l e s m below meth c b G 739 [(0, .ref b), (1, .ref (G.1 0)), (2, .ref (G.1 67)), (3, .int (nI i))] [] h := by
  refine Y_al (q := 1) C dL_law_739 rfl rfl ?_
  refine Y_al (q := 0) C dL_law_740 rfl rfl ?_
  refine Y_il (q := 3) C dL_law_741 rfl rfl ?_
  refine Y_ic (v := nI 1) C dL_law_742 rfl ?_
  refine Y_iadd C dL_law_743 ?_
  refine Y_sld C (inL hL hi (by decide)) dL_law_744 ?_
  refine Y_al (q := 0) C dL_law_745 rfl rfl ?_
  refine Y_il (q := 3) C dL_law_746 rfl rfl ?_
  refine Y_ic (v := nI 2) C dL_law_747 rfl ?_
  refine Y_iadd C dL_law_748 ?_
  refine Y_sld C (inL hL hi (by decide)) dL_law_749 ?_
  refine Y_al (q := 0) C dL_law_750 rfl rfl ?_
  refine Y_il (q := 3) C dL_law_751 rfl rfl ?_
  refine Y_ic (v := nI 3) C dL_law_752 rfl ?_
  refine Y_iadd C dL_law_753 ?_
  refine Y_sld C (inL hL hi (by decide)) dL_law_754 ?_
  refine Y_call (k0 := 0) [.int (xs (tn (nI i + nI 1))), .int (xs (tn (nI i + nI 2))), .int (xs (tn (nI i + nI 3)))] [] C cw_X11_leg lm_69 wc_X11 nd_X11_leg ⟨by decide, by decide⟩ wi_X11_leg ws_X11_leg dL_law_755 rfl rfl rfl rfl rfl (Nat.le_of_ble_eq_true rfl) (L_leg (x1 := (xs (tn (nI i + nI 1)))) (x2 := (xs (tn (nI i + nI 2)))) (x3 := (xs (tn (nI i + nI 3)))) r) (fun a h1 hm => ?_)
  refine Y_al (q := 2) C dL_law_758 rfl rfl ?_
  refine Y_al (q := 0) C dL_law_759 rfl rfl ?_
  refine Y_il (q := 3) C dL_law_760 rfl rfl ?_
  refine Y_ic (v := nI 1) C dL_law_761 rfl ?_
  refine Y_iadd C dL_law_762 ?_
  refine Y_sld C (inL hL hi (by decide)) dL_law_763 ?_
  refine Y_al (q := 0) C dL_law_764 rfl rfl ?_
  refine Y_il (q := 3) C dL_law_765 rfl rfl ?_
  refine Y_ic (v := nI 2) C dL_law_766 rfl ?_
  refine Y_iadd C dL_law_767 ?_
  refine Y_sld C (inL hL hi (by decide)) dL_law_768 ?_
  refine Y_al (q := 0) C dL_law_769 rfl rfl ?_
  refine Y_il (q := 3) C dL_law_770 rfl rfl ?_
  refine Y_ic (v := nI 3) C dL_law_771 rfl ?_
  refine Y_iadd C dL_law_772 ?_
  refine Y_sld C (inL hL hi (by decide)) dL_law_773 ?_
  refine Y_call (k0 := 67) [.int (xs (tn (nI i + nI 1))), .int (xs (tn (nI i + nI 2))), .int (xs (tn (nI i + nI 3)))] [.int a] C cw_X12_leg lm_72 wc_X12 nd_X12_leg ⟨by decide, by decide⟩ wi_X12_leg ws_X12_leg dL_law_774 rfl rfl rfl rfl rfl (Nat.le_of_ble_eq_true rfl) hm (fun b2 h2 hb => ?_)
  exact Y_eq (tgt := 1155) C dL_law_777 (by decide) (fun _ => ih h2 hb.2) (fun ne => absurd hb.1 ne)
set_option maxHeartbeats 2000000 in
theorem law_take {p : Program} {l : Launch} {e : Env} {s : State} {m : MethodId} {below : List Frame} {meth : Method} {c : Code} {b L : Nat} {xs : Nat → Int32} {G : GA} {h : HP} {i : Nat} (C : LC p s m meth c b L xs G) (hL : L ≤ 2560) (hi : i + 5 ≤ L) (r : Rel h) (ih : ∀ h2, Rel h2 → Lj p l e s m below meth c b G 1155 [(0, .ref b), (1, .ref (G.1 0)), (2, .ref (G.1 67)), (3, .int (nI i))] [] h2) : Lj p l e s m below meth c b G 782 [(0, .ref b), (1, .ref (G.1 0)), (2, .ref (G.1 67)), (3, .int (nI i))] [] h := by
  refine Y_al (q := 1) C dL_law_782 rfl rfl ?_
  refine Y_al (q := 0) C dL_law_783 rfl rfl ?_
  refine Y_il (q := 3) C dL_law_784 rfl rfl ?_
  refine Y_ic (v := nI 1) C dL_law_785 rfl ?_
  refine Y_iadd C dL_law_786 ?_
  refine Y_sld C (inL hL hi (by decide)) dL_law_787 ?_
  refine Y_call (k0 := 0) [.int (xs (tn (nI i + nI 1)))] [] C cw_X11_take lm_73 wc_X11 nd_X11_take ⟨by decide, by decide⟩ wi_X11_take ws_X11_take dL_law_788 rfl rfl rfl rfl rfl (Nat.le_of_ble_eq_true rfl) (L_take (x1 := (xs (tn (nI i + nI 1)))) r) (fun a h1 hm => ?_)
  refine Y_al (q := 2) C dL_law_791 rfl rfl ?_
  refine Y_al (q := 0) C dL_law_792 rfl rfl ?_
  refine Y_il (q := 3) C dL_law_793 rfl rfl ?_
  refine Y_ic (v := nI 1) C dL_law_794 rfl ?_
  refine Y_iadd C dL_law_795 ?_
  refine Y_sld C (inL hL hi (by decide)) dL_law_796 ?_
  refine Y_call (k0 := 67) [.int (xs (tn (nI i + nI 1)))] [.int a] C cw_X12_take lm_77 wc_X12 nd_X12_take ⟨by decide, by decide⟩ wi_X12_take ws_X12_take dL_law_797 rfl rfl rfl rfl rfl (Nat.le_of_ble_eq_true rfl) hm (fun b2 h2 hb => ?_)
  exact Y_eq (tgt := 1155) C dL_law_800 (by decide) (fun _ => ih h2 hb.2) (fun ne => absurd hb.1 ne)
set_option maxHeartbeats 2000000 in
theorem law_give {p : Program} {l : Launch} {e : Env} {s : State} {m : MethodId} {below : List Frame} {meth : Method} {c : Code} {b L : Nat} {xs : Nat → Int32} {G : GA} {h : HP} {i : Nat} (C : LC p s m meth c b L xs G) (hL : L ≤ 2560) (hi : i + 5 ≤ L) (r : Rel h) (ih : ∀ h2, Rel h2 → Lj p l e s m below meth c b G 1155 [(0, .ref b), (1, .ref (G.1 0)), (2, .ref (G.1 67)), (3, .int (nI i))] [] h2) : Lj p l e s m below meth c b G 805 [(0, .ref b), (1, .ref (G.1 0)), (2, .ref (G.1 67)), (3, .int (nI i))] [] h := by
  refine Y_al (q := 1) C dL_law_805 rfl rfl ?_
  refine Y_al (q := 0) C dL_law_806 rfl rfl ?_
  refine Y_il (q := 3) C dL_law_807 rfl rfl ?_
  refine Y_ic (v := nI 1) C dL_law_808 rfl ?_
  refine Y_iadd C dL_law_809 ?_
  refine Y_sld C (inL hL hi (by decide)) dL_law_810 ?_
  refine Y_call (k0 := 0) [.int (xs (tn (nI i + nI 1)))] [] C cw_X11_give lm_78 wc_X11 nd_X11_give ⟨by decide, by decide⟩ wi_X11_give ws_X11_give dL_law_811 rfl rfl rfl rfl rfl (Nat.le_of_ble_eq_true rfl) (L_give (x1 := (xs (tn (nI i + nI 1)))) r) (fun a h1 hm => ?_)
  refine Y_al (q := 2) C dL_law_814 rfl rfl ?_
  refine Y_al (q := 0) C dL_law_815 rfl rfl ?_
  refine Y_il (q := 3) C dL_law_816 rfl rfl ?_
  refine Y_ic (v := nI 1) C dL_law_817 rfl ?_
  refine Y_iadd C dL_law_818 ?_
  refine Y_sld C (inL hL hi (by decide)) dL_law_819 ?_
  refine Y_call (k0 := 67) [.int (xs (tn (nI i + nI 1)))] [.int a] C cw_X12_give lm_81 wc_X12 nd_X12_give ⟨by decide, by decide⟩ wi_X12_give ws_X12_give dL_law_820 rfl rfl rfl rfl rfl (Nat.le_of_ble_eq_true rfl) hm (fun b2 h2 hb => ?_)
  exact Y_eq (tgt := 1155) C dL_law_823 (by decide) (fun _ => ih h2 hb.2) (fun ne => absurd hb.1 ne)
set_option maxHeartbeats 2000000 in
theorem law_still {p : Program} {l : Launch} {e : Env} {s : State} {m : MethodId} {below : List Frame} {meth : Method} {c : Code} {b L : Nat} {xs : Nat → Int32} {G : GA} {h : HP} {i : Nat} (C : LC p s m meth c b L xs G) (hL : L ≤ 2560) (hi : i + 5 ≤ L) (r : Rel h) (ih : ∀ h2, Rel h2 → Lj p l e s m below meth c b G 1155 [(0, .ref b), (1, .ref (G.1 0)), (2, .ref (G.1 67)), (3, .int (nI i))] [] h2) : Lj p l e s m below meth c b G 828 [(0, .ref b), (1, .ref (G.1 0)), (2, .ref (G.1 67)), (3, .int (nI i))] [] h := by
  refine Y_al (q := 1) C dL_law_828 rfl rfl ?_
  refine Y_al (q := 0) C dL_law_829 rfl rfl ?_
  refine Y_il (q := 3) C dL_law_830 rfl rfl ?_
  refine Y_ic (v := nI 1) C dL_law_831 rfl ?_
  refine Y_iadd C dL_law_832 ?_
  refine Y_sld C (inL hL hi (by decide)) dL_law_833 ?_
  refine Y_call (k0 := 0) [.int (xs (tn (nI i + nI 1)))] [] C cw_X11_still lm_82 wc_X11 nd_X11_still ⟨by decide, by decide⟩ wi_X11_still ws_X11_still dL_law_834 rfl rfl rfl rfl rfl (Nat.le_of_ble_eq_true rfl) (L_still (x1 := (xs (tn (nI i + nI 1)))) r) (fun a h1 hm => ?_)
  refine Y_al (q := 2) C dL_law_837 rfl rfl ?_
  refine Y_al (q := 0) C dL_law_838 rfl rfl ?_
  refine Y_il (q := 3) C dL_law_839 rfl rfl ?_
  refine Y_ic (v := nI 1) C dL_law_840 rfl ?_
  refine Y_iadd C dL_law_841 ?_
  refine Y_sld C (inL hL hi (by decide)) dL_law_842 ?_
  refine Y_call (k0 := 67) [.int (xs (tn (nI i + nI 1)))] [.int a] C cw_X12_still lm_85 wc_X12 nd_X12_still ⟨by decide, by decide⟩ wi_X12_still ws_X12_still dL_law_843 rfl rfl rfl rfl rfl (Nat.le_of_ble_eq_true rfl) hm (fun b2 h2 hb => ?_)
  exact Y_eq (tgt := 1155) C dL_law_846 (by decide) (fun _ => ih h2 hb.2) (fun ne => absurd hb.1 ne)
set_option maxHeartbeats 2000000 in
theorem law_comes {p : Program} {l : Launch} {e : Env} {s : State} {m : MethodId} {below : List Frame} {meth : Method} {c : Code} {b L : Nat} {xs : Nat → Int32} {G : GA} {h : HP} {i : Nat} (C : LC p s m meth c b L xs G) (hL : L ≤ 2560) (hi : i + 5 ≤ L) (r : Rel h) (ih : ∀ h2, Rel h2 → Lj p l e s m below meth c b G 1155 [(0, .ref b), (1, .ref (G.1 0)), (2, .ref (G.1 67)), (3, .int (nI i))] [] h2) : Lj p l e s m below meth c b G 851 [(0, .ref b), (1, .ref (G.1 0)), (2, .ref (G.1 67)), (3, .int (nI i))] [] h := by
  refine Y_al (q := 1) C dL_law_851 rfl rfl ?_
  refine Y_al (q := 0) C dL_law_852 rfl rfl ?_
  refine Y_il (q := 3) C dL_law_853 rfl rfl ?_
  refine Y_ic (v := nI 1) C dL_law_854 rfl ?_
  refine Y_iadd C dL_law_855 ?_
  refine Y_sld C (inL hL hi (by decide)) dL_law_856 ?_
  refine Y_call (k0 := 0) [.int (xs (tn (nI i + nI 1)))] [] C cw_X11_comes lm_86 wc_X11 nd_X11_comes ⟨by decide, by decide⟩ wi_X11_comes ws_X11_comes dL_law_857 rfl rfl rfl rfl rfl (Nat.le_of_ble_eq_true rfl) (L_comes (x1 := (xs (tn (nI i + nI 1)))) r) (fun a h1 hm => ?_)
  refine Y_al (q := 2) C dL_law_860 rfl rfl ?_
  refine Y_al (q := 0) C dL_law_861 rfl rfl ?_
  refine Y_il (q := 3) C dL_law_862 rfl rfl ?_
  refine Y_ic (v := nI 1) C dL_law_863 rfl ?_
  refine Y_iadd C dL_law_864 ?_
  refine Y_sld C (inL hL hi (by decide)) dL_law_865 ?_
  refine Y_call (k0 := 67) [.int (xs (tn (nI i + nI 1)))] [.int a] C cw_X12_comes lm_89 wc_X12 nd_X12_comes ⟨by decide, by decide⟩ wi_X12_comes ws_X12_comes dL_law_866 rfl rfl rfl rfl rfl (Nat.le_of_ble_eq_true rfl) hm (fun b2 h2 hb => ?_)
  exact Y_eq (tgt := 1155) C dL_law_869 (by decide) (fun _ => ih h2 hb.2) (fun ne => absurd hb.1 ne)
set_option maxHeartbeats 2000000 in
theorem law_taken {p : Program} {l : Launch} {e : Env} {s : State} {m : MethodId} {below : List Frame} {meth : Method} {c : Code} {b L : Nat} {xs : Nat → Int32} {G : GA} {h : HP} {i : Nat} (C : LC p s m meth c b L xs G) (hL : L ≤ 2560) (hi : i + 5 ≤ L) (r : Rel h) (ih : ∀ h2, Rel h2 → Lj p l e s m below meth c b G 1155 [(0, .ref b), (1, .ref (G.1 0)), (2, .ref (G.1 67)), (3, .int (nI i))] [] h2) : Lj p l e s m below meth c b G 874 [(0, .ref b), (1, .ref (G.1 0)), (2, .ref (G.1 67)), (3, .int (nI i))] [] h := by
  refine Y_al (q := 1) C dL_law_874 rfl rfl ?_
  refine Y_al (q := 0) C dL_law_875 rfl rfl ?_
  refine Y_il (q := 3) C dL_law_876 rfl rfl ?_
  refine Y_ic (v := nI 1) C dL_law_877 rfl ?_
  refine Y_iadd C dL_law_878 ?_
  refine Y_sld C (inL hL hi (by decide)) dL_law_879 ?_
  refine Y_al (q := 0) C dL_law_880 rfl rfl ?_
  refine Y_il (q := 3) C dL_law_881 rfl rfl ?_
  refine Y_ic (v := nI 2) C dL_law_882 rfl ?_
  refine Y_iadd C dL_law_883 ?_
  refine Y_sld C (inL hL hi (by decide)) dL_law_884 ?_
  refine Y_al (q := 0) C dL_law_885 rfl rfl ?_
  refine Y_il (q := 3) C dL_law_886 rfl rfl ?_
  refine Y_ic (v := nI 3) C dL_law_887 rfl ?_
  refine Y_iadd C dL_law_888 ?_
  refine Y_sld C (inL hL hi (by decide)) dL_law_889 ?_
  refine Y_call (k0 := 0) [.int (xs (tn (nI i + nI 1))), .int (xs (tn (nI i + nI 2))), .int (xs (tn (nI i + nI 3)))] [] C cw_X11_taken lm_90 wc_X11 nd_X11_taken ⟨by decide, by decide⟩ wi_X11_taken ws_X11_taken dL_law_890 rfl rfl rfl rfl rfl (Nat.le_of_ble_eq_true rfl) (L_taken (x1 := (xs (tn (nI i + nI 1)))) (x2 := (xs (tn (nI i + nI 2)))) (x3 := (xs (tn (nI i + nI 3)))) r) (fun a h1 hm => ?_)
  refine Y_al (q := 2) C dL_law_893 rfl rfl ?_
  refine Y_al (q := 0) C dL_law_894 rfl rfl ?_
  refine Y_il (q := 3) C dL_law_895 rfl rfl ?_
  refine Y_ic (v := nI 1) C dL_law_896 rfl ?_
  refine Y_iadd C dL_law_897 ?_
  refine Y_sld C (inL hL hi (by decide)) dL_law_898 ?_
  refine Y_al (q := 0) C dL_law_899 rfl rfl ?_
  refine Y_il (q := 3) C dL_law_900 rfl rfl ?_
  refine Y_ic (v := nI 2) C dL_law_901 rfl ?_
  refine Y_iadd C dL_law_902 ?_
  refine Y_sld C (inL hL hi (by decide)) dL_law_903 ?_
  refine Y_al (q := 0) C dL_law_904 rfl rfl ?_
  refine Y_il (q := 3) C dL_law_905 rfl rfl ?_
  refine Y_ic (v := nI 3) C dL_law_906 rfl ?_
  refine Y_iadd C dL_law_907 ?_
  refine Y_sld C (inL hL hi (by decide)) dL_law_908 ?_
  refine Y_call (k0 := 67) [.int (xs (tn (nI i + nI 1))), .int (xs (tn (nI i + nI 2))), .int (xs (tn (nI i + nI 3)))] [.int a] C cw_X12_taken lm_93 wc_X12 nd_X12_taken ⟨by decide, by decide⟩ wi_X12_taken ws_X12_taken dL_law_909 rfl rfl rfl rfl rfl (Nat.le_of_ble_eq_true rfl) hm (fun b2 h2 hb => ?_)
  exact Y_eq (tgt := 1155) C dL_law_912 (by decide) (fun _ => ih h2 hb.2) (fun ne => absurd hb.1 ne)
set_option maxHeartbeats 2000000 in
theorem law_latest {p : Program} {l : Launch} {e : Env} {s : State} {m : MethodId} {below : List Frame} {meth : Method} {c : Code} {b L : Nat} {xs : Nat → Int32} {G : GA} {h : HP} {i : Nat} (C : LC p s m meth c b L xs G) (hL : L ≤ 2560) (hi : i + 5 ≤ L) (r : Rel h) (ih : ∀ h2, Rel h2 → Lj p l e s m below meth c b G 1155 [(0, .ref b), (1, .ref (G.1 0)), (2, .ref (G.1 67)), (3, .int (nI i))] [] h2) : Lj p l e s m below meth c b G 917 [(0, .ref b), (1, .ref (G.1 0)), (2, .ref (G.1 67)), (3, .int (nI i))] [] h := by
  refine Y_al (q := 1) C dL_law_917 rfl rfl ?_
  refine Y_al (q := 0) C dL_law_918 rfl rfl ?_
  refine Y_il (q := 3) C dL_law_919 rfl rfl ?_
  refine Y_ic (v := nI 1) C dL_law_920 rfl ?_
  refine Y_iadd C dL_law_921 ?_
  refine Y_sld C (inL hL hi (by decide)) dL_law_922 ?_
  refine Y_al (q := 0) C dL_law_923 rfl rfl ?_
  refine Y_il (q := 3) C dL_law_924 rfl rfl ?_
  refine Y_ic (v := nI 2) C dL_law_925 rfl ?_
  refine Y_iadd C dL_law_926 ?_
  refine Y_sld C (inL hL hi (by decide)) dL_law_927 ?_
  refine Y_al (q := 0) C dL_law_928 rfl rfl ?_
  refine Y_il (q := 3) C dL_law_929 rfl rfl ?_
  refine Y_ic (v := nI 3) C dL_law_930 rfl ?_
  refine Y_iadd C dL_law_931 ?_
  refine Y_sld C (inL hL hi (by decide)) dL_law_932 ?_
  refine Y_al (q := 0) C dL_law_933 rfl rfl ?_
  refine Y_il (q := 3) C dL_law_934 rfl rfl ?_
  refine Y_ic (v := nI 4) C dL_law_935 rfl ?_
  refine Y_iadd C dL_law_936 ?_
  refine Y_sld C (inL hL hi (by decide)) dL_law_937 ?_
  refine Y_call (k0 := 0) [.int (xs (tn (nI i + nI 1))), .int (xs (tn (nI i + nI 2))), .int (xs (tn (nI i + nI 3))), .int (xs (tn (nI i + nI 4)))] [] C cw_X11_latest lm_94 wc_X11 nd_X11_latest ⟨by decide, by decide⟩ wi_X11_latest ws_X11_latest dL_law_938 rfl rfl rfl rfl rfl (Nat.le_of_ble_eq_true rfl) (L_latest (x1 := (xs (tn (nI i + nI 1)))) (x2 := (xs (tn (nI i + nI 2)))) (x3 := (xs (tn (nI i + nI 3)))) (x4 := (xs (tn (nI i + nI 4)))) r) (fun a h1 hm => ?_)
  refine Y_al (q := 2) C dL_law_941 rfl rfl ?_
  refine Y_al (q := 0) C dL_law_942 rfl rfl ?_
  refine Y_il (q := 3) C dL_law_943 rfl rfl ?_
  refine Y_ic (v := nI 1) C dL_law_944 rfl ?_
  refine Y_iadd C dL_law_945 ?_
  refine Y_sld C (inL hL hi (by decide)) dL_law_946 ?_
  refine Y_al (q := 0) C dL_law_947 rfl rfl ?_
  refine Y_il (q := 3) C dL_law_948 rfl rfl ?_
  refine Y_ic (v := nI 2) C dL_law_949 rfl ?_
  refine Y_iadd C dL_law_950 ?_
  refine Y_sld C (inL hL hi (by decide)) dL_law_951 ?_
  refine Y_al (q := 0) C dL_law_952 rfl rfl ?_
  refine Y_il (q := 3) C dL_law_953 rfl rfl ?_
  refine Y_ic (v := nI 3) C dL_law_954 rfl ?_
  refine Y_iadd C dL_law_955 ?_
  refine Y_sld C (inL hL hi (by decide)) dL_law_956 ?_
  refine Y_al (q := 0) C dL_law_957 rfl rfl ?_
  refine Y_il (q := 3) C dL_law_958 rfl rfl ?_
  refine Y_ic (v := nI 4) C dL_law_959 rfl ?_
  refine Y_iadd C dL_law_960 ?_
  refine Y_sld C (inL hL hi (by decide)) dL_law_961 ?_
  refine Y_call (k0 := 67) [.int (xs (tn (nI i + nI 1))), .int (xs (tn (nI i + nI 2))), .int (xs (tn (nI i + nI 3))), .int (xs (tn (nI i + nI 4)))] [.int a] C cw_X12_latest lm_97 wc_X12 nd_X12_latest ⟨by decide, by decide⟩ wi_X12_latest ws_X12_latest dL_law_962 rfl rfl rfl rfl rfl (Nat.le_of_ble_eq_true rfl) hm (fun b2 h2 hb => ?_)
  exact Y_eq (tgt := 1155) C dL_law_965 (by decide) (fun _ => ih h2 hb.2) (fun ne => absurd hb.1 ne)
set_option maxHeartbeats 2000000 in
theorem law_reach {p : Program} {l : Launch} {e : Env} {s : State} {m : MethodId} {below : List Frame} {meth : Method} {c : Code} {b L : Nat} {xs : Nat → Int32} {G : GA} {h : HP} {i : Nat} (C : LC p s m meth c b L xs G) (hL : L ≤ 2560) (hi : i + 5 ≤ L) (r : Rel h) (ih : ∀ h2, Rel h2 → Lj p l e s m below meth c b G 1155 [(0, .ref b), (1, .ref (G.1 0)), (2, .ref (G.1 67)), (3, .int (nI i))] [] h2) : Lj p l e s m below meth c b G 970 [(0, .ref b), (1, .ref (G.1 0)), (2, .ref (G.1 67)), (3, .int (nI i))] [] h := by
  refine Y_al (q := 1) C dL_law_970 rfl rfl ?_
  refine Y_al (q := 0) C dL_law_971 rfl rfl ?_
  refine Y_il (q := 3) C dL_law_972 rfl rfl ?_
  refine Y_ic (v := nI 1) C dL_law_973 rfl ?_
  refine Y_iadd C dL_law_974 ?_
  refine Y_sld C (inL hL hi (by decide)) dL_law_975 ?_
  refine Y_al (q := 0) C dL_law_976 rfl rfl ?_
  refine Y_il (q := 3) C dL_law_977 rfl rfl ?_
  refine Y_ic (v := nI 2) C dL_law_978 rfl ?_
  refine Y_iadd C dL_law_979 ?_
  refine Y_sld C (inL hL hi (by decide)) dL_law_980 ?_
  refine Y_al (q := 0) C dL_law_981 rfl rfl ?_
  refine Y_il (q := 3) C dL_law_982 rfl rfl ?_
  refine Y_ic (v := nI 3) C dL_law_983 rfl ?_
  refine Y_iadd C dL_law_984 ?_
  refine Y_sld C (inL hL hi (by decide)) dL_law_985 ?_
  refine Y_al (q := 0) C dL_law_986 rfl rfl ?_
  refine Y_il (q := 3) C dL_law_987 rfl rfl ?_
  refine Y_ic (v := nI 4) C dL_law_988 rfl ?_
  refine Y_iadd C dL_law_989 ?_
  refine Y_sld C (inL hL hi (by decide)) dL_law_990 ?_
  refine Y_call (k0 := 0) [.int (xs (tn (nI i + nI 1))), .int (xs (tn (nI i + nI 2))), .int (xs (tn (nI i + nI 3))), .int (xs (tn (nI i + nI 4)))] [] C cw_X11_reach lm_98 wc_X11 nd_X11_reach ⟨by decide, by decide⟩ wi_X11_reach ws_X11_reach dL_law_991 rfl rfl rfl rfl rfl (Nat.le_of_ble_eq_true rfl) (L_reach (x1 := (xs (tn (nI i + nI 1)))) (x2 := (xs (tn (nI i + nI 2)))) (x3 := (xs (tn (nI i + nI 3)))) (x4 := (xs (tn (nI i + nI 4)))) r) (fun a h1 hm => ?_)
  refine Y_al (q := 2) C dL_law_994 rfl rfl ?_
  refine Y_al (q := 0) C dL_law_995 rfl rfl ?_
  refine Y_il (q := 3) C dL_law_996 rfl rfl ?_
  refine Y_ic (v := nI 1) C dL_law_997 rfl ?_
  refine Y_iadd C dL_law_998 ?_
  refine Y_sld C (inL hL hi (by decide)) dL_law_999 ?_
  refine Y_al (q := 0) C dL_law_1000 rfl rfl ?_
  refine Y_il (q := 3) C dL_law_1001 rfl rfl ?_
  refine Y_ic (v := nI 2) C dL_law_1002 rfl ?_
  refine Y_iadd C dL_law_1003 ?_
  refine Y_sld C (inL hL hi (by decide)) dL_law_1004 ?_
  refine Y_al (q := 0) C dL_law_1005 rfl rfl ?_
  refine Y_il (q := 3) C dL_law_1006 rfl rfl ?_
  refine Y_ic (v := nI 3) C dL_law_1007 rfl ?_
  refine Y_iadd C dL_law_1008 ?_
  refine Y_sld C (inL hL hi (by decide)) dL_law_1009 ?_
  refine Y_al (q := 0) C dL_law_1010 rfl rfl ?_
  refine Y_il (q := 3) C dL_law_1011 rfl rfl ?_
  refine Y_ic (v := nI 4) C dL_law_1012 rfl ?_
  refine Y_iadd C dL_law_1013 ?_
  refine Y_sld C (inL hL hi (by decide)) dL_law_1014 ?_
  refine Y_call (k0 := 67) [.int (xs (tn (nI i + nI 1))), .int (xs (tn (nI i + nI 2))), .int (xs (tn (nI i + nI 3))), .int (xs (tn (nI i + nI 4)))] [.int a] C cw_X12_reach lm_101 wc_X12 nd_X12_reach ⟨by decide, by decide⟩ wi_X12_reach ws_X12_reach dL_law_1015 rfl rfl rfl rfl rfl (Nat.le_of_ble_eq_true rfl) hm (fun b2 h2 hb => ?_)
  exact Y_eq (tgt := 1155) C dL_law_1018 (by decide) (fun _ => ih h2 hb.2) (fun ne => absurd hb.1 ne)
set_option maxHeartbeats 2000000 in
theorem law_meet {p : Program} {l : Launch} {e : Env} {s : State} {m : MethodId} {below : List Frame} {meth : Method} {c : Code} {b L : Nat} {xs : Nat → Int32} {G : GA} {h : HP} {i : Nat} (C : LC p s m meth c b L xs G) (hL : L ≤ 2560) (hi : i + 5 ≤ L) (r : Rel h) (ih : ∀ h2, Rel h2 → Lj p l e s m below meth c b G 1155 [(0, .ref b), (1, .ref (G.1 0)), (2, .ref (G.1 67)), (3, .int (nI i))] [] h2) : Lj p l e s m below meth c b G 1023 [(0, .ref b), (1, .ref (G.1 0)), (2, .ref (G.1 67)), (3, .int (nI i))] [] h := by
  refine Y_al (q := 1) C dL_law_1023 rfl rfl ?_
  refine Y_al (q := 0) C dL_law_1024 rfl rfl ?_
  refine Y_il (q := 3) C dL_law_1025 rfl rfl ?_
  refine Y_ic (v := nI 1) C dL_law_1026 rfl ?_
  refine Y_iadd C dL_law_1027 ?_
  refine Y_sld C (inL hL hi (by decide)) dL_law_1028 ?_
  refine Y_al (q := 0) C dL_law_1029 rfl rfl ?_
  refine Y_il (q := 3) C dL_law_1030 rfl rfl ?_
  refine Y_ic (v := nI 2) C dL_law_1031 rfl ?_
  refine Y_iadd C dL_law_1032 ?_
  refine Y_sld C (inL hL hi (by decide)) dL_law_1033 ?_
  refine Y_al (q := 0) C dL_law_1034 rfl rfl ?_
  refine Y_il (q := 3) C dL_law_1035 rfl rfl ?_
  refine Y_ic (v := nI 3) C dL_law_1036 rfl ?_
  refine Y_iadd C dL_law_1037 ?_
  refine Y_sld C (inL hL hi (by decide)) dL_law_1038 ?_
  refine Y_call (k0 := 0) [.int (xs (tn (nI i + nI 1))), .int (xs (tn (nI i + nI 2))), .int (xs (tn (nI i + nI 3)))] [] C cw_X11_meet lm_102 wc_X11 nd_X11_meet ⟨by decide, by decide⟩ wi_X11_meet ws_X11_meet dL_law_1039 rfl rfl rfl rfl rfl (Nat.le_of_ble_eq_true rfl) (L_meet (x1 := (xs (tn (nI i + nI 1)))) (x2 := (xs (tn (nI i + nI 2)))) (x3 := (xs (tn (nI i + nI 3)))) r) (fun a h1 hm => ?_)
  refine Y_al (q := 2) C dL_law_1042 rfl rfl ?_
  refine Y_al (q := 0) C dL_law_1043 rfl rfl ?_
  refine Y_il (q := 3) C dL_law_1044 rfl rfl ?_
  refine Y_ic (v := nI 1) C dL_law_1045 rfl ?_
  refine Y_iadd C dL_law_1046 ?_
  refine Y_sld C (inL hL hi (by decide)) dL_law_1047 ?_
  refine Y_al (q := 0) C dL_law_1048 rfl rfl ?_
  refine Y_il (q := 3) C dL_law_1049 rfl rfl ?_
  refine Y_ic (v := nI 2) C dL_law_1050 rfl ?_
  refine Y_iadd C dL_law_1051 ?_
  refine Y_sld C (inL hL hi (by decide)) dL_law_1052 ?_
  refine Y_al (q := 0) C dL_law_1053 rfl rfl ?_
  refine Y_il (q := 3) C dL_law_1054 rfl rfl ?_
  refine Y_ic (v := nI 3) C dL_law_1055 rfl ?_
  refine Y_iadd C dL_law_1056 ?_
  refine Y_sld C (inL hL hi (by decide)) dL_law_1057 ?_
  refine Y_call (k0 := 67) [.int (xs (tn (nI i + nI 1))), .int (xs (tn (nI i + nI 2))), .int (xs (tn (nI i + nI 3)))] [.int a] C cw_X12_meet lm_105 wc_X12 nd_X12_meet ⟨by decide, by decide⟩ wi_X12_meet ws_X12_meet dL_law_1058 rfl rfl rfl rfl rfl (Nat.le_of_ble_eq_true rfl) hm (fun b2 h2 hb => ?_)
  exact Y_eq (tgt := 1155) C dL_law_1061 (by decide) (fun _ => ih h2 hb.2) (fun ne => absurd hb.1 ne)
set_option maxHeartbeats 2000000 in
theorem law_met {p : Program} {l : Launch} {e : Env} {s : State} {m : MethodId} {below : List Frame} {meth : Method} {c : Code} {b L : Nat} {xs : Nat → Int32} {G : GA} {h : HP} {i : Nat} (C : LC p s m meth c b L xs G) (hL : L ≤ 2560) (hi : i + 5 ≤ L) (r : Rel h) (ih : ∀ h2, Rel h2 → Lj p l e s m below meth c b G 1155 [(0, .ref b), (1, .ref (G.1 0)), (2, .ref (G.1 67)), (3, .int (nI i))] [] h2) : Lj p l e s m below meth c b G 1066 [(0, .ref b), (1, .ref (G.1 0)), (2, .ref (G.1 67)), (3, .int (nI i))] [] h := by
  refine Y_al (q := 1) C dL_law_1066 rfl rfl ?_
  refine Y_call (k0 := 0) [] [] C cw_X11_met lm_106 wc_X11 nd_X11_met ⟨by decide, by decide⟩ wi_X11_met ws_X11_met dL_law_1067 rfl rfl rfl rfl rfl (Nat.le_of_ble_eq_true rfl) (L_met r) (fun a h1 hm => ?_)
  refine Y_al (q := 2) C dL_law_1070 rfl rfl ?_
  refine Y_call (k0 := 67) [] [.int a] C cw_X12_met lm_110 wc_X12 nd_X12_met ⟨by decide, by decide⟩ wi_X12_met ws_X12_met dL_law_1071 rfl rfl rfl rfl rfl (Nat.le_of_ble_eq_true rfl) hm (fun b2 h2 hb => ?_)
  exact Y_eq (tgt := 1155) C dL_law_1074 (by decide) (fun _ => ih h2 hb.2) (fun ne => absurd hb.1 ne)
set_option maxHeartbeats 2000000 in
theorem law_table {p : Program} {l : Launch} {e : Env} {s : State} {m : MethodId} {below : List Frame} {meth : Method} {c : Code} {b L : Nat} {xs : Nat → Int32} {G : GA} {h : HP} {i : Nat} (C : LC p s m meth c b L xs G) (hL : L ≤ 2560) (hi : i + 5 ≤ L) (r : Rel h) (ih : ∀ h2, Rel h2 → Lj p l e s m below meth c b G 1155 [(0, .ref b), (1, .ref (G.1 0)), (2, .ref (G.1 67)), (3, .int (nI i))] [] h2) : Lj p l e s m below meth c b G 1079 [(0, .ref b), (1, .ref (G.1 0)), (2, .ref (G.1 67)), (3, .int (nI i))] [] h := by
  refine Y_al (q := 1) C dL_law_1079 rfl rfl ?_
  refine Y_al (q := 0) C dL_law_1080 rfl rfl ?_
  refine Y_il (q := 3) C dL_law_1081 rfl rfl ?_
  refine Y_ic (v := nI 1) C dL_law_1082 rfl ?_
  refine Y_iadd C dL_law_1083 ?_
  refine Y_sld C (inL hL hi (by decide)) dL_law_1084 ?_
  refine Y_al (q := 0) C dL_law_1085 rfl rfl ?_
  refine Y_il (q := 3) C dL_law_1086 rfl rfl ?_
  refine Y_ic (v := nI 2) C dL_law_1087 rfl ?_
  refine Y_iadd C dL_law_1088 ?_
  refine Y_sld C (inL hL hi (by decide)) dL_law_1089 ?_
  refine Y_al (q := 0) C dL_law_1090 rfl rfl ?_
  refine Y_il (q := 3) C dL_law_1091 rfl rfl ?_
  refine Y_ic (v := nI 3) C dL_law_1092 rfl ?_
  refine Y_iadd C dL_law_1093 ?_
  refine Y_sld C (inL hL hi (by decide)) dL_law_1094 ?_
  refine Y_al (q := 0) C dL_law_1095 rfl rfl ?_
  refine Y_il (q := 3) C dL_law_1096 rfl rfl ?_
  refine Y_ic (v := nI 4) C dL_law_1097 rfl ?_
  refine Y_iadd C dL_law_1098 ?_
  refine Y_sld C (inL hL hi (by decide)) dL_law_1099 ?_
  refine Y_call (k0 := 0) [.int (xs (tn (nI i + nI 1))), .int (xs (tn (nI i + nI 2))), .int (xs (tn (nI i + nI 3))), .int (xs (tn (nI i + nI 4)))] [] C cw_X11_table lm_111 wc_X11 nd_X11_table ⟨by decide, by decide⟩ wi_X11_table ws_X11_table dL_law_1100 rfl rfl rfl rfl rfl (Nat.le_of_ble_eq_true rfl) (L_table (x1 := (xs (tn (nI i + nI 1)))) (x2 := (xs (tn (nI i + nI 2)))) (x3 := (xs (tn (nI i + nI 3)))) (x4 := (xs (tn (nI i + nI 4)))) r) (fun a h1 hm => ?_)
  refine Y_al (q := 2) C dL_law_1103 rfl rfl ?_
  refine Y_al (q := 0) C dL_law_1104 rfl rfl ?_
  refine Y_il (q := 3) C dL_law_1105 rfl rfl ?_
  refine Y_ic (v := nI 1) C dL_law_1106 rfl ?_
  refine Y_iadd C dL_law_1107 ?_
  refine Y_sld C (inL hL hi (by decide)) dL_law_1108 ?_
  refine Y_al (q := 0) C dL_law_1109 rfl rfl ?_
  refine Y_il (q := 3) C dL_law_1110 rfl rfl ?_
  refine Y_ic (v := nI 2) C dL_law_1111 rfl ?_
  refine Y_iadd C dL_law_1112 ?_
  refine Y_sld C (inL hL hi (by decide)) dL_law_1113 ?_
  refine Y_al (q := 0) C dL_law_1114 rfl rfl ?_
  refine Y_il (q := 3) C dL_law_1115 rfl rfl ?_
  refine Y_ic (v := nI 3) C dL_law_1116 rfl ?_
  refine Y_iadd C dL_law_1117 ?_
  refine Y_sld C (inL hL hi (by decide)) dL_law_1118 ?_
  refine Y_al (q := 0) C dL_law_1119 rfl rfl ?_
  refine Y_il (q := 3) C dL_law_1120 rfl rfl ?_
  refine Y_ic (v := nI 4) C dL_law_1121 rfl ?_
  refine Y_iadd C dL_law_1122 ?_
  refine Y_sld C (inL hL hi (by decide)) dL_law_1123 ?_
  refine Y_call (k0 := 67) [.int (xs (tn (nI i + nI 1))), .int (xs (tn (nI i + nI 2))), .int (xs (tn (nI i + nI 3))), .int (xs (tn (nI i + nI 4)))] [.int a] C cw_X12_table lm_114 wc_X12 nd_X12_table ⟨by decide, by decide⟩ wi_X12_table ws_X12_table dL_law_1124 rfl rfl rfl rfl rfl (Nat.le_of_ble_eq_true rfl) hm (fun b2 h2 hb => ?_)
  exact Y_eq (tgt := 1155) C dL_law_1127 (by decide) (fun _ => ih h2 hb.2) (fun ne => absurd hb.1 ne)
set_option maxHeartbeats 2000000 in
theorem law_count {p : Program} {l : Launch} {e : Env} {s : State} {m : MethodId} {below : List Frame} {meth : Method} {c : Code} {b L : Nat} {xs : Nat → Int32} {G : GA} {h : HP} {i : Nat} (C : LC p s m meth c b L xs G) (hL : L ≤ 2560) (hi : i + 5 ≤ L) (r : Rel h) (ih : ∀ h2, Rel h2 → Lj p l e s m below meth c b G 1155 [(0, .ref b), (1, .ref (G.1 0)), (2, .ref (G.1 67)), (3, .int (nI i))] [] h2) : Lj p l e s m below meth c b G 1132 [(0, .ref b), (1, .ref (G.1 0)), (2, .ref (G.1 67)), (3, .int (nI i))] [] h := by
  refine Y_al (q := 1) C dL_law_1132 rfl rfl ?_
  refine Y_al (q := 0) C dL_law_1133 rfl rfl ?_
  refine Y_il (q := 3) C dL_law_1134 rfl rfl ?_
  refine Y_ic (v := nI 1) C dL_law_1135 rfl ?_
  refine Y_iadd C dL_law_1136 ?_
  refine Y_sld C (inL hL hi (by decide)) dL_law_1137 ?_
  refine Y_call (k0 := 0) [.int (xs (tn (nI i + nI 1)))] [] C cw_X11_count lm_115 wc_X11 nd_X11_count ⟨by decide, by decide⟩ wi_X11_count ws_X11_count dL_law_1138 rfl rfl rfl rfl rfl (Nat.le_of_ble_eq_true rfl) (L_count (x1 := (xs (tn (nI i + nI 1)))) r) (fun a h1 hm => ?_)
  refine Y_al (q := 2) C dL_law_1141 rfl rfl ?_
  refine Y_al (q := 0) C dL_law_1142 rfl rfl ?_
  refine Y_il (q := 3) C dL_law_1143 rfl rfl ?_
  refine Y_ic (v := nI 1) C dL_law_1144 rfl ?_
  refine Y_iadd C dL_law_1145 ?_
  refine Y_sld C (inL hL hi (by decide)) dL_law_1146 ?_
  refine Y_call (k0 := 67) [.int (xs (tn (nI i + nI 1)))] [.int a] C cw_X12_count lm_118 wc_X12 nd_X12_count ⟨by decide, by decide⟩ wi_X12_count ws_X12_count dL_law_1147 rfl rfl rfl rfl rfl (Nat.le_of_ble_eq_true rfl) hm (fun b2 h2 hb => ?_)
  exact Y_eq (tgt := 1155) C dL_law_1150 (by decide) (fun _ => ih h2 hb.2) (fun ne => absurd hb.1 ne)
