set_option maxRecDepth 100000 in
theorem wl_308 : Cond.methodLink RL 13 yX6_row ∈ wsA := zW 308 rfl rfl
set_option maxRecDepth 100000 in
theorem wl_329 : Cond.methodLink RL 18 yX6_set ∈ wsA := zW 329 rfl rfl
set_option maxRecDepth 100000 in
theorem wl_345 : Cond.methodLink RL 22 yX6_copy ∈ wsA := zW 345 rfl rfl
set_option maxRecDepth 100000 in
theorem wl_360 : Cond.methodLink RL 27 yX6_drop ∈ wsA := zW 360 rfl rfl
set_option maxRecDepth 100000 in
theorem wl_368 : Cond.methodLink RL 32 yX6_feed ∈ wsA := zW 368 rfl rfl
set_option maxRecDepth 100000 in
theorem wl_377 : Cond.methodLink RL 36 yX6_castle ∈ wsA := zW 377 rfl rfl
set_option maxRecDepth 100000 in
theorem wl_437 : Cond.methodLink RL 41 yX6_fault ∈ wsA := zW 437 rfl rfl
set_option maxRecDepth 100000 in
theorem wl_441 : Cond.methodLink RL 45 yX6_invite ∈ wsA := zW 441 rfl rfl
set_option maxRecDepth 100000 in
theorem wl_466 : Cond.methodLink RL 49 yX6_show ∈ wsA := zW 466 rfl rfl
set_option maxRecDepth 100000 in
theorem wl_497 : Cond.methodLink RL 53 yX6_speak ∈ wsA := zW 497 rfl rfl
set_option maxRecDepth 100000 in
theorem wl_509 : Cond.methodLink RL 57 yX6_tale ∈ wsA := zW 509 rfl rfl
set_option maxRecDepth 100000 in
theorem wl_519 : Cond.methodLink RL 62 yX6_undo ∈ wsA := zW 519 rfl rfl
set_option maxRecDepth 100000 in
theorem wl_544 : Cond.methodLink RL 66 yX6_guest ∈ wsA := zW 544 rfl rfl
set_option maxRecDepth 100000 in
theorem wl_548 : Cond.methodLink RL 70 yX6_hint ∈ wsA := zW 548 rfl rfl
set_option maxRecDepth 100000 in
theorem wl_552 : Cond.methodLink RL 74 yX6_leads ∈ wsA := zW 552 rfl rfl
set_option maxRecDepth 100000 in
theorem wl_557 : Cond.methodLink RL 78 yX6_route ∈ wsA := zW 557 rfl rfl
set_option maxRecDepth 100000 in
theorem wl_600 : Cond.methodLink RL 82 yX6_thinkable ∈ wsA := zW 600 rfl rfl
set_option maxRecDepth 100000 in
theorem wl_607 : Cond.methodLink RL 86 yX6_chance ∈ wsA := zW 607 rfl rfl
set_option maxRecDepth 100000 in
theorem wl_621 : Cond.methodLink RL 90 yX6_taught ∈ wsA := zW 621 rfl rfl
set_option maxRecDepth 100000 in
theorem wl_625 : Cond.methodLink RL 94 yX6_bestGuest ∈ wsA := zW 625 rfl rfl
set_option maxRecDepth 100000 in
theorem wl_638 : Cond.methodLink RL 98 yX6_cover ∈ wsA := zW 638 rfl rfl
set_option maxRecDepth 100000 in
theorem wl_661 : Cond.methodLink RL 102 yX6_spoilt ∈ wsA := zW 661 rfl rfl
set_option maxRecDepth 100000 in
theorem wl_673 : Cond.methodLink RL 106 yX6_nearly ∈ wsA := zW 673 rfl rfl
set_option maxRecDepth 100000 in
theorem wl_691 : Cond.methodLink RL 110 yX6_image ∈ wsA := zW 691 rfl rfl
set_option maxRecDepth 100000 in
theorem wl_699 : Cond.methodLink RL 114 yX6_restore ∈ wsA := zW 699 rfl rfl
set_option maxRecDepth 100000 in
theorem wl_703 : Cond.methodLink RL 118 yX6_kind ∈ wsA := zW 703 rfl rfl
set_option maxRecDepth 100000 in
theorem wl_707 : Cond.methodLink RL 122 yX6_as ∈ wsA := zW 707 rfl rfl
set_option maxRecDepth 100000 in
theorem wl_717 : Cond.methodLink RL 126 yX6_ask ∈ wsA := zW 717 rfl rfl
set_option maxRecDepth 100000 in
theorem wl_738 : Cond.methodLink RL 130 yX6_trace ∈ wsA := zW 738 rfl rfl
set_option maxRecDepth 100000 in
theorem wl_742 : Cond.methodLink RL 134 yX6_count ∈ wsA := zW 742 rfl rfl
set_option maxRecDepth 100000 in
theorem wl_751 : Cond.methodLink RL 138 yX6_status ∈ wsA := zW 751 rfl rfl
set_option maxRecDepth 100000 in
theorem wl_836 : Cond.methodLink RL 17 yX7_row ∈ wsA := zW 836 rfl rfl
set_option maxRecDepth 100000 in
theorem wl_856 : Cond.methodLink RL 21 yX7_set ∈ wsA := zW 856 rfl rfl
set_option maxRecDepth 100000 in
theorem wl_867 : Cond.methodLink RL 26 yX7_copy ∈ wsA := zW 867 rfl rfl
set_option maxRecDepth 100000 in
theorem wl_875 : Cond.methodLink RL 31 yX7_drop ∈ wsA := zW 875 rfl rfl
set_option maxRecDepth 100000 in
theorem wl_879 : Cond.methodLink RL 35 yX7_feed ∈ wsA := zW 879 rfl rfl
set_option maxRecDepth 100000 in
theorem wl_884 : Cond.methodLink RL 40 yX7_castle ∈ wsA := zW 884 rfl rfl
set_option maxRecDepth 100000 in
theorem wl_927 : Cond.methodLink RL 44 yX7_fault ∈ wsA := zW 927 rfl rfl
set_option maxRecDepth 100000 in
theorem wl_931 : Cond.methodLink RL 48 yX7_invite ∈ wsA := zW 931 rfl rfl
set_option maxRecDepth 100000 in
theorem wl_952 : Cond.methodLink RL 52 yX7_show ∈ wsA := zW 952 rfl rfl
set_option maxRecDepth 100000 in
theorem wl_974 : Cond.methodLink RL 56 yX7_speak ∈ wsA := zW 974 rfl rfl
set_option maxRecDepth 100000 in
theorem wl_982 : Cond.methodLink RL 61 yX7_tale ∈ wsA := zW 982 rfl rfl
set_option maxRecDepth 100000 in
theorem wl_986 : Cond.methodLink RL 65 yX7_undo ∈ wsA := zW 986 rfl rfl
set_option maxRecDepth 100000 in
theorem wl_990 : Cond.methodLink RL 69 yX7_guest ∈ wsA := zW 990 rfl rfl
set_option maxRecDepth 100000 in
theorem wl_994 : Cond.methodLink RL 73 yX7_hint ∈ wsA := zW 994 rfl rfl
set_option maxRecDepth 100000 in
theorem wl_998 : Cond.methodLink RL 77 yX7_leads ∈ wsA := zW 998 rfl rfl
set_option maxRecDepth 100000 in
theorem wl_1002 : Cond.methodLink RL 81 yX7_route ∈ wsA := zW 1002 rfl rfl
set_option maxRecDepth 100000 in
theorem wl_1025 : Cond.methodLink RL 85 yX7_thinkable ∈ wsA := zW 1025 rfl rfl
set_option maxRecDepth 100000 in
theorem wl_1033 : Cond.methodLink RL 89 yX7_chance ∈ wsA := zW 1033 rfl rfl
set_option maxRecDepth 100000 in
theorem wl_1037 : Cond.methodLink RL 93 yX7_taught ∈ wsA := zW 1037 rfl rfl
set_option maxRecDepth 100000 in
theorem wl_1041 : Cond.methodLink RL 97 yX7_bestGuest ∈ wsA := zW 1041 rfl rfl
set_option maxRecDepth 100000 in
theorem wl_1053 : Cond.methodLink RL 101 yX7_cover ∈ wsA := zW 1053 rfl rfl
set_option maxRecDepth 100000 in
theorem wl_1065 : Cond.methodLink RL 105 yX7_spoilt ∈ wsA := zW 1065 rfl rfl
set_option maxRecDepth 100000 in
theorem wl_1069 : Cond.methodLink RL 109 yX7_nearly ∈ wsA := zW 1069 rfl rfl
set_option maxRecDepth 100000 in
theorem wl_1077 : Cond.methodLink RL 113 yX7_image ∈ wsA := zW 1077 rfl rfl
set_option maxRecDepth 100000 in
theorem wl_1081 : Cond.methodLink RL 117 yX7_restore ∈ wsA := zW 1081 rfl rfl
set_option maxRecDepth 100000 in
theorem wl_1085 : Cond.methodLink RL 121 yX7_kind ∈ wsA := zW 1085 rfl rfl
set_option maxRecDepth 100000 in
theorem wl_1093 : Cond.methodLink RL 125 yX7_as ∈ wsA := zW 1093 rfl rfl
set_option maxRecDepth 100000 in
theorem wl_1097 : Cond.methodLink RL 129 yX7_ask ∈ wsA := zW 1097 rfl rfl
set_option maxRecDepth 100000 in
theorem wl_1121 : Cond.methodLink RL 133 yX7_trace ∈ wsA := zW 1121 rfl rfl
set_option maxRecDepth 100000 in
theorem wl_1125 : Cond.methodLink RL 137 yX7_count ∈ wsA := zW 1125 rfl rfl
set_option maxRecDepth 100000 in
theorem wl_1129 : Cond.methodLink RL 141 yX7_status ∈ wsA := zW 1129 rfl rfl
set_option maxHeartbeats 4000000 in
set_option maxRecDepth 100000 in
theorem law_row {p : Program} {l : Launch} {e : Env} {s : State} {m : MethodId} {b : Nat} {below : List Frame} {meth : Method} {c : Code} {D : va_G} {cI cZ : ClassId} {ad ad2 : Nat → Nat} {n : Nat} {xs : Nat → Int32} {X M : KX} {N : Nat} {Sim : KX → KX → Prop} {x3 : Int32} (F : VF (p, l, e, s, m, b, below, meth, c) (D, cI, cZ, ad, ad2) n xs) (hop : zOp_row N Sim) (hS : Sim X M) (h1 : vp_in (x3 + 1) n) (h2 : vp_in (x3 + 2) n) (h3 : vp_in (x3 + 3) n) (h4 : vp_in (x3 + 4) n) (h5 : vp_in (x3 + 5) n) (hk : ∀ X M : KX, Sim X M → V (p, l, e, s, m, b, below, meth, c) (D, cI, cZ, ad, ad2) X M 1035 [(3, .int x3), (2, .ref (ad2 0)), (1, .ref (ad 0)), (0, .ref b)] []) : V (p, l, e, s, m, b, below, meth, c) (D, cI, cZ, ad, ad2) X M 172 [(3, .int x3), (2, .ref (ad2 0)), (1, .ref (ad 0)), (0, .ref b)] [] := by
  refine v_aload_n F dL_law_172 2 rfl rfl ?_
  refine v_aload_n F dL_law_173 3 rfl rfl ?_
  refine v_iload_n F dL_law_174 0 rfl rfl ?_
  refine v_iconst (v := 1) F dL_law_175 (by decide +kernel) ?_
  refine v_iadd F dL_law_176 ?_
  refine v_sld F h1 dL_law_177 ?_
  refine v_aload_n F dL_law_178 3 rfl rfl ?_
  refine v_iload_n F dL_law_179 0 rfl rfl ?_
  refine v_iconst (v := 2) F dL_law_180 (by decide +kernel) ?_
  refine v_iadd F dL_law_181 ?_
  refine v_sld F h2 dL_law_182 ?_
  refine v_aload_n F dL_law_183 3 rfl rfl ?_
  refine v_iload_n F dL_law_184 0 rfl rfl ?_
  refine v_iconst (v := 3) F dL_law_185 (by decide +kernel) ?_
  refine v_iadd F dL_law_186 ?_
  refine v_sld F h3 dL_law_187 ?_
  obtain ⟨r, X1, M1, e1, e2, hS1⟩ := hop X M hS (xs (x3 + 1).toNatClampNeg) (xs (x3 + 2).toNatClampNeg) (xs (x3 + 3).toNatClampNeg)
  refine v_cK (As := [.int (xs (x3 + 1).toNatClampNeg), .int (xs (x3 + 2).toNatClampNeg), .int (xs (x3 + 3).toNatClampNeg)]) (rest := []) F (c_X6_row N X (xs (x3 + 1).toNatClampNeg) (xs (x3 + 2).toNatClampNeg) (xs (x3 + 3).toNatClampNeg) e1) kn_X6_row kv_X6_row wl_308 rfl (by decide) rfl (Nat.le_of_ble_eq_true rfl) dL_law_188 rfl ?_
  refine v_aload_n F dL_law_191 1 rfl rfl ?_
  refine v_aload_n F dL_law_192 3 rfl rfl ?_
  refine v_iload_n F dL_law_193 0 rfl rfl ?_
  refine v_iconst (v := 1) F dL_law_194 (by decide +kernel) ?_
  refine v_iadd F dL_law_195 ?_
  refine v_sld F h1 dL_law_196 ?_
  refine v_aload_n F dL_law_197 3 rfl rfl ?_
  refine v_iload_n F dL_law_198 0 rfl rfl ?_
  refine v_iconst (v := 2) F dL_law_199 (by decide +kernel) ?_
  refine v_iadd F dL_law_200 ?_
  refine v_sld F h2 dL_law_201 ?_
  refine v_aload_n F dL_law_202 3 rfl rfl ?_
  refine v_iload_n F dL_law_203 0 rfl rfl ?_
  refine v_iconst (v := 3) F dL_law_204 (by decide +kernel) ?_
  refine v_iadd F dL_law_205 ?_
  refine v_sld F h3 dL_law_206 ?_
  refine v_cM (As := [.int (xs (x3 + 1).toNatClampNeg), .int (xs (x3 + 2).toNatClampNeg), .int (xs (x3 + 3).toNatClampNeg)]) (rest := [.int r]) F (c_X7_row N M (xs (x3 + 1).toNatClampNeg) (xs (x3 + 2).toNatClampNeg) (xs (x3 + 3).toNatClampNeg) e2) kn_X7_row kv_X7_row wl_836 rfl (by decide) rfl (Nat.le_of_ble_eq_true rfl) dL_law_207 rfl ?_
  refine v_eq (tgt := 1035) F dL_law_210 (by decide) ?_
  exact hk _ _ hS1

set_option maxHeartbeats 4000000 in
set_option maxRecDepth 100000 in
theorem law_set {p : Program} {l : Launch} {e : Env} {s : State} {m : MethodId} {b : Nat} {below : List Frame} {meth : Method} {c : Code} {D : va_G} {cI cZ : ClassId} {ad ad2 : Nat → Nat} {n : Nat} {xs : Nat → Int32} {X M : KX} {N : Nat} {Sim : KX → KX → Prop} {x3 : Int32} (F : VF (p, l, e, s, m, b, below, meth, c) (D, cI, cZ, ad, ad2) n xs) (hop : zOp_set N Sim) (hS : Sim X M) (h1 : vp_in (x3 + 1) n) (h2 : vp_in (x3 + 2) n) (h3 : vp_in (x3 + 3) n) (h4 : vp_in (x3 + 4) n) (h5 : vp_in (x3 + 5) n) (hk : ∀ X M : KX, Sim X M → V (p, l, e, s, m, b, below, meth, c) (D, cI, cZ, ad, ad2) X M 1035 [(3, .int x3), (2, .ref (ad2 0)), (1, .ref (ad 0)), (0, .ref b)] []) : V (p, l, e, s, m, b, below, meth, c) (D, cI, cZ, ad, ad2) X M 215 [(3, .int x3), (2, .ref (ad2 0)), (1, .ref (ad 0)), (0, .ref b)] [] := by
  refine v_aload_n F dL_law_215 2 rfl rfl ?_
  refine v_aload_n F dL_law_216 3 rfl rfl ?_
  refine v_iload_n F dL_law_217 0 rfl rfl ?_
  refine v_iconst (v := 1) F dL_law_218 (by decide +kernel) ?_
  refine v_iadd F dL_law_219 ?_
  refine v_sld F h1 dL_law_220 ?_
  refine v_aload_n F dL_law_221 3 rfl rfl ?_
  refine v_iload_n F dL_law_222 0 rfl rfl ?_
  refine v_iconst (v := 2) F dL_law_223 (by decide +kernel) ?_
  refine v_iadd F dL_law_224 ?_
  refine v_sld F h2 dL_law_225 ?_
  refine v_aload_n F dL_law_226 3 rfl rfl ?_
  refine v_iload_n F dL_law_227 0 rfl rfl ?_
  refine v_iconst (v := 3) F dL_law_228 (by decide +kernel) ?_
  refine v_iadd F dL_law_229 ?_
  refine v_sld F h3 dL_law_230 ?_
  obtain ⟨r, X1, M1, e1, e2, hS1⟩ := hop X M hS (xs (x3 + 1).toNatClampNeg) (xs (x3 + 2).toNatClampNeg) (xs (x3 + 3).toNatClampNeg)
  refine v_cK (As := [.int (xs (x3 + 1).toNatClampNeg), .int (xs (x3 + 2).toNatClampNeg), .int (xs (x3 + 3).toNatClampNeg)]) (rest := []) F (c_X6_set X (xs (x3 + 1).toNatClampNeg) (xs (x3 + 2).toNatClampNeg) (xs (x3 + 3).toNatClampNeg) e1) kn_X6_set kv_X6_set wl_329 rfl (by decide) rfl (Nat.le_of_ble_eq_true rfl) dL_law_231 rfl ?_
  refine v_aload_n F dL_law_234 1 rfl rfl ?_
  refine v_aload_n F dL_law_235 3 rfl rfl ?_
  refine v_iload_n F dL_law_236 0 rfl rfl ?_
  refine v_iconst (v := 1) F dL_law_237 (by decide +kernel) ?_
  refine v_iadd F dL_law_238 ?_
  refine v_sld F h1 dL_law_239 ?_
  refine v_aload_n F dL_law_240 3 rfl rfl ?_
  refine v_iload_n F dL_law_241 0 rfl rfl ?_
  refine v_iconst (v := 2) F dL_law_242 (by decide +kernel) ?_
  refine v_iadd F dL_law_243 ?_
  refine v_sld F h2 dL_law_244 ?_
  refine v_aload_n F dL_law_245 3 rfl rfl ?_
  refine v_iload_n F dL_law_246 0 rfl rfl ?_
  refine v_iconst (v := 3) F dL_law_247 (by decide +kernel) ?_
  refine v_iadd F dL_law_248 ?_
  refine v_sld F h3 dL_law_249 ?_
  refine v_cM (As := [.int (xs (x3 + 1).toNatClampNeg), .int (xs (x3 + 2).toNatClampNeg), .int (xs (x3 + 3).toNatClampNeg)]) (rest := [.int r]) F (c_X7_set M (xs (x3 + 1).toNatClampNeg) (xs (x3 + 2).toNatClampNeg) (xs (x3 + 3).toNatClampNeg) e2) kn_X7_set kv_X7_set wl_856 rfl (by decide) rfl (Nat.le_of_ble_eq_true rfl) dL_law_250 rfl ?_
  refine v_eq (tgt := 1035) F dL_law_253 (by decide) ?_
  exact hk _ _ hS1

set_option maxHeartbeats 4000000 in
set_option maxRecDepth 100000 in
theorem law_copy {p : Program} {l : Launch} {e : Env} {s : State} {m : MethodId} {b : Nat} {below : List Frame} {meth : Method} {c : Code} {D : va_G} {cI cZ : ClassId} {ad ad2 : Nat → Nat} {n : Nat} {xs : Nat → Int32} {X M : KX} {N : Nat} {Sim : KX → KX → Prop} {x3 : Int32} (F : VF (p, l, e, s, m, b, below, meth, c) (D, cI, cZ, ad, ad2) n xs) (hop : zOp_copy N Sim) (hS : Sim X M) (h1 : vp_in (x3 + 1) n) (h2 : vp_in (x3 + 2) n) (h3 : vp_in (x3 + 3) n) (h4 : vp_in (x3 + 4) n) (h5 : vp_in (x3 + 5) n) (hk : ∀ X M : KX, Sim X M → V (p, l, e, s, m, b, below, meth, c) (D, cI, cZ, ad, ad2) X M 1035 [(3, .int x3), (2, .ref (ad2 0)), (1, .ref (ad 0)), (0, .ref b)] []) : V (p, l, e, s, m, b, below, meth, c) (D, cI, cZ, ad, ad2) X M 258 [(3, .int x3), (2, .ref (ad2 0)), (1, .ref (ad 0)), (0, .ref b)] [] := by
  refine v_aload_n F dL_law_258 2 rfl rfl ?_
  refine v_aload_n F dL_law_259 3 rfl rfl ?_
  refine v_iload_n F dL_law_260 0 rfl rfl ?_
  refine v_iconst (v := 1) F dL_law_261 (by decide +kernel) ?_
  refine v_iadd F dL_law_262 ?_
  refine v_sld F h1 dL_law_263 ?_
  refine v_aload_n F dL_law_264 3 rfl rfl ?_
  refine v_iload_n F dL_law_265 0 rfl rfl ?_
  refine v_iconst (v := 2) F dL_law_266 (by decide +kernel) ?_
  refine v_iadd F dL_law_267 ?_
  refine v_sld F h2 dL_law_268 ?_
  refine v_aload_n F dL_law_269 3 rfl rfl ?_
  refine v_iload_n F dL_law_270 0 rfl rfl ?_
  refine v_iconst (v := 3) F dL_law_271 (by decide +kernel) ?_
  refine v_iadd F dL_law_272 ?_
  refine v_sld F h3 dL_law_273 ?_
  refine v_aload_n F dL_law_274 3 rfl rfl ?_
  refine v_iload_n F dL_law_275 0 rfl rfl ?_
  refine v_iconst (v := 4) F dL_law_276 (by decide +kernel) ?_
  refine v_iadd F dL_law_277 ?_
  refine v_sld F h4 dL_law_278 ?_
  refine v_aload_n F dL_law_279 3 rfl rfl ?_
  refine v_iload_n F dL_law_280 0 rfl rfl ?_
  refine v_iconst (v := 5) F dL_law_281 (by decide +kernel) ?_
  refine v_iadd F dL_law_282 ?_
  refine v_sld F h5 dL_law_283 ?_
  obtain ⟨r, X1, M1, e1, e2, hS1⟩ := hop X M hS (xs (x3 + 1).toNatClampNeg) (xs (x3 + 2).toNatClampNeg) (xs (x3 + 3).toNatClampNeg) (xs (x3 + 4).toNatClampNeg) (xs (x3 + 5).toNatClampNeg)
  refine v_cK (As := [.int (xs (x3 + 1).toNatClampNeg), .int (xs (x3 + 2).toNatClampNeg), .int (xs (x3 + 3).toNatClampNeg), .int (xs (x3 + 4).toNatClampNeg), .int (xs (x3 + 5).toNatClampNeg)]) (rest := []) F (c_X6_copy X (xs (x3 + 1).toNatClampNeg) (xs (x3 + 2).toNatClampNeg) (xs (x3 + 3).toNatClampNeg) (xs (x3 + 4).toNatClampNeg) (xs (x3 + 5).toNatClampNeg) e1) kn_X6_copy kv_X6_copy wl_345 rfl (by decide) rfl (Nat.le_of_ble_eq_true rfl) dL_law_284 rfl ?_
  refine v_aload_n F dL_law_287 1 rfl rfl ?_
  refine v_aload_n F dL_law_288 3 rfl rfl ?_
  refine v_iload_n F dL_law_289 0 rfl rfl ?_
  refine v_iconst (v := 1) F dL_law_290 (by decide +kernel) ?_
  refine v_iadd F dL_law_291 ?_
  refine v_sld F h1 dL_law_292 ?_
  refine v_aload_n F dL_law_293 3 rfl rfl ?_
  refine v_iload_n F dL_law_294 0 rfl rfl ?_
  refine v_iconst (v := 2) F dL_law_295 (by decide +kernel) ?_
  refine v_iadd F dL_law_296 ?_
  refine v_sld F h2 dL_law_297 ?_
  refine v_aload_n F dL_law_298 3 rfl rfl ?_
  refine v_iload_n F dL_law_299 0 rfl rfl ?_
  refine v_iconst (v := 3) F dL_law_300 (by decide +kernel) ?_
  refine v_iadd F dL_law_301 ?_
  refine v_sld F h3 dL_law_302 ?_
  refine v_aload_n F dL_law_303 3 rfl rfl ?_
  refine v_iload_n F dL_law_304 0 rfl rfl ?_
  refine v_iconst (v := 4) F dL_law_305 (by decide +kernel) ?_
  refine v_iadd F dL_law_306 ?_
  refine v_sld F h4 dL_law_307 ?_
  refine v_aload_n F dL_law_308 3 rfl rfl ?_
  refine v_iload_n F dL_law_309 0 rfl rfl ?_
  refine v_iconst (v := 5) F dL_law_310 (by decide +kernel) ?_
  refine v_iadd F dL_law_311 ?_
  refine v_sld F h5 dL_law_312 ?_
  refine v_cM (As := [.int (xs (x3 + 1).toNatClampNeg), .int (xs (x3 + 2).toNatClampNeg), .int (xs (x3 + 3).toNatClampNeg), .int (xs (x3 + 4).toNatClampNeg), .int (xs (x3 + 5).toNatClampNeg)]) (rest := [.int r]) F (c_X7_copy N M (xs (x3 + 1).toNatClampNeg) (xs (x3 + 2).toNatClampNeg) (xs (x3 + 3).toNatClampNeg) (xs (x3 + 4).toNatClampNeg) (xs (x3 + 5).toNatClampNeg) e2) kn_X7_copy kv_X7_copy wl_867 rfl (by decide) rfl (Nat.le_of_ble_eq_true rfl) dL_law_313 rfl ?_
  refine v_eq (tgt := 1035) F dL_law_316 (by decide) ?_
  exact hk _ _ hS1

set_option maxHeartbeats 4000000 in
set_option maxRecDepth 100000 in
theorem law_drop {p : Program} {l : Launch} {e : Env} {s : State} {m : MethodId} {b : Nat} {below : List Frame} {meth : Method} {c : Code} {D : va_G} {cI cZ : ClassId} {ad ad2 : Nat → Nat} {n : Nat} {xs : Nat → Int32} {X M : KX} {N : Nat} {Sim : KX → KX → Prop} {x3 : Int32} (F : VF (p, l, e, s, m, b, below, meth, c) (D, cI, cZ, ad, ad2) n xs) (hop : zOp_drop N Sim) (hS : Sim X M) (h1 : vp_in (x3 + 1) n) (h2 : vp_in (x3 + 2) n) (h3 : vp_in (x3 + 3) n) (h4 : vp_in (x3 + 4) n) (h5 : vp_in (x3 + 5) n) (hk : ∀ X M : KX, Sim X M → V (p, l, e, s, m, b, below, meth, c) (D, cI, cZ, ad, ad2) X M 1035 [(3, .int x3), (2, .ref (ad2 0)), (1, .ref (ad 0)), (0, .ref b)] []) : V (p, l, e, s, m, b, below, meth, c) (D, cI, cZ, ad, ad2) X M 321 [(3, .int x3), (2, .ref (ad2 0)), (1, .ref (ad 0)), (0, .ref b)] [] := by
  refine v_aload_n F dL_law_321 2 rfl rfl ?_
  refine v_aload_n F dL_law_322 3 rfl rfl ?_
  refine v_iload_n F dL_law_323 0 rfl rfl ?_
  refine v_iconst (v := 1) F dL_law_324 (by decide +kernel) ?_
  refine v_iadd F dL_law_325 ?_
  refine v_sld F h1 dL_law_326 ?_
  obtain ⟨r, X1, M1, e1, e2, hS1⟩ := hop X M hS (xs (x3 + 1).toNatClampNeg)
  refine v_cK (As := [.int (xs (x3 + 1).toNatClampNeg)]) (rest := []) F (c_X6_drop X (xs (x3 + 1).toNatClampNeg) e1) kn_X6_drop kv_X6_drop wl_360 rfl (by decide) rfl (Nat.le_of_ble_eq_true rfl) dL_law_327 rfl ?_
  refine v_aload_n F dL_law_330 1 rfl rfl ?_
  refine v_aload_n F dL_law_331 3 rfl rfl ?_
  refine v_iload_n F dL_law_332 0 rfl rfl ?_
  refine v_iconst (v := 1) F dL_law_333 (by decide +kernel) ?_
  refine v_iadd F dL_law_334 ?_
  refine v_sld F h1 dL_law_335 ?_
  refine v_cM (As := [.int (xs (x3 + 1).toNatClampNeg)]) (rest := [.int r]) F (c_X7_drop M (xs (x3 + 1).toNatClampNeg) e2) kn_X7_drop kv_X7_drop wl_875 rfl (by decide) rfl (Nat.le_of_ble_eq_true rfl) dL_law_336 rfl ?_
  refine v_eq (tgt := 1035) F dL_law_339 (by decide) ?_
  exact hk _ _ hS1

set_option maxHeartbeats 4000000 in
set_option maxRecDepth 100000 in
theorem law_feed {p : Program} {l : Launch} {e : Env} {s : State} {m : MethodId} {b : Nat} {below : List Frame} {meth : Method} {c : Code} {D : va_G} {cI cZ : ClassId} {ad ad2 : Nat → Nat} {n : Nat} {xs : Nat → Int32} {X M : KX} {N : Nat} {Sim : KX → KX → Prop} {x3 : Int32} (F : VF (p, l, e, s, m, b, below, meth, c) (D, cI, cZ, ad, ad2) n xs) (hop : zOp_feed N Sim) (hS : Sim X M) (h1 : vp_in (x3 + 1) n) (h2 : vp_in (x3 + 2) n) (h3 : vp_in (x3 + 3) n) (h4 : vp_in (x3 + 4) n) (h5 : vp_in (x3 + 5) n) (hk : ∀ X M : KX, Sim X M → V (p, l, e, s, m, b, below, meth, c) (D, cI, cZ, ad, ad2) X M 1035 [(3, .int x3), (2, .ref (ad2 0)), (1, .ref (ad 0)), (0, .ref b)] []) : V (p, l, e, s, m, b, below, meth, c) (D, cI, cZ, ad, ad2) X M 344 [(3, .int x3), (2, .ref (ad2 0)), (1, .ref (ad 0)), (0, .ref b)] [] := by
  refine v_aload_n F dL_law_344 2 rfl rfl ?_
  refine v_aload_n F dL_law_345 3 rfl rfl ?_
  refine v_iload_n F dL_law_346 0 rfl rfl ?_
  refine v_iconst (v := 1) F dL_law_347 (by decide +kernel) ?_
  refine v_iadd F dL_law_348 ?_
  refine v_sld F h1 dL_law_349 ?_
  obtain ⟨r, X1, M1, e1, e2, hS1⟩ := hop X M hS (xs (x3 + 1).toNatClampNeg)
  refine v_cK (As := [.int (xs (x3 + 1).toNatClampNeg)]) (rest := []) F (c_X6_feed X (xs (x3 + 1).toNatClampNeg) e1) kn_X6_feed kv_X6_feed wl_368 rfl (by decide) rfl (Nat.le_of_ble_eq_true rfl) dL_law_350 rfl ?_
  refine v_aload_n F dL_law_353 1 rfl rfl ?_
  refine v_aload_n F dL_law_354 3 rfl rfl ?_
  refine v_iload_n F dL_law_355 0 rfl rfl ?_
  refine v_iconst (v := 1) F dL_law_356 (by decide +kernel) ?_
  refine v_iadd F dL_law_357 ?_
  refine v_sld F h1 dL_law_358 ?_
  refine v_cM (As := [.int (xs (x3 + 1).toNatClampNeg)]) (rest := [.int r]) F (c_X7_feed M (xs (x3 + 1).toNatClampNeg) e2) kn_X7_feed kv_X7_feed wl_879 rfl (by decide) rfl (Nat.le_of_ble_eq_true rfl) dL_law_359 rfl ?_
  refine v_eq (tgt := 1035) F dL_law_362 (by decide) ?_
  exact hk _ _ hS1

set_option maxHeartbeats 4000000 in
set_option maxRecDepth 100000 in
theorem law_castle {p : Program} {l : Launch} {e : Env} {s : State} {m : MethodId} {b : Nat} {below : List Frame} {meth : Method} {c : Code} {D : va_G} {cI cZ : ClassId} {ad ad2 : Nat → Nat} {n : Nat} {xs : Nat → Int32} {X M : KX} {N : Nat} {Sim : KX → KX → Prop} {x3 : Int32} (F : VF (p, l, e, s, m, b, below, meth, c) (D, cI, cZ, ad, ad2) n xs) (hop : zOp_castle N Sim) (hS : Sim X M) (h1 : vp_in (x3 + 1) n) (h2 : vp_in (x3 + 2) n) (h3 : vp_in (x3 + 3) n) (h4 : vp_in (x3 + 4) n) (h5 : vp_in (x3 + 5) n) (hk : ∀ X M : KX, Sim X M → V (p, l, e, s, m, b, below, meth, c) (D, cI, cZ, ad, ad2) X M 1035 [(3, .int x3), (2, .ref (ad2 0)), (1, .ref (ad 0)), (0, .ref b)] []) : V (p, l, e, s, m, b, below, meth, c) (D, cI, cZ, ad, ad2) X M 367 [(3, .int x3), (2, .ref (ad2 0)), (1, .ref (ad 0)), (0, .ref b)] [] := by
  refine v_aload_n F dL_law_367 2 rfl rfl ?_
  obtain ⟨r, X1, M1, e1, e2, hS1⟩ := hop X M hS 
  refine v_cK (As := []) (rest := []) F (c_X6_castle N X  e1) kn_X6_castle kv_X6_castle wl_377 rfl (by decide) rfl (Nat.le_of_ble_eq_true rfl) dL_law_368 rfl ?_
  refine v_aload_n F dL_law_371 1 rfl rfl ?_
  refine v_cM (As := []) (rest := [.int r]) F (c_X7_castle N M  e2) kn_X7_castle kv_X7_castle wl_884 rfl (by decide) rfl (Nat.le_of_ble_eq_true rfl) dL_law_372 rfl ?_
  refine v_eq (tgt := 1035) F dL_law_375 (by decide) ?_
  exact hk _ _ hS1

set_option maxHeartbeats 4000000 in
set_option maxRecDepth 100000 in
theorem law_fault {p : Program} {l : Launch} {e : Env} {s : State} {m : MethodId} {b : Nat} {below : List Frame} {meth : Method} {c : Code} {D : va_G} {cI cZ : ClassId} {ad ad2 : Nat → Nat} {n : Nat} {xs : Nat → Int32} {X M : KX} {N : Nat} {Sim : KX → KX → Prop} {x3 : Int32} (F : VF (p, l, e, s, m, b, below, meth, c) (D, cI, cZ, ad, ad2) n xs) (hop : zOp_fault N Sim) (hS : Sim X M) (h1 : vp_in (x3 + 1) n) (h2 : vp_in (x3 + 2) n) (h3 : vp_in (x3 + 3) n) (h4 : vp_in (x3 + 4) n) (h5 : vp_in (x3 + 5) n) (hk : ∀ X M : KX, Sim X M → V (p, l, e, s, m, b, below, meth, c) (D, cI, cZ, ad, ad2) X M 1035 [(3, .int x3), (2, .ref (ad2 0)), (1, .ref (ad 0)), (0, .ref b)] []) : V (p, l, e, s, m, b, below, meth, c) (D, cI, cZ, ad, ad2) X M 380 [(3, .int x3), (2, .ref (ad2 0)), (1, .ref (ad 0)), (0, .ref b)] [] := by
  refine v_aload_n F dL_law_380 2 rfl rfl ?_
  obtain ⟨r, X1, M1, e1, e2, hS1⟩ := hop X M hS 
  obtain ⟨e1, ge1⟩ := e1
  obtain ⟨e2, ge2⟩ := e2
  have hM0 := c_X6_fault (D := D) (cI := cI) (ad := ad) X 
  rw [e1] at hM0
  refine v_cK (As := []) (rest := []) F hM0 kn_X6_fault kv_X6_fault wl_437 rfl (by decide) rfl (Nat.le_of_ble_eq_true rfl) dL_law_381 rfl ?_
  refine v_aload_n F dL_law_384 1 rfl rfl ?_
  have hM1 := c_X7_fault (D := D) (cI := cI) (cZ := cZ) (ad := ad2) M 
  rw [e2] at hM1
  refine v_cM (As := []) (rest := [.int r]) F hM1 kn_X7_fault kv_X7_fault wl_927 rfl (by decide) rfl (Nat.le_of_ble_eq_true rfl) dL_law_385 rfl ?_
  refine v_eq (tgt := 1035) F dL_law_388 (by decide) ?_
  subst ge1
  subst ge2
  exact hk _ _ hS1

set_option maxHeartbeats 4000000 in
set_option maxRecDepth 100000 in
theorem law_invite {p : Program} {l : Launch} {e : Env} {s : State} {m : MethodId} {b : Nat} {below : List Frame} {meth : Method} {c : Code} {D : va_G} {cI cZ : ClassId} {ad ad2 : Nat → Nat} {n : Nat} {xs : Nat → Int32} {X M : KX} {N : Nat} {Sim : KX → KX → Prop} {x3 : Int32} (F : VF (p, l, e, s, m, b, below, meth, c) (D, cI, cZ, ad, ad2) n xs) (hop : zOp_invite N Sim) (hS : Sim X M) (h1 : vp_in (x3 + 1) n) (h2 : vp_in (x3 + 2) n) (h3 : vp_in (x3 + 3) n) (h4 : vp_in (x3 + 4) n) (h5 : vp_in (x3 + 5) n) (hk : ∀ X M : KX, Sim X M → V (p, l, e, s, m, b, below, meth, c) (D, cI, cZ, ad, ad2) X M 1035 [(3, .int x3), (2, .ref (ad2 0)), (1, .ref (ad 0)), (0, .ref b)] []) : V (p, l, e, s, m, b, below, meth, c) (D, cI, cZ, ad, ad2) X M 393 [(3, .int x3), (2, .ref (ad2 0)), (1, .ref (ad 0)), (0, .ref b)] [] := by
  refine v_aload_n F dL_law_393 2 rfl rfl ?_
  refine v_aload_n F dL_law_394 3 rfl rfl ?_
  refine v_iload_n F dL_law_395 0 rfl rfl ?_
  refine v_iconst (v := 1) F dL_law_396 (by decide +kernel) ?_
  refine v_iadd F dL_law_397 ?_
  refine v_sld F h1 dL_law_398 ?_
  obtain ⟨r, X1, M1, e1, e2, hS1⟩ := hop X M hS (xs (x3 + 1).toNatClampNeg)
  refine v_cK (As := [.int (xs (x3 + 1).toNatClampNeg)]) (rest := []) F (c_X6_invite X (xs (x3 + 1).toNatClampNeg) e1) kn_X6_invite kv_X6_invite wl_441 rfl (by decide) rfl (Nat.le_of_ble_eq_true rfl) dL_law_399 rfl ?_
  refine v_aload_n F dL_law_402 1 rfl rfl ?_
  refine v_aload_n F dL_law_403 3 rfl rfl ?_
  refine v_iload_n F dL_law_404 0 rfl rfl ?_
  refine v_iconst (v := 1) F dL_law_405 (by decide +kernel) ?_
  refine v_iadd F dL_law_406 ?_
  refine v_sld F h1 dL_law_407 ?_
  refine v_cM (As := [.int (xs (x3 + 1).toNatClampNeg)]) (rest := [.int r]) F (c_X7_invite N M (xs (x3 + 1).toNatClampNeg) e2) kn_X7_invite kv_X7_invite wl_931 rfl (by decide) rfl (Nat.le_of_ble_eq_true rfl) dL_law_408 rfl ?_
  refine v_eq (tgt := 1035) F dL_law_411 (by decide) ?_
  exact hk _ _ hS1

set_option maxHeartbeats 4000000 in
set_option maxRecDepth 100000 in
theorem law_show {p : Program} {l : Launch} {e : Env} {s : State} {m : MethodId} {b : Nat} {below : List Frame} {meth : Method} {c : Code} {D : va_G} {cI cZ : ClassId} {ad ad2 : Nat → Nat} {n : Nat} {xs : Nat → Int32} {X M : KX} {N : Nat} {Sim : KX → KX → Prop} {x3 : Int32} (F : VF (p, l, e, s, m, b, below, meth, c) (D, cI, cZ, ad, ad2) n xs) (hop : zOp_show N Sim) (hS : Sim X M) (h1 : vp_in (x3 + 1) n) (h2 : vp_in (x3 + 2) n) (h3 : vp_in (x3 + 3) n) (h4 : vp_in (x3 + 4) n) (h5 : vp_in (x3 + 5) n) (hk : ∀ X M : KX, Sim X M → V (p, l, e, s, m, b, below, meth, c) (D, cI, cZ, ad, ad2) X M 1035 [(3, .int x3), (2, .ref (ad2 0)), (1, .ref (ad 0)), (0, .ref b)] []) : V (p, l, e, s, m, b, below, meth, c) (D, cI, cZ, ad, ad2) X M 416 [(3, .int x3), (2, .ref (ad2 0)), (1, .ref (ad 0)), (0, .ref b)] [] := by
  refine v_aload_n F dL_law_416 2 rfl rfl ?_
  refine v_aload_n F dL_law_417 3 rfl rfl ?_
  refine v_iload_n F dL_law_418 0 rfl rfl ?_
  refine v_iconst (v := 1) F dL_law_419 (by decide +kernel) ?_
  refine v_iadd F dL_law_420 ?_
  refine v_sld F h1 dL_law_421 ?_
  obtain ⟨r, X1, M1, e1, e2, hS1⟩ := hop X M hS (xs (x3 + 1).toNatClampNeg)
  refine v_cK (As := [.int (xs (x3 + 1).toNatClampNeg)]) (rest := []) F (c_X6_show X (xs (x3 + 1).toNatClampNeg) e1) kn_X6_show kv_X6_show wl_466 rfl (by decide) rfl (Nat.le_of_ble_eq_true rfl) dL_law_422 rfl ?_
  refine v_aload_n F dL_law_425 1 rfl rfl ?_
  refine v_aload_n F dL_law_426 3 rfl rfl ?_
  refine v_iload_n F dL_law_427 0 rfl rfl ?_
  refine v_iconst (v := 1) F dL_law_428 (by decide +kernel) ?_
  refine v_iadd F dL_law_429 ?_
  refine v_sld F h1 dL_law_430 ?_
  refine v_cM (As := [.int (xs (x3 + 1).toNatClampNeg)]) (rest := [.int r]) F (c_X7_show N M (xs (x3 + 1).toNatClampNeg) e2) kn_X7_show kv_X7_show wl_952 rfl (by decide) rfl (Nat.le_of_ble_eq_true rfl) dL_law_431 rfl ?_
  refine v_eq (tgt := 1035) F dL_law_434 (by decide) ?_
  exact hk _ _ hS1

set_option maxHeartbeats 4000000 in
set_option maxRecDepth 100000 in
theorem law_speak {p : Program} {l : Launch} {e : Env} {s : State} {m : MethodId} {b : Nat} {below : List Frame} {meth : Method} {c : Code} {D : va_G} {cI cZ : ClassId} {ad ad2 : Nat → Nat} {n : Nat} {xs : Nat → Int32} {X M : KX} {N : Nat} {Sim : KX → KX → Prop} {x3 : Int32} (F : VF (p, l, e, s, m, b, below, meth, c) (D, cI, cZ, ad, ad2) n xs) (hop : zOp_speak N Sim) (hS : Sim X M) (h1 : vp_in (x3 + 1) n) (h2 : vp_in (x3 + 2) n) (h3 : vp_in (x3 + 3) n) (h4 : vp_in (x3 + 4) n) (h5 : vp_in (x3 + 5) n) (hk : ∀ X M : KX, Sim X M → V (p, l, e, s, m, b, below, meth, c) (D, cI, cZ, ad, ad2) X M 1035 [(3, .int x3), (2, .ref (ad2 0)), (1, .ref (ad 0)), (0, .ref b)] []) : V (p, l, e, s, m, b, below, meth, c) (D, cI, cZ, ad, ad2) X M 439 [(3, .int x3), (2, .ref (ad2 0)), (1, .ref (ad 0)), (0, .ref b)] [] := by
  refine v_aload_n F dL_law_439 2 rfl rfl ?_
  obtain ⟨r, X1, M1, e1, e2, hS1⟩ := hop X M hS 
  refine v_cK (As := []) (rest := []) F (c_X6_speak X  e1) kn_X6_speak kv_X6_speak wl_497 rfl (by decide) rfl (Nat.le_of_ble_eq_true rfl) dL_law_440 rfl ?_
  refine v_aload_n F dL_law_443 1 rfl rfl ?_
  refine v_cM (As := []) (rest := [.int r]) F (c_X7_speak N M  e2) kn_X7_speak kv_X7_speak wl_974 rfl (by decide) rfl (Nat.le_of_ble_eq_true rfl) dL_law_444 rfl ?_
  refine v_eq (tgt := 1035) F dL_law_447 (by decide) ?_
  exact hk _ _ hS1

set_option maxHeartbeats 4000000 in
set_option maxRecDepth 100000 in
theorem law_tale {p : Program} {l : Launch} {e : Env} {s : State} {m : MethodId} {b : Nat} {below : List Frame} {meth : Method} {c : Code} {D : va_G} {cI cZ : ClassId} {ad ad2 : Nat → Nat} {n : Nat} {xs : Nat → Int32} {X M : KX} {N : Nat} {Sim : KX → KX → Prop} {x3 : Int32} (F : VF (p, l, e, s, m, b, below, meth, c) (D, cI, cZ, ad, ad2) n xs) (hop : zOp_tale N Sim) (hS : Sim X M) (h1 : vp_in (x3 + 1) n) (h2 : vp_in (x3 + 2) n) (h3 : vp_in (x3 + 3) n) (h4 : vp_in (x3 + 4) n) (h5 : vp_in (x3 + 5) n) (hk : ∀ X M : KX, Sim X M → V (p, l, e, s, m, b, below, meth, c) (D, cI, cZ, ad, ad2) X M 1035 [(3, .int x3), (2, .ref (ad2 0)), (1, .ref (ad 0)), (0, .ref b)] []) : V (p, l, e, s, m, b, below, meth, c) (D, cI, cZ, ad, ad2) X M 452 [(3, .int x3), (2, .ref (ad2 0)), (1, .ref (ad 0)), (0, .ref b)] [] := by
  refine v_aload_n F dL_law_452 2 rfl rfl ?_
  refine v_aload_n F dL_law_453 3 rfl rfl ?_
  refine v_iload_n F dL_law_454 0 rfl rfl ?_
  refine v_iconst (v := 1) F dL_law_455 (by decide +kernel) ?_
  refine v_iadd F dL_law_456 ?_
  refine v_sld F h1 dL_law_457 ?_
  refine v_aload_n F dL_law_458 3 rfl rfl ?_
  refine v_iload_n F dL_law_459 0 rfl rfl ?_
  refine v_iconst (v := 2) F dL_law_460 (by decide +kernel) ?_
  refine v_iadd F dL_law_461 ?_
  refine v_sld F h2 dL_law_462 ?_
  obtain ⟨r, X1, M1, e1, e2, hS1⟩ := hop X M hS (xs (x3 + 1).toNatClampNeg) (xs (x3 + 2).toNatClampNeg)
  refine v_cK (As := [.int (xs (x3 + 1).toNatClampNeg), .int (xs (x3 + 2).toNatClampNeg)]) (rest := []) F (c_X6_tale X (xs (x3 + 1).toNatClampNeg) (xs (x3 + 2).toNatClampNeg) e1) kn_X6_tale kv_X6_tale wl_509 rfl (by decide) rfl (Nat.le_of_ble_eq_true rfl) dL_law_463 rfl ?_
  refine v_aload_n F dL_law_466 1 rfl rfl ?_
  refine v_aload_n F dL_law_467 3 rfl rfl ?_
  refine v_iload_n F dL_law_468 0 rfl rfl ?_
  refine v_iconst (v := 1) F dL_law_469 (by decide +kernel) ?_
  refine v_iadd F dL_law_470 ?_
  refine v_sld F h1 dL_law_471 ?_
  refine v_aload_n F dL_law_472 3 rfl rfl ?_
  refine v_iload_n F dL_law_473 0 rfl rfl ?_
  refine v_iconst (v := 2) F dL_law_474 (by decide +kernel) ?_
  refine v_iadd F dL_law_475 ?_
  refine v_sld F h2 dL_law_476 ?_
  refine v_cM (As := [.int (xs (x3 + 1).toNatClampNeg), .int (xs (x3 + 2).toNatClampNeg)]) (rest := [.int r]) F (c_X7_tale N M (xs (x3 + 1).toNatClampNeg) (xs (x3 + 2).toNatClampNeg) e2) kn_X7_tale kv_X7_tale wl_982 rfl (by decide) rfl (Nat.le_of_ble_eq_true rfl) dL_law_477 rfl ?_
  refine v_eq (tgt := 1035) F dL_law_480 (by decide) ?_
  exact hk _ _ hS1

set_option maxHeartbeats 4000000 in
set_option maxRecDepth 100000 in
theorem law_undo {p : Program} {l : Launch} {e : Env} {s : State} {m : MethodId} {b : Nat} {below : List Frame} {meth : Method} {c : Code} {D : va_G} {cI cZ : ClassId} {ad ad2 : Nat → Nat} {n : Nat} {xs : Nat → Int32} {X M : KX} {N : Nat} {Sim : KX → KX → Prop} {x3 : Int32} (F : VF (p, l, e, s, m, b, below, meth, c) (D, cI, cZ, ad, ad2) n xs) (hop : zOp_undo N Sim) (hS : Sim X M) (h1 : vp_in (x3 + 1) n) (h2 : vp_in (x3 + 2) n) (h3 : vp_in (x3 + 3) n) (h4 : vp_in (x3 + 4) n) (h5 : vp_in (x3 + 5) n) (hk : ∀ X M : KX, Sim X M → V (p, l, e, s, m, b, below, meth, c) (D, cI, cZ, ad, ad2) X M 1035 [(3, .int x3), (2, .ref (ad2 0)), (1, .ref (ad 0)), (0, .ref b)] []) : V (p, l, e, s, m, b, below, meth, c) (D, cI, cZ, ad, ad2) X M 485 [(3, .int x3), (2, .ref (ad2 0)), (1, .ref (ad 0)), (0, .ref b)] [] := by
  refine v_aload_n F dL_law_485 2 rfl rfl ?_
  obtain ⟨r, X1, M1, e1, e2, hS1⟩ := hop X M hS 
  refine v_cK (As := []) (rest := []) F (c_X6_undo X  e1) kn_X6_undo kv_X6_undo wl_519 rfl (by decide) rfl (Nat.le_of_ble_eq_true rfl) dL_law_486 rfl ?_
  refine v_aload_n F dL_law_489 1 rfl rfl ?_
  refine v_cM (As := []) (rest := [.int r]) F (c_X7_undo N M  e2) kn_X7_undo kv_X7_undo wl_986 rfl (by decide) rfl (Nat.le_of_ble_eq_true rfl) dL_law_490 rfl ?_
  refine v_eq (tgt := 1035) F dL_law_493 (by decide) ?_
  exact hk _ _ hS1

set_option maxHeartbeats 4000000 in
set_option maxRecDepth 100000 in
theorem law_guest {p : Program} {l : Launch} {e : Env} {s : State} {m : MethodId} {b : Nat} {below : List Frame} {meth : Method} {c : Code} {D : va_G} {cI cZ : ClassId} {ad ad2 : Nat → Nat} {n : Nat} {xs : Nat → Int32} {X M : KX} {N : Nat} {Sim : KX → KX → Prop} {x3 : Int32} (F : VF (p, l, e, s, m, b, below, meth, c) (D, cI, cZ, ad, ad2) n xs) (hop : zOp_guest N Sim) (hS : Sim X M) (h1 : vp_in (x3 + 1) n) (h2 : vp_in (x3 + 2) n) (h3 : vp_in (x3 + 3) n) (h4 : vp_in (x3 + 4) n) (h5 : vp_in (x3 + 5) n) (hk : ∀ X M : KX, Sim X M → V (p, l, e, s, m, b, below, meth, c) (D, cI, cZ, ad, ad2) X M 1035 [(3, .int x3), (2, .ref (ad2 0)), (1, .ref (ad 0)), (0, .ref b)] []) : V (p, l, e, s, m, b, below, meth, c) (D, cI, cZ, ad, ad2) X M 498 [(3, .int x3), (2, .ref (ad2 0)), (1, .ref (ad 0)), (0, .ref b)] [] := by
  refine v_aload_n F dL_law_498 2 rfl rfl ?_
  refine v_aload_n F dL_law_499 3 rfl rfl ?_
  refine v_iload_n F dL_law_500 0 rfl rfl ?_
  refine v_iconst (v := 1) F dL_law_501 (by decide +kernel) ?_
  refine v_iadd F dL_law_502 ?_
  refine v_sld F h1 dL_law_503 ?_
  refine v_aload_n F dL_law_504 3 rfl rfl ?_
  refine v_iload_n F dL_law_505 0 rfl rfl ?_
  refine v_iconst (v := 2) F dL_law_506 (by decide +kernel) ?_
  refine v_iadd F dL_law_507 ?_
  refine v_sld F h2 dL_law_508 ?_
  obtain ⟨r, X1, M1, e1, e2, hS1⟩ := hop X M hS (xs (x3 + 1).toNatClampNeg) (xs (x3 + 2).toNatClampNeg)
  obtain ⟨e1, ge1⟩ := e1
  obtain ⟨e2, ge2⟩ := e2
  refine v_cK (As := [.int (xs (x3 + 1).toNatClampNeg), .int (xs (x3 + 2).toNatClampNeg)]) (rest := []) F (c_X6_guest X (xs (x3 + 1).toNatClampNeg) (xs (x3 + 2).toNatClampNeg) e1) kn_X6_guest kv_X6_guest wl_544 rfl (by decide) rfl (Nat.le_of_ble_eq_true rfl) dL_law_509 rfl ?_
  refine v_aload_n F dL_law_512 1 rfl rfl ?_
  refine v_aload_n F dL_law_513 3 rfl rfl ?_
  refine v_iload_n F dL_law_514 0 rfl rfl ?_
  refine v_iconst (v := 1) F dL_law_515 (by decide +kernel) ?_
  refine v_iadd F dL_law_516 ?_
  refine v_sld F h1 dL_law_517 ?_
  refine v_aload_n F dL_law_518 3 rfl rfl ?_
  refine v_iload_n F dL_law_519 0 rfl rfl ?_
  refine v_iconst (v := 2) F dL_law_520 (by decide +kernel) ?_
  refine v_iadd F dL_law_521 ?_
  refine v_sld F h2 dL_law_522 ?_
  refine v_cM (As := [.int (xs (x3 + 1).toNatClampNeg), .int (xs (x3 + 2).toNatClampNeg)]) (rest := [.int r]) F (c_X7_guest M (xs (x3 + 1).toNatClampNeg) (xs (x3 + 2).toNatClampNeg) e2) kn_X7_guest kv_X7_guest wl_990 rfl (by decide) rfl (Nat.le_of_ble_eq_true rfl) dL_law_523 rfl ?_
  refine v_eq (tgt := 1035) F dL_law_526 (by decide) ?_
  subst ge1
  subst ge2
  exact hk _ _ hS1

set_option maxHeartbeats 4000000 in
set_option maxRecDepth 100000 in
theorem law_hint {p : Program} {l : Launch} {e : Env} {s : State} {m : MethodId} {b : Nat} {below : List Frame} {meth : Method} {c : Code} {D : va_G} {cI cZ : ClassId} {ad ad2 : Nat → Nat} {n : Nat} {xs : Nat → Int32} {X M : KX} {N : Nat} {Sim : KX → KX → Prop} {x3 : Int32} (F : VF (p, l, e, s, m, b, below, meth, c) (D, cI, cZ, ad, ad2) n xs) (hop : zOp_hint N Sim) (hS : Sim X M) (h1 : vp_in (x3 + 1) n) (h2 : vp_in (x3 + 2) n) (h3 : vp_in (x3 + 3) n) (h4 : vp_in (x3 + 4) n) (h5 : vp_in (x3 + 5) n) (hk : ∀ X M : KX, Sim X M → V (p, l, e, s, m, b, below, meth, c) (D, cI, cZ, ad, ad2) X M 1035 [(3, .int x3), (2, .ref (ad2 0)), (1, .ref (ad 0)), (0, .ref b)] []) : V (p, l, e, s, m, b, below, meth, c) (D, cI, cZ, ad, ad2) X M 531 [(3, .int x3), (2, .ref (ad2 0)), (1, .ref (ad 0)), (0, .ref b)] [] := by
  refine v_aload_n F dL_law_531 2 rfl rfl ?_
  refine v_aload_n F dL_law_532 3 rfl rfl ?_
  refine v_iload_n F dL_law_533 0 rfl rfl ?_
  refine v_iconst (v := 1) F dL_law_534 (by decide +kernel) ?_
  refine v_iadd F dL_law_535 ?_
  refine v_sld F h1 dL_law_536 ?_
  refine v_aload_n F dL_law_537 3 rfl rfl ?_
  refine v_iload_n F dL_law_538 0 rfl rfl ?_
  refine v_iconst (v := 2) F dL_law_539 (by decide +kernel) ?_
  refine v_iadd F dL_law_540 ?_
  refine v_sld F h2 dL_law_541 ?_
  obtain ⟨r, X1, M1, e1, e2, hS1⟩ := hop X M hS (xs (x3 + 1).toNatClampNeg) (xs (x3 + 2).toNatClampNeg)
  obtain ⟨e1, ge1⟩ := e1
  obtain ⟨e2, ge2⟩ := e2
  refine v_cK (As := [.int (xs (x3 + 1).toNatClampNeg), .int (xs (x3 + 2).toNatClampNeg)]) (rest := []) F (c_X6_hint X (xs (x3 + 1).toNatClampNeg) (xs (x3 + 2).toNatClampNeg) e1) kn_X6_hint kv_X6_hint wl_548 rfl (by decide) rfl (Nat.le_of_ble_eq_true rfl) dL_law_542 rfl ?_
  refine v_aload_n F dL_law_545 1 rfl rfl ?_
  refine v_aload_n F dL_law_546 3 rfl rfl ?_
  refine v_iload_n F dL_law_547 0 rfl rfl ?_
  refine v_iconst (v := 1) F dL_law_548 (by decide +kernel) ?_
  refine v_iadd F dL_law_549 ?_
  refine v_sld F h1 dL_law_550 ?_
  refine v_aload_n F dL_law_551 3 rfl rfl ?_
  refine v_iload_n F dL_law_552 0 rfl rfl ?_
  refine v_iconst (v := 2) F dL_law_553 (by decide +kernel) ?_
  refine v_iadd F dL_law_554 ?_
  refine v_sld F h2 dL_law_555 ?_
  refine v_cM (As := [.int (xs (x3 + 1).toNatClampNeg), .int (xs (x3 + 2).toNatClampNeg)]) (rest := [.int r]) F (c_X7_hint M (xs (x3 + 1).toNatClampNeg) (xs (x3 + 2).toNatClampNeg) e2) kn_X7_hint kv_X7_hint wl_994 rfl (by decide) rfl (Nat.le_of_ble_eq_true rfl) dL_law_556 rfl ?_
  refine v_eq (tgt := 1035) F dL_law_559 (by decide) ?_
  subst ge1
  subst ge2
  exact hk _ _ hS1

set_option maxHeartbeats 4000000 in
set_option maxRecDepth 100000 in
theorem law_leads {p : Program} {l : Launch} {e : Env} {s : State} {m : MethodId} {b : Nat} {below : List Frame} {meth : Method} {c : Code} {D : va_G} {cI cZ : ClassId} {ad ad2 : Nat → Nat} {n : Nat} {xs : Nat → Int32} {X M : KX} {N : Nat} {Sim : KX → KX → Prop} {x3 : Int32} (F : VF (p, l, e, s, m, b, below, meth, c) (D, cI, cZ, ad, ad2) n xs) (hop : zOp_leads N Sim) (hS : Sim X M) (h1 : vp_in (x3 + 1) n) (h2 : vp_in (x3 + 2) n) (h3 : vp_in (x3 + 3) n) (h4 : vp_in (x3 + 4) n) (h5 : vp_in (x3 + 5) n) (hk : ∀ X M : KX, Sim X M → V (p, l, e, s, m, b, below, meth, c) (D, cI, cZ, ad, ad2) X M 1035 [(3, .int x3), (2, .ref (ad2 0)), (1, .ref (ad 0)), (0, .ref b)] []) : V (p, l, e, s, m, b, below, meth, c) (D, cI, cZ, ad, ad2) X M 564 [(3, .int x3), (2, .ref (ad2 0)), (1, .ref (ad 0)), (0, .ref b)] [] := by
  refine v_aload_n F dL_law_564 2 rfl rfl ?_
  refine v_aload_n F dL_law_565 3 rfl rfl ?_
  refine v_iload_n F dL_law_566 0 rfl rfl ?_
  refine v_iconst (v := 1) F dL_law_567 (by decide +kernel) ?_
  refine v_iadd F dL_law_568 ?_
  refine v_sld F h1 dL_law_569 ?_
  refine v_aload_n F dL_law_570 3 rfl rfl ?_
  refine v_iload_n F dL_law_571 0 rfl rfl ?_
  refine v_iconst (v := 2) F dL_law_572 (by decide +kernel) ?_
  refine v_iadd F dL_law_573 ?_
  refine v_sld F h2 dL_law_574 ?_
  obtain ⟨r, X1, M1, e1, e2, hS1⟩ := hop X M hS (xs (x3 + 1).toNatClampNeg) (xs (x3 + 2).toNatClampNeg)
  obtain ⟨e1, ge1⟩ := e1
  obtain ⟨e2, ge2⟩ := e2
  refine v_cK (As := [.int (xs (x3 + 1).toNatClampNeg), .int (xs (x3 + 2).toNatClampNeg)]) (rest := []) F (c_X6_leads X (xs (x3 + 1).toNatClampNeg) (xs (x3 + 2).toNatClampNeg) e1) kn_X6_leads kv_X6_leads wl_552 rfl (by decide) rfl (Nat.le_of_ble_eq_true rfl) dL_law_575 rfl ?_
  refine v_aload_n F dL_law_578 1 rfl rfl ?_
  refine v_aload_n F dL_law_579 3 rfl rfl ?_
  refine v_iload_n F dL_law_580 0 rfl rfl ?_
  refine v_iconst (v := 1) F dL_law_581 (by decide +kernel) ?_
  refine v_iadd F dL_law_582 ?_
  refine v_sld F h1 dL_law_583 ?_
  refine v_aload_n F dL_law_584 3 rfl rfl ?_
  refine v_iload_n F dL_law_585 0 rfl rfl ?_
  refine v_iconst (v := 2) F dL_law_586 (by decide +kernel) ?_
  refine v_iadd F dL_law_587 ?_
  refine v_sld F h2 dL_law_588 ?_
  refine v_cM (As := [.int (xs (x3 + 1).toNatClampNeg), .int (xs (x3 + 2).toNatClampNeg)]) (rest := [.int r]) F (c_X7_leads M (xs (x3 + 1).toNatClampNeg) (xs (x3 + 2).toNatClampNeg) e2) kn_X7_leads kv_X7_leads wl_998 rfl (by decide) rfl (Nat.le_of_ble_eq_true rfl) dL_law_589 rfl ?_
  refine v_eq (tgt := 1035) F dL_law_592 (by decide) ?_
  subst ge1
  subst ge2
  exact hk _ _ hS1

set_option maxHeartbeats 4000000 in
set_option maxRecDepth 100000 in
theorem law_route {p : Program} {l : Launch} {e : Env} {s : State} {m : MethodId} {b : Nat} {below : List Frame} {meth : Method} {c : Code} {D : va_G} {cI cZ : ClassId} {ad ad2 : Nat → Nat} {n : Nat} {xs : Nat → Int32} {X M : KX} {N : Nat} {Sim : KX → KX → Prop} {x3 : Int32} (F : VF (p, l, e, s, m, b, below, meth, c) (D, cI, cZ, ad, ad2) n xs) (hop : zOp_route N Sim) (hS : Sim X M) (h1 : vp_in (x3 + 1) n) (h2 : vp_in (x3 + 2) n) (h3 : vp_in (x3 + 3) n) (h4 : vp_in (x3 + 4) n) (h5 : vp_in (x3 + 5) n) (hk : ∀ X M : KX, Sim X M → V (p, l, e, s, m, b, below, meth, c) (D, cI, cZ, ad, ad2) X M 1035 [(3, .int x3), (2, .ref (ad2 0)), (1, .ref (ad 0)), (0, .ref b)] []) : V (p, l, e, s, m, b, below, meth, c) (D, cI, cZ, ad, ad2) X M 597 [(3, .int x3), (2, .ref (ad2 0)), (1, .ref (ad 0)), (0, .ref b)] [] := by
  refine v_aload_n F dL_law_597 2 rfl rfl ?_
  refine v_aload_n F dL_law_598 3 rfl rfl ?_
  refine v_iload_n F dL_law_599 0 rfl rfl ?_
  refine v_iconst (v := 1) F dL_law_600 (by decide +kernel) ?_
  refine v_iadd F dL_law_601 ?_
  refine v_sld F h1 dL_law_602 ?_
  refine v_aload_n F dL_law_603 3 rfl rfl ?_
  refine v_iload_n F dL_law_604 0 rfl rfl ?_
  refine v_iconst (v := 2) F dL_law_605 (by decide +kernel) ?_
  refine v_iadd F dL_law_606 ?_
  refine v_sld F h2 dL_law_607 ?_
  refine v_aload_n F dL_law_608 3 rfl rfl ?_
  refine v_iload_n F dL_law_609 0 rfl rfl ?_
  refine v_iconst (v := 3) F dL_law_610 (by decide +kernel) ?_
  refine v_iadd F dL_law_611 ?_
  refine v_sld F h3 dL_law_612 ?_
  obtain ⟨r, X1, M1, e1, e2, hS1⟩ := hop X M hS (xs (x3 + 1).toNatClampNeg) (xs (x3 + 2).toNatClampNeg) (xs (x3 + 3).toNatClampNeg)
  obtain ⟨e2, ge2⟩ := e2
  refine v_cK (As := [.int (xs (x3 + 1).toNatClampNeg), .int (xs (x3 + 2).toNatClampNeg), .int (xs (x3 + 3).toNatClampNeg)]) (rest := []) F (c_X6_route N X (xs (x3 + 1).toNatClampNeg) (xs (x3 + 2).toNatClampNeg) (xs (x3 + 3).toNatClampNeg) e1) kn_X6_route kv_X6_route wl_557 rfl (by decide) rfl (Nat.le_of_ble_eq_true rfl) dL_law_613 rfl ?_
  refine v_aload_n F dL_law_616 1 rfl rfl ?_
  refine v_aload_n F dL_law_617 3 rfl rfl ?_
  refine v_iload_n F dL_law_618 0 rfl rfl ?_
  refine v_iconst (v := 1) F dL_law_619 (by decide +kernel) ?_
  refine v_iadd F dL_law_620 ?_
  refine v_sld F h1 dL_law_621 ?_
  refine v_aload_n F dL_law_622 3 rfl rfl ?_
  refine v_iload_n F dL_law_623 0 rfl rfl ?_
  refine v_iconst (v := 2) F dL_law_624 (by decide +kernel) ?_
  refine v_iadd F dL_law_625 ?_
  refine v_sld F h2 dL_law_626 ?_
  refine v_aload_n F dL_law_627 3 rfl rfl ?_
  refine v_iload_n F dL_law_628 0 rfl rfl ?_
  refine v_iconst (v := 3) F dL_law_629 (by decide +kernel) ?_
  refine v_iadd F dL_law_630 ?_
  refine v_sld F h3 dL_law_631 ?_
  refine v_cM (As := [.int (xs (x3 + 1).toNatClampNeg), .int (xs (x3 + 2).toNatClampNeg), .int (xs (x3 + 3).toNatClampNeg)]) (rest := [.int r]) F (c_X7_route N M (xs (x3 + 1).toNatClampNeg) (xs (x3 + 2).toNatClampNeg) (xs (x3 + 3).toNatClampNeg) e2) kn_X7_route kv_X7_route wl_1002 rfl (by decide) rfl (Nat.le_of_ble_eq_true rfl) dL_law_632 rfl ?_
  refine v_eq (tgt := 1035) F dL_law_635 (by decide) ?_
  subst ge2
  exact hk _ _ hS1

set_option maxHeartbeats 4000000 in
set_option maxRecDepth 100000 in
theorem law_thinkable {p : Program} {l : Launch} {e : Env} {s : State} {m : MethodId} {b : Nat} {below : List Frame} {meth : Method} {c : Code} {D : va_G} {cI cZ : ClassId} {ad ad2 : Nat → Nat} {n : Nat} {xs : Nat → Int32} {X M : KX} {N : Nat} {Sim : KX → KX → Prop} {x3 : Int32} (F : VF (p, l, e, s, m, b, below, meth, c) (D, cI, cZ, ad, ad2) n xs) (hop : zOp_thinkable N Sim) (hS : Sim X M) (h1 : vp_in (x3 + 1) n) (h2 : vp_in (x3 + 2) n) (h3 : vp_in (x3 + 3) n) (h4 : vp_in (x3 + 4) n) (h5 : vp_in (x3 + 5) n) (hk : ∀ X M : KX, Sim X M → V (p, l, e, s, m, b, below, meth, c) (D, cI, cZ, ad, ad2) X M 1035 [(3, .int x3), (2, .ref (ad2 0)), (1, .ref (ad 0)), (0, .ref b)] []) : V (p, l, e, s, m, b, below, meth, c) (D, cI, cZ, ad, ad2) X M 640 [(3, .int x3), (2, .ref (ad2 0)), (1, .ref (ad 0)), (0, .ref b)] [] := by
  refine v_aload_n F dL_law_640 2 rfl rfl ?_
  refine v_aload_n F dL_law_641 3 rfl rfl ?_
  refine v_iload_n F dL_law_642 0 rfl rfl ?_
  refine v_iconst (v := 1) F dL_law_643 (by decide +kernel) ?_
  refine v_iadd F dL_law_644 ?_
  refine v_sld F h1 dL_law_645 ?_
  obtain ⟨r, X1, M1, e1, e2, hS1⟩ := hop X M hS (xs (x3 + 1).toNatClampNeg)
  obtain ⟨e1, ge1⟩ := e1
  refine v_cK (As := [.int (xs (x3 + 1).toNatClampNeg)]) (rest := []) F (c_X6_thinkable N X (xs (x3 + 1).toNatClampNeg) e1) kn_X6_thinkable kv_X6_thinkable wl_600 rfl (by decide) rfl (Nat.le_of_ble_eq_true rfl) dL_law_646 rfl ?_
  refine v_aload_n F dL_law_649 1 rfl rfl ?_
  refine v_aload_n F dL_law_650 3 rfl rfl ?_
  refine v_iload_n F dL_law_651 0 rfl rfl ?_
  refine v_iconst (v := 1) F dL_law_652 (by decide +kernel) ?_
  refine v_iadd F dL_law_653 ?_
  refine v_sld F h1 dL_law_654 ?_
  refine v_cM (As := [.int (xs (x3 + 1).toNatClampNeg)]) (rest := [.int r]) F (c_X7_thinkable N M (xs (x3 + 1).toNatClampNeg) e2) kn_X7_thinkable kv_X7_thinkable wl_1025 rfl (by decide) rfl (Nat.le_of_ble_eq_true rfl) dL_law_655 rfl ?_
  refine v_eq (tgt := 1035) F dL_law_658 (by decide) ?_
  subst ge1
  exact hk _ _ hS1

set_option maxHeartbeats 4000000 in
set_option maxRecDepth 100000 in
theorem law_chance {p : Program} {l : Launch} {e : Env} {s : State} {m : MethodId} {b : Nat} {below : List Frame} {meth : Method} {c : Code} {D : va_G} {cI cZ : ClassId} {ad ad2 : Nat → Nat} {n : Nat} {xs : Nat → Int32} {X M : KX} {N : Nat} {Sim : KX → KX → Prop} {x3 : Int32} (F : VF (p, l, e, s, m, b, below, meth, c) (D, cI, cZ, ad, ad2) n xs) (hop : zOp_chance N Sim) (hS : Sim X M) (h1 : vp_in (x3 + 1) n) (h2 : vp_in (x3 + 2) n) (h3 : vp_in (x3 + 3) n) (h4 : vp_in (x3 + 4) n) (h5 : vp_in (x3 + 5) n) (hk : ∀ X M : KX, Sim X M → V (p, l, e, s, m, b, below, meth, c) (D, cI, cZ, ad, ad2) X M 1035 [(3, .int x3), (2, .ref (ad2 0)), (1, .ref (ad 0)), (0, .ref b)] []) : V (p, l, e, s, m, b, below, meth, c) (D, cI, cZ, ad, ad2) X M 663 [(3, .int x3), (2, .ref (ad2 0)), (1, .ref (ad 0)), (0, .ref b)] [] := by
  refine v_aload_n F dL_law_663 2 rfl rfl ?_
  refine v_aload_n F dL_law_664 3 rfl rfl ?_
  refine v_iload_n F dL_law_665 0 rfl rfl ?_
  refine v_iconst (v := 1) F dL_law_666 (by decide +kernel) ?_
  refine v_iadd F dL_law_667 ?_
  refine v_sld F h1 dL_law_668 ?_
  refine v_aload_n F dL_law_669 3 rfl rfl ?_
  refine v_iload_n F dL_law_670 0 rfl rfl ?_
  refine v_iconst (v := 2) F dL_law_671 (by decide +kernel) ?_
  refine v_iadd F dL_law_672 ?_
  refine v_sld F h2 dL_law_673 ?_
  refine v_aload_n F dL_law_674 3 rfl rfl ?_
  refine v_iload_n F dL_law_675 0 rfl rfl ?_
  refine v_iconst (v := 3) F dL_law_676 (by decide +kernel) ?_
  refine v_iadd F dL_law_677 ?_
  refine v_sld F h3 dL_law_678 ?_
  obtain ⟨r, X1, M1, e1, e2, hS1⟩ := hop X M hS (xs (x3 + 1).toNatClampNeg) (xs (x3 + 2).toNatClampNeg) (xs (x3 + 3).toNatClampNeg)
  obtain ⟨e1, ge1⟩ := e1
  obtain ⟨e2, ge2⟩ := e2
  refine v_cK (As := [.int (xs (x3 + 1).toNatClampNeg), .int (xs (x3 + 2).toNatClampNeg), .int (xs (x3 + 3).toNatClampNeg)]) (rest := []) F (c_X6_chance N X (xs (x3 + 1).toNatClampNeg) (xs (x3 + 2).toNatClampNeg) (xs (x3 + 3).toNatClampNeg) e1) kn_X6_chance kv_X6_chance wl_607 rfl (by decide) rfl (Nat.le_of_ble_eq_true rfl) dL_law_679 rfl ?_
  refine v_aload_n F dL_law_682 1 rfl rfl ?_
  refine v_aload_n F dL_law_683 3 rfl rfl ?_
  refine v_iload_n F dL_law_684 0 rfl rfl ?_
  refine v_iconst (v := 1) F dL_law_685 (by decide +kernel) ?_
  refine v_iadd F dL_law_686 ?_
  refine v_sld F h1 dL_law_687 ?_
  refine v_aload_n F dL_law_688 3 rfl rfl ?_
  refine v_iload_n F dL_law_689 0 rfl rfl ?_
  refine v_iconst (v := 2) F dL_law_690 (by decide +kernel) ?_
  refine v_iadd F dL_law_691 ?_
  refine v_sld F h2 dL_law_692 ?_
  refine v_aload_n F dL_law_693 3 rfl rfl ?_
  refine v_iload_n F dL_law_694 0 rfl rfl ?_
  refine v_iconst (v := 3) F dL_law_695 (by decide +kernel) ?_
  refine v_iadd F dL_law_696 ?_
  refine v_sld F h3 dL_law_697 ?_
  refine v_cM (As := [.int (xs (x3 + 1).toNatClampNeg), .int (xs (x3 + 2).toNatClampNeg), .int (xs (x3 + 3).toNatClampNeg)]) (rest := [.int r]) F (c_X7_chance N M (xs (x3 + 1).toNatClampNeg) (xs (x3 + 2).toNatClampNeg) (xs (x3 + 3).toNatClampNeg) e2) kn_X7_chance kv_X7_chance wl_1033 rfl (by decide) rfl (Nat.le_of_ble_eq_true rfl) dL_law_698 rfl ?_
  refine v_eq (tgt := 1035) F dL_law_701 (by decide) ?_
  subst ge1
  subst ge2
  exact hk _ _ hS1

set_option maxHeartbeats 4000000 in
set_option maxRecDepth 100000 in
theorem law_taught {p : Program} {l : Launch} {e : Env} {s : State} {m : MethodId} {b : Nat} {below : List Frame} {meth : Method} {c : Code} {D : va_G} {cI cZ : ClassId} {ad ad2 : Nat → Nat} {n : Nat} {xs : Nat → Int32} {X M : KX} {N : Nat} {Sim : KX → KX → Prop} {x3 : Int32} (F : VF (p, l, e, s, m, b, below, meth, c) (D, cI, cZ, ad, ad2) n xs) (hop : zOp_taught N Sim) (hS : Sim X M) (h1 : vp_in (x3 + 1) n) (h2 : vp_in (x3 + 2) n) (h3 : vp_in (x3 + 3) n) (h4 : vp_in (x3 + 4) n) (h5 : vp_in (x3 + 5) n) (hk : ∀ X M : KX, Sim X M → V (p, l, e, s, m, b, below, meth, c) (D, cI, cZ, ad, ad2) X M 1035 [(3, .int x3), (2, .ref (ad2 0)), (1, .ref (ad 0)), (0, .ref b)] []) : V (p, l, e, s, m, b, below, meth, c) (D, cI, cZ, ad, ad2) X M 706 [(3, .int x3), (2, .ref (ad2 0)), (1, .ref (ad 0)), (0, .ref b)] [] := by
  refine v_aload_n F dL_law_706 2 rfl rfl ?_
  refine v_aload_n F dL_law_707 3 rfl rfl ?_
  refine v_iload_n F dL_law_708 0 rfl rfl ?_
  refine v_iconst (v := 1) F dL_law_709 (by decide +kernel) ?_
  refine v_iadd F dL_law_710 ?_
  refine v_sld F h1 dL_law_711 ?_
  obtain ⟨r, X1, M1, e1, e2, hS1⟩ := hop X M hS (xs (x3 + 1).toNatClampNeg)
  obtain ⟨e1, ge1⟩ := e1
  obtain ⟨e2, ge2⟩ := e2
  refine v_cK (As := [.int (xs (x3 + 1).toNatClampNeg)]) (rest := []) F (c_X6_taught X (xs (x3 + 1).toNatClampNeg) e1) kn_X6_taught kv_X6_taught wl_621 rfl (by decide) rfl (Nat.le_of_ble_eq_true rfl) dL_law_712 rfl ?_
  refine v_aload_n F dL_law_715 1 rfl rfl ?_
  refine v_aload_n F dL_law_716 3 rfl rfl ?_
  refine v_iload_n F dL_law_717 0 rfl rfl ?_
  refine v_iconst (v := 1) F dL_law_718 (by decide +kernel) ?_
  refine v_iadd F dL_law_719 ?_
  refine v_sld F h1 dL_law_720 ?_
  refine v_cM (As := [.int (xs (x3 + 1).toNatClampNeg)]) (rest := [.int r]) F (c_X7_taught M (xs (x3 + 1).toNatClampNeg) e2) kn_X7_taught kv_X7_taught wl_1037 rfl (by decide) rfl (Nat.le_of_ble_eq_true rfl) dL_law_721 rfl ?_
  refine v_eq (tgt := 1035) F dL_law_724 (by decide) ?_
  subst ge1
  subst ge2
  exact hk _ _ hS1

set_option maxHeartbeats 4000000 in
set_option maxRecDepth 100000 in
theorem law_bestGuest {p : Program} {l : Launch} {e : Env} {s : State} {m : MethodId} {b : Nat} {below : List Frame} {meth : Method} {c : Code} {D : va_G} {cI cZ : ClassId} {ad ad2 : Nat → Nat} {n : Nat} {xs : Nat → Int32} {X M : KX} {N : Nat} {Sim : KX → KX → Prop} {x3 : Int32} (F : VF (p, l, e, s, m, b, below, meth, c) (D, cI, cZ, ad, ad2) n xs) (hop : zOp_bestGuest N Sim) (hS : Sim X M) (h1 : vp_in (x3 + 1) n) (h2 : vp_in (x3 + 2) n) (h3 : vp_in (x3 + 3) n) (h4 : vp_in (x3 + 4) n) (h5 : vp_in (x3 + 5) n) (hk : ∀ X M : KX, Sim X M → V (p, l, e, s, m, b, below, meth, c) (D, cI, cZ, ad, ad2) X M 1035 [(3, .int x3), (2, .ref (ad2 0)), (1, .ref (ad 0)), (0, .ref b)] []) : V (p, l, e, s, m, b, below, meth, c) (D, cI, cZ, ad, ad2) X M 729 [(3, .int x3), (2, .ref (ad2 0)), (1, .ref (ad 0)), (0, .ref b)] [] := by
  refine v_aload_n F dL_law_729 2 rfl rfl ?_
  refine v_aload_n F dL_law_730 3 rfl rfl ?_
  refine v_iload_n F dL_law_731 0 rfl rfl ?_
  refine v_iconst (v := 1) F dL_law_732 (by decide +kernel) ?_
  refine v_iadd F dL_law_733 ?_
  refine v_sld F h1 dL_law_734 ?_
  obtain ⟨r, X1, M1, e1, e2, hS1⟩ := hop X M hS (xs (x3 + 1).toNatClampNeg)
  refine v_cK (As := [.int (xs (x3 + 1).toNatClampNeg)]) (rest := []) F (c_X6_bestGuest N X (xs (x3 + 1).toNatClampNeg) e1) kn_X6_bestGuest kv_X6_bestGuest wl_625 rfl (by decide) rfl (Nat.le_of_ble_eq_true rfl) dL_law_735 rfl ?_
  refine v_aload_n F dL_law_738 1 rfl rfl ?_
  refine v_aload_n F dL_law_739 3 rfl rfl ?_
  refine v_iload_n F dL_law_740 0 rfl rfl ?_
  refine v_iconst (v := 1) F dL_law_741 (by decide +kernel) ?_
  refine v_iadd F dL_law_742 ?_
  refine v_sld F h1 dL_law_743 ?_
  refine v_cM (As := [.int (xs (x3 + 1).toNatClampNeg)]) (rest := [.int r]) F (c_X7_bestGuest N M (xs (x3 + 1).toNatClampNeg) e2) kn_X7_bestGuest kv_X7_bestGuest wl_1041 rfl (by decide) rfl (Nat.le_of_ble_eq_true rfl) dL_law_744 rfl ?_
  refine v_eq (tgt := 1035) F dL_law_747 (by decide) ?_
  exact hk _ _ hS1

set_option maxHeartbeats 4000000 in
set_option maxRecDepth 100000 in
theorem law_cover {p : Program} {l : Launch} {e : Env} {s : State} {m : MethodId} {b : Nat} {below : List Frame} {meth : Method} {c : Code} {D : va_G} {cI cZ : ClassId} {ad ad2 : Nat → Nat} {n : Nat} {xs : Nat → Int32} {X M : KX} {N : Nat} {Sim : KX → KX → Prop} {x3 : Int32} (F : VF (p, l, e, s, m, b, below, meth, c) (D, cI, cZ, ad, ad2) n xs) (hop : zOp_cover N Sim) (hS : Sim X M) (h1 : vp_in (x3 + 1) n) (h2 : vp_in (x3 + 2) n) (h3 : vp_in (x3 + 3) n) (h4 : vp_in (x3 + 4) n) (h5 : vp_in (x3 + 5) n) (hk : ∀ X M : KX, Sim X M → V (p, l, e, s, m, b, below, meth, c) (D, cI, cZ, ad, ad2) X M 1035 [(3, .int x3), (2, .ref (ad2 0)), (1, .ref (ad 0)), (0, .ref b)] []) : V (p, l, e, s, m, b, below, meth, c) (D, cI, cZ, ad, ad2) X M 752 [(3, .int x3), (2, .ref (ad2 0)), (1, .ref (ad 0)), (0, .ref b)] [] := by
  refine v_aload_n F dL_law_752 2 rfl rfl ?_
  refine v_aload_n F dL_law_753 3 rfl rfl ?_
  refine v_iload_n F dL_law_754 0 rfl rfl ?_
  refine v_iconst (v := 1) F dL_law_755 (by decide +kernel) ?_
  refine v_iadd F dL_law_756 ?_
  refine v_sld F h1 dL_law_757 ?_
  obtain ⟨r, X1, M1, e1, e2, hS1⟩ := hop X M hS (xs (x3 + 1).toNatClampNeg)
  refine v_cK (As := [.int (xs (x3 + 1).toNatClampNeg)]) (rest := []) F (c_X6_cover N X (xs (x3 + 1).toNatClampNeg) e1) kn_X6_cover kv_X6_cover wl_638 rfl (by decide) rfl (Nat.le_of_ble_eq_true rfl) dL_law_758 rfl ?_
  refine v_aload_n F dL_law_761 1 rfl rfl ?_
  refine v_aload_n F dL_law_762 3 rfl rfl ?_
  refine v_iload_n F dL_law_763 0 rfl rfl ?_
  refine v_iconst (v := 1) F dL_law_764 (by decide +kernel) ?_
  refine v_iadd F dL_law_765 ?_
  refine v_sld F h1 dL_law_766 ?_
  refine v_cM (As := [.int (xs (x3 + 1).toNatClampNeg)]) (rest := [.int r]) F (c_X7_cover N M (xs (x3 + 1).toNatClampNeg) e2) kn_X7_cover kv_X7_cover wl_1053 rfl (by decide) rfl (Nat.le_of_ble_eq_true rfl) dL_law_767 rfl ?_
  refine v_eq (tgt := 1035) F dL_law_770 (by decide) ?_
  exact hk _ _ hS1

set_option maxHeartbeats 4000000 in
set_option maxRecDepth 100000 in
theorem law_spoilt {p : Program} {l : Launch} {e : Env} {s : State} {m : MethodId} {b : Nat} {below : List Frame} {meth : Method} {c : Code} {D : va_G} {cI cZ : ClassId} {ad ad2 : Nat → Nat} {n : Nat} {xs : Nat → Int32} {X M : KX} {N : Nat} {Sim : KX → KX → Prop} {x3 : Int32} (F : VF (p, l, e, s, m, b, below, meth, c) (D, cI, cZ, ad, ad2) n xs) (hop : zOp_spoilt N Sim) (hS : Sim X M) (h1 : vp_in (x3 + 1) n) (h2 : vp_in (x3 + 2) n) (h3 : vp_in (x3 + 3) n) (h4 : vp_in (x3 + 4) n) (h5 : vp_in (x3 + 5) n) (hk : ∀ X M : KX, Sim X M → V (p, l, e, s, m, b, below, meth, c) (D, cI, cZ, ad, ad2) X M 1035 [(3, .int x3), (2, .ref (ad2 0)), (1, .ref (ad 0)), (0, .ref b)] []) : V (p, l, e, s, m, b, below, meth, c) (D, cI, cZ, ad, ad2) X M 775 [(3, .int x3), (2, .ref (ad2 0)), (1, .ref (ad 0)), (0, .ref b)] [] := by
  refine v_aload_n F dL_law_775 2 rfl rfl ?_
  refine v_aload_n F dL_law_776 3 rfl rfl ?_
  refine v_iload_n F dL_law_777 0 rfl rfl ?_
  refine v_iconst (v := 1) F dL_law_778 (by decide +kernel) ?_
  refine v_iadd F dL_law_779 ?_
  refine v_sld F h1 dL_law_780 ?_
  obtain ⟨r, X1, M1, e1, e2, hS1⟩ := hop X M hS (xs (x3 + 1).toNatClampNeg)
  refine v_cK (As := [.int (xs (x3 + 1).toNatClampNeg)]) (rest := []) F (c_X6_spoilt N X (xs (x3 + 1).toNatClampNeg) e1) kn_X6_spoilt kv_X6_spoilt wl_661 rfl (by decide) rfl (Nat.le_of_ble_eq_true rfl) dL_law_781 rfl ?_
  refine v_aload_n F dL_law_784 1 rfl rfl ?_
  refine v_aload_n F dL_law_785 3 rfl rfl ?_
  refine v_iload_n F dL_law_786 0 rfl rfl ?_
  refine v_iconst (v := 1) F dL_law_787 (by decide +kernel) ?_
  refine v_iadd F dL_law_788 ?_
  refine v_sld F h1 dL_law_789 ?_
  refine v_cM (As := [.int (xs (x3 + 1).toNatClampNeg)]) (rest := [.int r]) F (c_X7_spoilt N M (xs (x3 + 1).toNatClampNeg) e2) kn_X7_spoilt kv_X7_spoilt wl_1065 rfl (by decide) rfl (Nat.le_of_ble_eq_true rfl) dL_law_790 rfl ?_
  refine v_eq (tgt := 1035) F dL_law_793 (by decide) ?_
  exact hk _ _ hS1

set_option maxHeartbeats 4000000 in
set_option maxRecDepth 100000 in
theorem law_nearly {p : Program} {l : Launch} {e : Env} {s : State} {m : MethodId} {b : Nat} {below : List Frame} {meth : Method} {c : Code} {D : va_G} {cI cZ : ClassId} {ad ad2 : Nat → Nat} {n : Nat} {xs : Nat → Int32} {X M : KX} {N : Nat} {Sim : KX → KX → Prop} {x3 : Int32} (F : VF (p, l, e, s, m, b, below, meth, c) (D, cI, cZ, ad, ad2) n xs) (hop : zOp_nearly N Sim) (hS : Sim X M) (h1 : vp_in (x3 + 1) n) (h2 : vp_in (x3 + 2) n) (h3 : vp_in (x3 + 3) n) (h4 : vp_in (x3 + 4) n) (h5 : vp_in (x3 + 5) n) (hk : ∀ X M : KX, Sim X M → V (p, l, e, s, m, b, below, meth, c) (D, cI, cZ, ad, ad2) X M 1035 [(3, .int x3), (2, .ref (ad2 0)), (1, .ref (ad 0)), (0, .ref b)] []) : V (p, l, e, s, m, b, below, meth, c) (D, cI, cZ, ad, ad2) X M 798 [(3, .int x3), (2, .ref (ad2 0)), (1, .ref (ad 0)), (0, .ref b)] [] := by
  refine v_aload_n F dL_law_798 2 rfl rfl ?_
  refine v_aload_n F dL_law_799 3 rfl rfl ?_
  refine v_iload_n F dL_law_800 0 rfl rfl ?_
  refine v_iconst (v := 1) F dL_law_801 (by decide +kernel) ?_
  refine v_iadd F dL_law_802 ?_
  refine v_sld F h1 dL_law_803 ?_
  refine v_aload_n F dL_law_804 3 rfl rfl ?_
  refine v_iload_n F dL_law_805 0 rfl rfl ?_
  refine v_iconst (v := 2) F dL_law_806 (by decide +kernel) ?_
  refine v_iadd F dL_law_807 ?_
  refine v_sld F h2 dL_law_808 ?_
  refine v_aload_n F dL_law_809 3 rfl rfl ?_
  refine v_iload_n F dL_law_810 0 rfl rfl ?_
  refine v_iconst (v := 3) F dL_law_811 (by decide +kernel) ?_
  refine v_iadd F dL_law_812 ?_
  refine v_sld F h3 dL_law_813 ?_
  obtain ⟨r, X1, M1, e1, e2, hS1⟩ := hop X M hS (xs (x3 + 1).toNatClampNeg) (xs (x3 + 2).toNatClampNeg) (xs (x3 + 3).toNatClampNeg)
  refine v_cK (As := [.int (xs (x3 + 1).toNatClampNeg), .int (xs (x3 + 2).toNatClampNeg), .int (xs (x3 + 3).toNatClampNeg)]) (rest := []) F (c_X6_nearly N X (xs (x3 + 1).toNatClampNeg) (xs (x3 + 2).toNatClampNeg) (xs (x3 + 3).toNatClampNeg) e1) kn_X6_nearly kv_X6_nearly wl_673 rfl (by decide) rfl (Nat.le_of_ble_eq_true rfl) dL_law_814 rfl ?_
  refine v_aload_n F dL_law_817 1 rfl rfl ?_
  refine v_aload_n F dL_law_818 3 rfl rfl ?_
  refine v_iload_n F dL_law_819 0 rfl rfl ?_
  refine v_iconst (v := 1) F dL_law_820 (by decide +kernel) ?_
  refine v_iadd F dL_law_821 ?_
  refine v_sld F h1 dL_law_822 ?_
  refine v_aload_n F dL_law_823 3 rfl rfl ?_
  refine v_iload_n F dL_law_824 0 rfl rfl ?_
  refine v_iconst (v := 2) F dL_law_825 (by decide +kernel) ?_
  refine v_iadd F dL_law_826 ?_
  refine v_sld F h2 dL_law_827 ?_
  refine v_aload_n F dL_law_828 3 rfl rfl ?_
  refine v_iload_n F dL_law_829 0 rfl rfl ?_
  refine v_iconst (v := 3) F dL_law_830 (by decide +kernel) ?_
  refine v_iadd F dL_law_831 ?_
  refine v_sld F h3 dL_law_832 ?_
  refine v_cM (As := [.int (xs (x3 + 1).toNatClampNeg), .int (xs (x3 + 2).toNatClampNeg), .int (xs (x3 + 3).toNatClampNeg)]) (rest := [.int r]) F (c_X7_nearly N M (xs (x3 + 1).toNatClampNeg) (xs (x3 + 2).toNatClampNeg) (xs (x3 + 3).toNatClampNeg) e2) kn_X7_nearly kv_X7_nearly wl_1069 rfl (by decide) rfl (Nat.le_of_ble_eq_true rfl) dL_law_833 rfl ?_
  refine v_eq (tgt := 1035) F dL_law_836 (by decide) ?_
  exact hk _ _ hS1

set_option maxHeartbeats 4000000 in
set_option maxRecDepth 100000 in
theorem law_image {p : Program} {l : Launch} {e : Env} {s : State} {m : MethodId} {b : Nat} {below : List Frame} {meth : Method} {c : Code} {D : va_G} {cI cZ : ClassId} {ad ad2 : Nat → Nat} {n : Nat} {xs : Nat → Int32} {X M : KX} {N : Nat} {Sim : KX → KX → Prop} {x3 : Int32} (F : VF (p, l, e, s, m, b, below, meth, c) (D, cI, cZ, ad, ad2) n xs) (hop : zOp_image N Sim) (hS : Sim X M) (h1 : vp_in (x3 + 1) n) (h2 : vp_in (x3 + 2) n) (h3 : vp_in (x3 + 3) n) (h4 : vp_in (x3 + 4) n) (h5 : vp_in (x3 + 5) n) (hk : ∀ X M : KX, Sim X M → V (p, l, e, s, m, b, below, meth, c) (D, cI, cZ, ad, ad2) X M 1035 [(3, .int x3), (2, .ref (ad2 0)), (1, .ref (ad 0)), (0, .ref b)] []) : V (p, l, e, s, m, b, below, meth, c) (D, cI, cZ, ad, ad2) X M 841 [(3, .int x3), (2, .ref (ad2 0)), (1, .ref (ad 0)), (0, .ref b)] [] := by
  refine v_aload_n F dL_law_841 2 rfl rfl ?_
  refine v_aload_n F dL_law_842 3 rfl rfl ?_
  refine v_iload_n F dL_law_843 0 rfl rfl ?_
  refine v_iconst (v := 1) F dL_law_844 (by decide +kernel) ?_
  refine v_iadd F dL_law_845 ?_
  refine v_sld F h1 dL_law_846 ?_
  obtain ⟨r, X1, M1, e1, e2, hS1⟩ := hop X M hS (xs (x3 + 1).toNatClampNeg)
  refine v_cK (As := [.int (xs (x3 + 1).toNatClampNeg)]) (rest := []) F (c_X6_image X (xs (x3 + 1).toNatClampNeg) e1) kn_X6_image kv_X6_image wl_691 rfl (by decide) rfl (Nat.le_of_ble_eq_true rfl) dL_law_847 rfl ?_
  refine v_aload_n F dL_law_850 1 rfl rfl ?_
  refine v_aload_n F dL_law_851 3 rfl rfl ?_
  refine v_iload_n F dL_law_852 0 rfl rfl ?_
  refine v_iconst (v := 1) F dL_law_853 (by decide +kernel) ?_
  refine v_iadd F dL_law_854 ?_
  refine v_sld F h1 dL_law_855 ?_
  refine v_cM (As := [.int (xs (x3 + 1).toNatClampNeg)]) (rest := [.int r]) F (c_X7_image N M (xs (x3 + 1).toNatClampNeg) e2) kn_X7_image kv_X7_image wl_1077 rfl (by decide) rfl (Nat.le_of_ble_eq_true rfl) dL_law_856 rfl ?_
  refine v_eq (tgt := 1035) F dL_law_859 (by decide) ?_
  exact hk _ _ hS1

set_option maxHeartbeats 4000000 in
set_option maxRecDepth 100000 in
theorem law_restore {p : Program} {l : Launch} {e : Env} {s : State} {m : MethodId} {b : Nat} {below : List Frame} {meth : Method} {c : Code} {D : va_G} {cI cZ : ClassId} {ad ad2 : Nat → Nat} {n : Nat} {xs : Nat → Int32} {X M : KX} {N : Nat} {Sim : KX → KX → Prop} {x3 : Int32} (F : VF (p, l, e, s, m, b, below, meth, c) (D, cI, cZ, ad, ad2) n xs) (hop : zOp_restore N Sim) (hS : Sim X M) (h1 : vp_in (x3 + 1) n) (h2 : vp_in (x3 + 2) n) (h3 : vp_in (x3 + 3) n) (h4 : vp_in (x3 + 4) n) (h5 : vp_in (x3 + 5) n) (hk : ∀ X M : KX, Sim X M → V (p, l, e, s, m, b, below, meth, c) (D, cI, cZ, ad, ad2) X M 1035 [(3, .int x3), (2, .ref (ad2 0)), (1, .ref (ad 0)), (0, .ref b)] []) : V (p, l, e, s, m, b, below, meth, c) (D, cI, cZ, ad, ad2) X M 864 [(3, .int x3), (2, .ref (ad2 0)), (1, .ref (ad 0)), (0, .ref b)] [] := by
  refine v_aload_n F dL_law_864 2 rfl rfl ?_
  refine v_aload_n F dL_law_865 3 rfl rfl ?_
  refine v_iload_n F dL_law_866 0 rfl rfl ?_
  refine v_iconst (v := 1) F dL_law_867 (by decide +kernel) ?_
  refine v_iadd F dL_law_868 ?_
  refine v_sld F h1 dL_law_869 ?_
  obtain ⟨r, X1, M1, e1, e2, hS1⟩ := hop X M hS (xs (x3 + 1).toNatClampNeg)
  refine v_cK (As := [.int (xs (x3 + 1).toNatClampNeg)]) (rest := []) F (c_X6_restore X (xs (x3 + 1).toNatClampNeg) e1) kn_X6_restore kv_X6_restore wl_699 rfl (by decide) rfl (Nat.le_of_ble_eq_true rfl) dL_law_870 rfl ?_
  refine v_aload_n F dL_law_873 1 rfl rfl ?_
  refine v_aload_n F dL_law_874 3 rfl rfl ?_
  refine v_iload_n F dL_law_875 0 rfl rfl ?_
  refine v_iconst (v := 1) F dL_law_876 (by decide +kernel) ?_
  refine v_iadd F dL_law_877 ?_
  refine v_sld F h1 dL_law_878 ?_
  refine v_cM (As := [.int (xs (x3 + 1).toNatClampNeg)]) (rest := [.int r]) F (c_X7_restore N M (xs (x3 + 1).toNatClampNeg) e2) kn_X7_restore kv_X7_restore wl_1081 rfl (by decide) rfl (Nat.le_of_ble_eq_true rfl) dL_law_879 rfl ?_
  refine v_eq (tgt := 1035) F dL_law_882 (by decide) ?_
  exact hk _ _ hS1

set_option maxHeartbeats 4000000 in
set_option maxRecDepth 100000 in
theorem law_kind {p : Program} {l : Launch} {e : Env} {s : State} {m : MethodId} {b : Nat} {below : List Frame} {meth : Method} {c : Code} {D : va_G} {cI cZ : ClassId} {ad ad2 : Nat → Nat} {n : Nat} {xs : Nat → Int32} {X M : KX} {N : Nat} {Sim : KX → KX → Prop} {x3 : Int32} (F : VF (p, l, e, s, m, b, below, meth, c) (D, cI, cZ, ad, ad2) n xs) (hop : zOp_kind N Sim) (hS : Sim X M) (h1 : vp_in (x3 + 1) n) (h2 : vp_in (x3 + 2) n) (h3 : vp_in (x3 + 3) n) (h4 : vp_in (x3 + 4) n) (h5 : vp_in (x3 + 5) n) (hk : ∀ X M : KX, Sim X M → V (p, l, e, s, m, b, below, meth, c) (D, cI, cZ, ad, ad2) X M 1035 [(3, .int x3), (2, .ref (ad2 0)), (1, .ref (ad 0)), (0, .ref b)] []) : V (p, l, e, s, m, b, below, meth, c) (D, cI, cZ, ad, ad2) X M 887 [(3, .int x3), (2, .ref (ad2 0)), (1, .ref (ad 0)), (0, .ref b)] [] := by
  refine v_aload_n F dL_law_887 2 rfl rfl ?_
  refine v_aload_n F dL_law_888 3 rfl rfl ?_
  refine v_iload_n F dL_law_889 0 rfl rfl ?_
  refine v_iconst (v := 1) F dL_law_890 (by decide +kernel) ?_
  refine v_iadd F dL_law_891 ?_
  refine v_sld F h1 dL_law_892 ?_
  obtain ⟨r, X1, M1, e1, e2, hS1⟩ := hop X M hS (xs (x3 + 1).toNatClampNeg)
  obtain ⟨e1, ge1⟩ := e1
  obtain ⟨e2, ge2⟩ := e2
  refine v_cK (As := [.int (xs (x3 + 1).toNatClampNeg)]) (rest := []) F (c_X6_kind X (xs (x3 + 1).toNatClampNeg) e1) kn_X6_kind kv_X6_kind wl_703 rfl (by decide) rfl (Nat.le_of_ble_eq_true rfl) dL_law_893 rfl ?_
  refine v_aload_n F dL_law_896 1 rfl rfl ?_
  refine v_aload_n F dL_law_897 3 rfl rfl ?_
  refine v_iload_n F dL_law_898 0 rfl rfl ?_
  refine v_iconst (v := 1) F dL_law_899 (by decide +kernel) ?_
  refine v_iadd F dL_law_900 ?_
  refine v_sld F h1 dL_law_901 ?_
  refine v_cM (As := [.int (xs (x3 + 1).toNatClampNeg)]) (rest := [.int r]) F (c_X7_kind M (xs (x3 + 1).toNatClampNeg) e2) kn_X7_kind kv_X7_kind wl_1085 rfl (by decide) rfl (Nat.le_of_ble_eq_true rfl) dL_law_902 rfl ?_
  refine v_eq (tgt := 1035) F dL_law_905 (by decide) ?_
  subst ge1
  subst ge2
  exact hk _ _ hS1

set_option maxHeartbeats 4000000 in
set_option maxRecDepth 100000 in
theorem law_as {p : Program} {l : Launch} {e : Env} {s : State} {m : MethodId} {b : Nat} {below : List Frame} {meth : Method} {c : Code} {D : va_G} {cI cZ : ClassId} {ad ad2 : Nat → Nat} {n : Nat} {xs : Nat → Int32} {X M : KX} {N : Nat} {Sim : KX → KX → Prop} {x3 : Int32} (F : VF (p, l, e, s, m, b, below, meth, c) (D, cI, cZ, ad, ad2) n xs) (hop : zOp_as N Sim) (hS : Sim X M) (h1 : vp_in (x3 + 1) n) (h2 : vp_in (x3 + 2) n) (h3 : vp_in (x3 + 3) n) (h4 : vp_in (x3 + 4) n) (h5 : vp_in (x3 + 5) n) (hk : ∀ X M : KX, Sim X M → V (p, l, e, s, m, b, below, meth, c) (D, cI, cZ, ad, ad2) X M 1035 [(3, .int x3), (2, .ref (ad2 0)), (1, .ref (ad 0)), (0, .ref b)] []) : V (p, l, e, s, m, b, below, meth, c) (D, cI, cZ, ad, ad2) X M 910 [(3, .int x3), (2, .ref (ad2 0)), (1, .ref (ad 0)), (0, .ref b)] [] := by
  refine v_aload_n F dL_law_910 2 rfl rfl ?_
  refine v_aload_n F dL_law_911 3 rfl rfl ?_
  refine v_iload_n F dL_law_912 0 rfl rfl ?_
  refine v_iconst (v := 1) F dL_law_913 (by decide +kernel) ?_
  refine v_iadd F dL_law_914 ?_
  refine v_sld F h1 dL_law_915 ?_
  refine v_aload_n F dL_law_916 3 rfl rfl ?_
  refine v_iload_n F dL_law_917 0 rfl rfl ?_
  refine v_iconst (v := 2) F dL_law_918 (by decide +kernel) ?_
  refine v_iadd F dL_law_919 ?_
  refine v_sld F h2 dL_law_920 ?_
  obtain ⟨r, X1, M1, e1, e2, hS1⟩ := hop X M hS (xs (x3 + 1).toNatClampNeg) (xs (x3 + 2).toNatClampNeg)
  refine v_cK (As := [.int (xs (x3 + 1).toNatClampNeg), .int (xs (x3 + 2).toNatClampNeg)]) (rest := []) F (c_X6_as X (xs (x3 + 1).toNatClampNeg) (xs (x3 + 2).toNatClampNeg) e1) kn_X6_as kv_X6_as wl_707 rfl (by decide) rfl (Nat.le_of_ble_eq_true rfl) dL_law_921 rfl ?_
  refine v_aload_n F dL_law_924 1 rfl rfl ?_
  refine v_aload_n F dL_law_925 3 rfl rfl ?_
  refine v_iload_n F dL_law_926 0 rfl rfl ?_
  refine v_iconst (v := 1) F dL_law_927 (by decide +kernel) ?_
  refine v_iadd F dL_law_928 ?_
  refine v_sld F h1 dL_law_929 ?_
  refine v_aload_n F dL_law_930 3 rfl rfl ?_
  refine v_iload_n F dL_law_931 0 rfl rfl ?_
  refine v_iconst (v := 2) F dL_law_932 (by decide +kernel) ?_
  refine v_iadd F dL_law_933 ?_
  refine v_sld F h2 dL_law_934 ?_
  refine v_cM (As := [.int (xs (x3 + 1).toNatClampNeg), .int (xs (x3 + 2).toNatClampNeg)]) (rest := [.int r]) F (c_X7_as M (xs (x3 + 1).toNatClampNeg) (xs (x3 + 2).toNatClampNeg) e2) kn_X7_as kv_X7_as wl_1093 rfl (by decide) rfl (Nat.le_of_ble_eq_true rfl) dL_law_935 rfl ?_
  refine v_eq (tgt := 1035) F dL_law_938 (by decide) ?_
  exact hk _ _ hS1

set_option maxHeartbeats 4000000 in
set_option maxRecDepth 100000 in
theorem law_ask {p : Program} {l : Launch} {e : Env} {s : State} {m : MethodId} {b : Nat} {below : List Frame} {meth : Method} {c : Code} {D : va_G} {cI cZ : ClassId} {ad ad2 : Nat → Nat} {n : Nat} {xs : Nat → Int32} {X M : KX} {N : Nat} {Sim : KX → KX → Prop} {x3 : Int32} (F : VF (p, l, e, s, m, b, below, meth, c) (D, cI, cZ, ad, ad2) n xs) (hop : zOp_ask N Sim) (hS : Sim X M) (h1 : vp_in (x3 + 1) n) (h2 : vp_in (x3 + 2) n) (h3 : vp_in (x3 + 3) n) (h4 : vp_in (x3 + 4) n) (h5 : vp_in (x3 + 5) n) (hk : ∀ X M : KX, Sim X M → V (p, l, e, s, m, b, below, meth, c) (D, cI, cZ, ad, ad2) X M 1035 [(3, .int x3), (2, .ref (ad2 0)), (1, .ref (ad 0)), (0, .ref b)] []) : V (p, l, e, s, m, b, below, meth, c) (D, cI, cZ, ad, ad2) X M 943 [(3, .int x3), (2, .ref (ad2 0)), (1, .ref (ad 0)), (0, .ref b)] [] := by
  refine v_aload_n F dL_law_943 2 rfl rfl ?_
  refine v_aload_n F dL_law_944 3 rfl rfl ?_
  refine v_iload_n F dL_law_945 0 rfl rfl ?_
  refine v_iconst (v := 1) F dL_law_946 (by decide +kernel) ?_
  refine v_iadd F dL_law_947 ?_
  refine v_sld F h1 dL_law_948 ?_
  refine v_aload_n F dL_law_949 3 rfl rfl ?_
  refine v_iload_n F dL_law_950 0 rfl rfl ?_
  refine v_iconst (v := 2) F dL_law_951 (by decide +kernel) ?_
  refine v_iadd F dL_law_952 ?_
  refine v_sld F h2 dL_law_953 ?_
  obtain ⟨r, X1, M1, e1, e2, hS1⟩ := hop X M hS (xs (x3 + 1).toNatClampNeg) (xs (x3 + 2).toNatClampNeg)
  refine v_cK (As := [.int (xs (x3 + 1).toNatClampNeg), .int (xs (x3 + 2).toNatClampNeg)]) (rest := []) F (c_X6_ask X (xs (x3 + 1).toNatClampNeg) (xs (x3 + 2).toNatClampNeg) e1) kn_X6_ask kv_X6_ask wl_717 rfl (by decide) rfl (Nat.le_of_ble_eq_true rfl) dL_law_954 rfl ?_
  refine v_aload_n F dL_law_957 1 rfl rfl ?_
  refine v_aload_n F dL_law_958 3 rfl rfl ?_
  refine v_iload_n F dL_law_959 0 rfl rfl ?_
  refine v_iconst (v := 1) F dL_law_960 (by decide +kernel) ?_
  refine v_iadd F dL_law_961 ?_
  refine v_sld F h1 dL_law_962 ?_
  refine v_aload_n F dL_law_963 3 rfl rfl ?_
  refine v_iload_n F dL_law_964 0 rfl rfl ?_
  refine v_iconst (v := 2) F dL_law_965 (by decide +kernel) ?_
  refine v_iadd F dL_law_966 ?_
  refine v_sld F h2 dL_law_967 ?_
  refine v_cM (As := [.int (xs (x3 + 1).toNatClampNeg), .int (xs (x3 + 2).toNatClampNeg)]) (rest := [.int r]) F (c_X7_ask M (xs (x3 + 1).toNatClampNeg) (xs (x3 + 2).toNatClampNeg) e2) kn_X7_ask kv_X7_ask wl_1097 rfl (by decide) rfl (Nat.le_of_ble_eq_true rfl) dL_law_968 rfl ?_
  refine v_eq (tgt := 1035) F dL_law_971 (by decide) ?_
  exact hk _ _ hS1

set_option maxHeartbeats 4000000 in
set_option maxRecDepth 100000 in
theorem law_trace {p : Program} {l : Launch} {e : Env} {s : State} {m : MethodId} {b : Nat} {below : List Frame} {meth : Method} {c : Code} {D : va_G} {cI cZ : ClassId} {ad ad2 : Nat → Nat} {n : Nat} {xs : Nat → Int32} {X M : KX} {N : Nat} {Sim : KX → KX → Prop} {x3 : Int32} (F : VF (p, l, e, s, m, b, below, meth, c) (D, cI, cZ, ad, ad2) n xs) (hop : zOp_trace N Sim) (hS : Sim X M) (h1 : vp_in (x3 + 1) n) (h2 : vp_in (x3 + 2) n) (h3 : vp_in (x3 + 3) n) (h4 : vp_in (x3 + 4) n) (h5 : vp_in (x3 + 5) n) (hk : ∀ X M : KX, Sim X M → V (p, l, e, s, m, b, below, meth, c) (D, cI, cZ, ad, ad2) X M 1035 [(3, .int x3), (2, .ref (ad2 0)), (1, .ref (ad 0)), (0, .ref b)] []) : V (p, l, e, s, m, b, below, meth, c) (D, cI, cZ, ad, ad2) X M 976 [(3, .int x3), (2, .ref (ad2 0)), (1, .ref (ad 0)), (0, .ref b)] [] := by
  refine v_aload_n F dL_law_976 2 rfl rfl ?_
  refine v_aload_n F dL_law_977 3 rfl rfl ?_
  refine v_iload_n F dL_law_978 0 rfl rfl ?_
  refine v_iconst (v := 1) F dL_law_979 (by decide +kernel) ?_
  refine v_iadd F dL_law_980 ?_
  refine v_sld F h1 dL_law_981 ?_
  obtain ⟨r, X1, M1, e1, e2, hS1⟩ := hop X M hS (xs (x3 + 1).toNatClampNeg)
  obtain ⟨e1, ge1⟩ := e1
  obtain ⟨e2, ge2⟩ := e2
  refine v_cK (As := [.int (xs (x3 + 1).toNatClampNeg)]) (rest := []) F (c_X6_trace X (xs (x3 + 1).toNatClampNeg) e1) kn_X6_trace kv_X6_trace wl_738 rfl (by decide) rfl (Nat.le_of_ble_eq_true rfl) dL_law_982 rfl ?_
  refine v_aload_n F dL_law_985 1 rfl rfl ?_
  refine v_aload_n F dL_law_986 3 rfl rfl ?_
  refine v_iload_n F dL_law_987 0 rfl rfl ?_
  refine v_iconst (v := 1) F dL_law_988 (by decide +kernel) ?_
  refine v_iadd F dL_law_989 ?_
  refine v_sld F h1 dL_law_990 ?_
  refine v_cM (As := [.int (xs (x3 + 1).toNatClampNeg)]) (rest := [.int r]) F (c_X7_trace M (xs (x3 + 1).toNatClampNeg) e2) kn_X7_trace kv_X7_trace wl_1121 rfl (by decide) rfl (Nat.le_of_ble_eq_true rfl) dL_law_991 rfl ?_
  refine v_eq (tgt := 1035) F dL_law_994 (by decide) ?_
  subst ge1
  subst ge2
  exact hk _ _ hS1

set_option maxHeartbeats 4000000 in
set_option maxRecDepth 100000 in
theorem law_count {p : Program} {l : Launch} {e : Env} {s : State} {m : MethodId} {b : Nat} {below : List Frame} {meth : Method} {c : Code} {D : va_G} {cI cZ : ClassId} {ad ad2 : Nat → Nat} {n : Nat} {xs : Nat → Int32} {X M : KX} {N : Nat} {Sim : KX → KX → Prop} {x3 : Int32} (F : VF (p, l, e, s, m, b, below, meth, c) (D, cI, cZ, ad, ad2) n xs) (hop : zOp_count N Sim) (hS : Sim X M) (h1 : vp_in (x3 + 1) n) (h2 : vp_in (x3 + 2) n) (h3 : vp_in (x3 + 3) n) (h4 : vp_in (x3 + 4) n) (h5 : vp_in (x3 + 5) n) (hk : ∀ X M : KX, Sim X M → V (p, l, e, s, m, b, below, meth, c) (D, cI, cZ, ad, ad2) X M 1035 [(3, .int x3), (2, .ref (ad2 0)), (1, .ref (ad 0)), (0, .ref b)] []) : V (p, l, e, s, m, b, below, meth, c) (D, cI, cZ, ad, ad2) X M 999 [(3, .int x3), (2, .ref (ad2 0)), (1, .ref (ad 0)), (0, .ref b)] [] := by
  refine v_aload_n F dL_law_999 2 rfl rfl ?_
  refine v_aload_n F dL_law_1000 3 rfl rfl ?_
  refine v_iload_n F dL_law_1001 0 rfl rfl ?_
  refine v_iconst (v := 1) F dL_law_1002 (by decide +kernel) ?_
  refine v_iadd F dL_law_1003 ?_
  refine v_sld F h1 dL_law_1004 ?_
  obtain ⟨r, X1, M1, e1, e2, hS1⟩ := hop X M hS (xs (x3 + 1).toNatClampNeg)
  obtain ⟨e1, ge1⟩ := e1
  obtain ⟨e2, ge2⟩ := e2
  refine v_cK (As := [.int (xs (x3 + 1).toNatClampNeg)]) (rest := []) F (c_X6_count N X (xs (x3 + 1).toNatClampNeg) e1) kn_X6_count kv_X6_count wl_742 rfl (by decide) rfl (Nat.le_of_ble_eq_true rfl) dL_law_1005 rfl ?_
  refine v_aload_n F dL_law_1008 1 rfl rfl ?_
  refine v_aload_n F dL_law_1009 3 rfl rfl ?_
  refine v_iload_n F dL_law_1010 0 rfl rfl ?_
  refine v_iconst (v := 1) F dL_law_1011 (by decide +kernel) ?_
  refine v_iadd F dL_law_1012 ?_
  refine v_sld F h1 dL_law_1013 ?_
  refine v_cM (As := [.int (xs (x3 + 1).toNatClampNeg)]) (rest := [.int r]) F (c_X7_count N M (xs (x3 + 1).toNatClampNeg) e2) kn_X7_count kv_X7_count wl_1125 rfl (by decide) rfl (Nat.le_of_ble_eq_true rfl) dL_law_1014 rfl ?_
  refine v_eq (tgt := 1035) F dL_law_1017 (by decide) ?_
  subst ge1
  subst ge2
  exact hk _ _ hS1

set_option maxHeartbeats 4000000 in
set_option maxRecDepth 100000 in
theorem law_status {p : Program} {l : Launch} {e : Env} {s : State} {m : MethodId} {b : Nat} {below : List Frame} {meth : Method} {c : Code} {D : va_G} {cI cZ : ClassId} {ad ad2 : Nat → Nat} {n : Nat} {xs : Nat → Int32} {X M : KX} {N : Nat} {Sim : KX → KX → Prop} {x3 : Int32} (F : VF (p, l, e, s, m, b, below, meth, c) (D, cI, cZ, ad, ad2) n xs) (hop : zOp_status N Sim) (hS : Sim X M) (h1 : vp_in (x3 + 1) n) (h2 : vp_in (x3 + 2) n) (h3 : vp_in (x3 + 3) n) (h4 : vp_in (x3 + 4) n) (h5 : vp_in (x3 + 5) n) (hk : ∀ X M : KX, Sim X M → V (p, l, e, s, m, b, below, meth, c) (D, cI, cZ, ad, ad2) X M 1035 [(3, .int x3), (2, .ref (ad2 0)), (1, .ref (ad 0)), (0, .ref b)] []) : V (p, l, e, s, m, b, below, meth, c) (D, cI, cZ, ad, ad2) X M 1022 [(3, .int x3), (2, .ref (ad2 0)), (1, .ref (ad 0)), (0, .ref b)] [] := by
  refine v_aload_n F dL_law_1022 2 rfl rfl ?_
  obtain ⟨r, X1, M1, e1, e2, hS1⟩ := hop X M hS 
  obtain ⟨e1, ge1⟩ := e1
  obtain ⟨e2, ge2⟩ := e2
  have hM0 := c_X6_status (D := D) (cI := cI) (ad := ad) X 
  rw [e1] at hM0
  refine v_cK (As := []) (rest := []) F hM0 kn_X6_status kv_X6_status wl_751 rfl (by decide) rfl (Nat.le_of_ble_eq_true rfl) dL_law_1023 rfl ?_
  refine v_aload_n F dL_law_1026 1 rfl rfl ?_
  have hM1 := c_X7_status (D := D) (cI := cI) (cZ := cZ) (ad := ad2) M 
  rw [e2] at hM1
  refine v_cM (As := []) (rest := [.int r]) F hM1 kn_X7_status kv_X7_status wl_1129 rfl (by decide) rfl (Nat.le_of_ble_eq_true rfl) dL_law_1027 rfl ?_
  refine v_eq (tgt := 1035) F dL_law_1030 (by decide) ?_
  subst ge1
  subst ge2
  exact hk _ _ hS1

set_option maxHeartbeats 4000000 in
set_option maxRecDepth 100000 in
theorem law_loop {p : Program} {l : Launch} {e : Env} {s : State} {m : MethodId} {b : Nat} {below : List Frame} {meth : Method} {c : Code} {D : va_G} {cI cZ : ClassId} {ad ad2 : Nat → Nat} {n : Nat} {xs : Nat → Int32} {N : Nat} {Sim : KX → KX → Prop} (F : VF (p, l, e, s, m, b, below, meth, c) (D, cI, cZ, ad, ad2) n xs) (hn : n ≤ 384) (h_row : zOp_row N Sim) (h_set : zOp_set N Sim) (h_copy : zOp_copy N Sim) (h_drop : zOp_drop N Sim) (h_feed : zOp_feed N Sim) (h_castle : zOp_castle N Sim) (h_fault : zOp_fault N Sim) (h_invite : zOp_invite N Sim) (h_show : zOp_show N Sim) (h_speak : zOp_speak N Sim) (h_tale : zOp_tale N Sim) (h_undo : zOp_undo N Sim) (h_guest : zOp_guest N Sim) (h_hint : zOp_hint N Sim) (h_leads : zOp_leads N Sim) (h_route : zOp_route N Sim) (h_thinkable : zOp_thinkable N Sim) (h_chance : zOp_chance N Sim) (h_taught : zOp_taught N Sim) (h_bestGuest : zOp_bestGuest N Sim) (h_cover : zOp_cover N Sim) (h_spoilt : zOp_spoilt N Sim) (h_nearly : zOp_nearly N Sim) (h_image : zOp_image N Sim) (h_restore : zOp_restore N Sim) (h_kind : zOp_kind N Sim) (h_as : zOp_as N Sim) (h_ask : zOp_ask N Sim) (h_trace : zOp_trace N Sim) (h_count : zOp_count N Sim) (h_status : zOp_status N Sim) : ∀ (t i : Nat) (X M : KX), n + 1 ≤ i + t → i ≤ 400 → Sim X M → V (p, l, e, s, m, b, below, meth, c) (D, cI, cZ, ad, ad2) X M 18 [(3, .int (nI i)), (2, .ref (ad2 0)), (1, .ref (ad 0)), (0, .ref b)] [] := by
  intro t
  induction t with
  | zero =>
    intro i X M h1 h2 hS
    refine v_iload_n F dL_law_18 0 rfl rfl ?_
    refine v_aload_n F dL_law_19 3 rfl rfl ?_
    refine v_slen F dL_law_20 ?_
    refine v_bipush (v := 6) F dL_law_21 (by decide +kernel) ?_
    refine v_isub F dL_law_23 ?_
    refine v_gt (tgt := 1041) F dL_law_24 (by decide) (fun q => ?_) (fun q => ?_)
    · refine v_iconst (v := 1) F dL_law_1041 (by decide +kernel) ?_
      exact v_ret F dL_law_1042
    · have h3 := vl_in hn h2 q
      omega
  | succ t ih =>
    intro i X M h1 h2 hS
    refine v_iload_n F dL_law_18 0 rfl rfl ?_
    refine v_aload_n F dL_law_19 3 rfl rfl ?_
    refine v_slen F dL_law_20 ?_
    refine v_bipush (v := 6) F dL_law_21 (by decide +kernel) ?_
    refine v_isub F dL_law_23 ?_
    refine v_gt (tgt := 1041) F dL_law_24 (by decide) (fun q => ?_) (fun q => ?_)
    · refine v_iconst (v := 1) F dL_law_1041 (by decide +kernel) ?_
      exact v_ret F dL_law_1042
    · have h3 := vl_in hn h2 q
      have hk : ∀ X M : KX, Sim X M → V (p, l, e, s, m, b, below, meth, c) (D, cI, cZ, ad, ad2) X M 1035 [(3, .int (nI i)), (2, .ref (ad2 0)), (1, .ref (ad 0)), (0, .ref b)] [] := by
        intro X M hS
        refine v_iinc (v := nI (i + 6)) (w := 6) (L' := [(3, .int (nI (i + 6))), (2, .ref (ad2 0)), (1, .ref (ad 0)), (0, .ref b)]) F dL_law_1035 0 rfl (by decide +kernel) (nI_add i 6) (by decide) rfl ?_
        refine v_goto (tgt := 18) F dL_law_1038 (by decide) ?_
        exact ih (i + 6) X M (by omega) (by omega) hS
      have g0 : vp_in (nI i) n := vp_in_nI (by omega) (by omega)
      have g1 : vp_in (nI i + 1) n := by
        rw [show nI i + 1 = nI (i + 1) from nI_add i 1]
        exact vp_in_nI (by omega) (by omega)
      have g2 : vp_in (nI i + 2) n := by
        rw [show nI i + 2 = nI (i + 2) from nI_add i 2]
        exact vp_in_nI (by omega) (by omega)
      have g3 : vp_in (nI i + 3) n := by
        rw [show nI i + 3 = nI (i + 3) from nI_add i 3]
        exact vp_in_nI (by omega) (by omega)
      have g4 : vp_in (nI i + 4) n := by
        rw [show nI i + 4 = nI (i + 4) from nI_add i 4]
        exact vp_in_nI (by omega) (by omega)
      have g5 : vp_in (nI i + 5) n := by
        rw [show nI i + 5 = nI (i + 5) from nI_add i 5]
        exact vp_in_nI (by omega) (by omega)
      refine v_aload_n F dL_law_27 3 rfl rfl ?_
      refine v_iload_n F dL_law_28 0 rfl rfl ?_
      refine v_sld F g0 dL_law_29 ?_
      refine v_bipush (v := 31) F dL_law_30 (by decide +kernel) ?_
      refine v_iand F dL_law_32 ?_
      refine v_top (fun w => ?_)
      by_cases c0 : w = 0
      · refine v_swIn (v := 0) (off := 139) (tgt := 172) F c0 dL_law_33 (by decide +kernel) ?_
        exact law_row F h_row hS g1 g2 g3 g4 g5 hk
      by_cases c1 : w = 1
      · refine v_swIn (v := 1) (off := 182) (tgt := 215) F c1 dL_law_33 (by decide +kernel) ?_
        exact law_set F h_set hS g1 g2 g3 g4 g5 hk
      by_cases c2 : w = 2
      · refine v_swIn (v := 2) (off := 225) (tgt := 258) F c2 dL_law_33 (by decide +kernel) ?_
        exact law_copy F h_copy hS g1 g2 g3 g4 g5 hk
      by_cases c3 : w = 3
      · refine v_swIn (v := 3) (off := 288) (tgt := 321) F c3 dL_law_33 (by decide +kernel) ?_
        exact law_drop F h_drop hS g1 g2 g3 g4 g5 hk
      by_cases c4 : w = 4
      · refine v_swIn (v := 4) (off := 311) (tgt := 344) F c4 dL_law_33 (by decide +kernel) ?_
        exact law_feed F h_feed hS g1 g2 g3 g4 g5 hk
      by_cases c5 : w = 5
      · refine v_swIn (v := 5) (off := 334) (tgt := 367) F c5 dL_law_33 (by decide +kernel) ?_
        exact law_castle F h_castle hS g1 g2 g3 g4 g5 hk
      by_cases c6 : w = 6
      · refine v_swIn (v := 6) (off := 347) (tgt := 380) F c6 dL_law_33 (by decide +kernel) ?_
        exact law_fault F h_fault hS g1 g2 g3 g4 g5 hk
      by_cases c7 : w = 7
      · refine v_swIn (v := 7) (off := 360) (tgt := 393) F c7 dL_law_33 (by decide +kernel) ?_
        exact law_invite F h_invite hS g1 g2 g3 g4 g5 hk
      by_cases c8 : w = 8
      · refine v_swIn (v := 8) (off := 383) (tgt := 416) F c8 dL_law_33 (by decide +kernel) ?_
        exact law_show F h_show hS g1 g2 g3 g4 g5 hk
      by_cases c9 : w = 9
      · refine v_swIn (v := 9) (off := 406) (tgt := 439) F c9 dL_law_33 (by decide +kernel) ?_
        exact law_speak F h_speak hS g1 g2 g3 g4 g5 hk
      by_cases c10 : w = 10
      · refine v_swIn (v := 10) (off := 419) (tgt := 452) F c10 dL_law_33 (by decide +kernel) ?_
        exact law_tale F h_tale hS g1 g2 g3 g4 g5 hk
      by_cases c11 : w = 11
      · refine v_swIn (v := 11) (off := 452) (tgt := 485) F c11 dL_law_33 (by decide +kernel) ?_
        exact law_undo F h_undo hS g1 g2 g3 g4 g5 hk
      by_cases c12 : w = 12
      · refine v_swIn (v := 12) (off := 465) (tgt := 498) F c12 dL_law_33 (by decide +kernel) ?_
        exact law_guest F h_guest hS g1 g2 g3 g4 g5 hk
      by_cases c13 : w = 13
      · refine v_swIn (v := 13) (off := 498) (tgt := 531) F c13 dL_law_33 (by decide +kernel) ?_
        exact law_hint F h_hint hS g1 g2 g3 g4 g5 hk
      by_cases c14 : w = 14
      · refine v_swIn (v := 14) (off := 531) (tgt := 564) F c14 dL_law_33 (by decide +kernel) ?_
        exact law_leads F h_leads hS g1 g2 g3 g4 g5 hk
      by_cases c15 : w = 15
      · refine v_swIn (v := 15) (off := 564) (tgt := 597) F c15 dL_law_33 (by decide +kernel) ?_
        exact law_route F h_route hS g1 g2 g3 g4 g5 hk
      by_cases c16 : w = 16
      · refine v_swIn (v := 16) (off := 607) (tgt := 640) F c16 dL_law_33 (by decide +kernel) ?_
        exact law_thinkable F h_thinkable hS g1 g2 g3 g4 g5 hk
      by_cases c17 : w = 17
      · refine v_swIn (v := 17) (off := 630) (tgt := 663) F c17 dL_law_33 (by decide +kernel) ?_
        exact law_chance F h_chance hS g1 g2 g3 g4 g5 hk
      by_cases c18 : w = 18
      · refine v_swIn (v := 18) (off := 673) (tgt := 706) F c18 dL_law_33 (by decide +kernel) ?_
        exact law_taught F h_taught hS g1 g2 g3 g4 g5 hk
      by_cases c19 : w = 19
      · refine v_swIn (v := 19) (off := 696) (tgt := 729) F c19 dL_law_33 (by decide +kernel) ?_
        exact law_bestGuest F h_bestGuest hS g1 g2 g3 g4 g5 hk
      by_cases c20 : w = 20
      · refine v_swIn (v := 20) (off := 719) (tgt := 752) F c20 dL_law_33 (by decide +kernel) ?_
        exact law_cover F h_cover hS g1 g2 g3 g4 g5 hk
      by_cases c21 : w = 21
      · refine v_swIn (v := 21) (off := 742) (tgt := 775) F c21 dL_law_33 (by decide +kernel) ?_
        exact law_spoilt F h_spoilt hS g1 g2 g3 g4 g5 hk
      by_cases c22 : w = 22
      · refine v_swIn (v := 22) (off := 765) (tgt := 798) F c22 dL_law_33 (by decide +kernel) ?_
        exact law_nearly F h_nearly hS g1 g2 g3 g4 g5 hk
      by_cases c23 : w = 23
      · refine v_swIn (v := 23) (off := 808) (tgt := 841) F c23 dL_law_33 (by decide +kernel) ?_
        exact law_image F h_image hS g1 g2 g3 g4 g5 hk
      by_cases c24 : w = 24
      · refine v_swIn (v := 24) (off := 831) (tgt := 864) F c24 dL_law_33 (by decide +kernel) ?_
        exact law_restore F h_restore hS g1 g2 g3 g4 g5 hk
      by_cases c25 : w = 25
      · refine v_swIn (v := 25) (off := 854) (tgt := 887) F c25 dL_law_33 (by decide +kernel) ?_
        exact law_kind F h_kind hS g1 g2 g3 g4 g5 hk
      by_cases c26 : w = 26
      · refine v_swIn (v := 26) (off := 877) (tgt := 910) F c26 dL_law_33 (by decide +kernel) ?_
        exact law_as F h_as hS g1 g2 g3 g4 g5 hk
      by_cases c27 : w = 27
      · refine v_swIn (v := 27) (off := 910) (tgt := 943) F c27 dL_law_33 (by decide +kernel) ?_
        exact law_ask F h_ask hS g1 g2 g3 g4 g5 hk
      by_cases c28 : w = 28
      · refine v_swIn (v := 28) (off := 943) (tgt := 976) F c28 dL_law_33 (by decide +kernel) ?_
        exact law_trace F h_trace hS g1 g2 g3 g4 g5 hk
      by_cases c29 : w = 29
      · refine v_swIn (v := 29) (off := 966) (tgt := 999) F c29 dL_law_33 (by decide +kernel) ?_
        exact law_count F h_count hS g1 g2 g3 g4 g5 hk
      by_cases c30 : w = 30
      · refine v_swIn (v := 30) (off := 989) (tgt := 1022) F c30 dL_law_33 (by decide +kernel) ?_
        exact law_status F h_status hS g1 g2 g3 g4 g5 hk
      have e0 := lv_neT c0 (show (0 : Int32).toInt = 0 by decide +kernel)
      have e1 := lv_neT c1 (show (1 : Int32).toInt = 1 by decide +kernel)
      have e2 := lv_neT c2 (show (2 : Int32).toInt = 2 by decide +kernel)
      have e3 := lv_neT c3 (show (3 : Int32).toInt = 3 by decide +kernel)
      have e4 := lv_neT c4 (show (4 : Int32).toInt = 4 by decide +kernel)
      have e5 := lv_neT c5 (show (5 : Int32).toInt = 5 by decide +kernel)
      have e6 := lv_neT c6 (show (6 : Int32).toInt = 6 by decide +kernel)
      have e7 := lv_neT c7 (show (7 : Int32).toInt = 7 by decide +kernel)
      have e8 := lv_neT c8 (show (8 : Int32).toInt = 8 by decide +kernel)
      have e9 := lv_neT c9 (show (9 : Int32).toInt = 9 by decide +kernel)
      have e10 := lv_neT c10 (show (10 : Int32).toInt = 10 by decide +kernel)
      have e11 := lv_neT c11 (show (11 : Int32).toInt = 11 by decide +kernel)
      have e12 := lv_neT c12 (show (12 : Int32).toInt = 12 by decide +kernel)
      have e13 := lv_neT c13 (show (13 : Int32).toInt = 13 by decide +kernel)
      have e14 := lv_neT c14 (show (14 : Int32).toInt = 14 by decide +kernel)
      have e15 := lv_neT c15 (show (15 : Int32).toInt = 15 by decide +kernel)
      have e16 := lv_neT c16 (show (16 : Int32).toInt = 16 by decide +kernel)
      have e17 := lv_neT c17 (show (17 : Int32).toInt = 17 by decide +kernel)
      have e18 := lv_neT c18 (show (18 : Int32).toInt = 18 by decide +kernel)
      have e19 := lv_neT c19 (show (19 : Int32).toInt = 19 by decide +kernel)
      have e20 := lv_neT c20 (show (20 : Int32).toInt = 20 by decide +kernel)
      have e21 := lv_neT c21 (show (21 : Int32).toInt = 21 by decide +kernel)
      have e22 := lv_neT c22 (show (22 : Int32).toInt = 22 by decide +kernel)
      have e23 := lv_neT c23 (show (23 : Int32).toInt = 23 by decide +kernel)
      have e24 := lv_neT c24 (show (24 : Int32).toInt = 24 by decide +kernel)
      have e25 := lv_neT c25 (show (25 : Int32).toInt = 25 by decide +kernel)
      have e26 := lv_neT c26 (show (26 : Int32).toInt = 26 by decide +kernel)
      have e27 := lv_neT c27 (show (27 : Int32).toInt = 27 by decide +kernel)
      have e28 := lv_neT c28 (show (28 : Int32).toInt = 28 by decide +kernel)
      have e29 := lv_neT c29 (show (29 : Int32).toInt = 29 by decide +kernel)
      have e30 := lv_neT c30 (show (30 : Int32).toInt = 30 by decide +kernel)
      refine v_swOut (tgt := 1035) F dL_law_33 (by omega) (by decide) ?_
      exact hk X M hS
