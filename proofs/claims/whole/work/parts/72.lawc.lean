/-! printed by wip/whole/law.py -/
theorem wd_347 : Cond.methodLink RL 13 yX9_persons ∈ TB := TB_in (List.mem_of_getElem? (i := 347) (by decide +kernel)) rfl
theorem wd_365 : Cond.methodLink RL 18 yX9_mark ∈ TB := TB_in (List.mem_of_getElem? (i := 365) (by decide +kernel)) rfl
theorem wd_373 : Cond.methodLink RL 23 yX9_year ∈ TB := TB_in (List.mem_of_getElem? (i := 373) (by decide +kernel)) rfl
theorem wd_377 : Cond.methodLink RL 29 yX9_feed ∈ TB := TB_in (List.mem_of_getElem? (i := 377) (by decide +kernel)) rfl
theorem wd_386 : Cond.methodLink RL 34 yX9_ties ∈ TB := TB_in (List.mem_of_getElem? (i := 386) (by decide +kernel)) rfl
theorem wd_453 : Cond.methodLink RL 39 yX9_untie ∈ TB := TB_in (List.mem_of_getElem? (i := 453) (by decide +kernel)) rfl
theorem wd_461 : Cond.methodLink RL 43 yX9_tie ∈ TB := TB_in (List.mem_of_getElem? (i := 461) (by decide +kernel)) rfl
theorem wd_484 : Cond.methodLink RL 48 yX9_degree ∈ TB := TB_in (List.mem_of_getElem? (i := 484) (by decide +kernel)) rfl
theorem wd_497 : Cond.methodLink RL 53 yX9_parting ∈ TB := TB_in (List.mem_of_getElem? (i := 497) (by decide +kernel)) rfl
theorem wd_514 : Cond.methodLink RL 57 yX9_judge ∈ TB := TB_in (List.mem_of_getElem? (i := 514) (by decide +kernel)) rfl
theorem wd_562 : Cond.methodLink RL 61 yX9_coarsest ∈ TB := TB_in (List.mem_of_getElem? (i := 562) (by decide +kernel)) rfl
theorem wd_590 : Cond.methodLink RL 65 yX9_renamings ∈ TB := TB_in (List.mem_of_getElem? (i := 590) (by decide +kernel)) rfl
theorem wd_633 : Cond.methodLink RL 69 yX9_moves ∈ TB := TB_in (List.mem_of_getElem? (i := 633) (by decide +kernel)) rfl
theorem wd_638 : Cond.methodLink RL 73 yX9_orbits ∈ TB := TB_in (List.mem_of_getElem? (i := 638) (by decide +kernel)) rfl
theorem wd_648 : Cond.methodLink RL 77 yX9_form ∈ TB := TB_in (List.mem_of_getElem? (i := 648) (by decide +kernel)) rfl
theorem wd_698 : Cond.methodLink RL 81 yX9_next ∈ TB := TB_in (List.mem_of_getElem? (i := 698) (by decide +kernel)) rfl
theorem wd_718 : Cond.methodLink RL 85 yX9_all ∈ TB := TB_in (List.mem_of_getElem? (i := 718) (by decide +kernel)) rfl
theorem wd_722 : Cond.methodLink RL 89 yX9_join ∈ TB := TB_in (List.mem_of_getElem? (i := 722) (by decide +kernel)) rfl
theorem wd_745 : Cond.methodLink RL 93 yX9_meet ∈ TB := TB_in (List.mem_of_getElem? (i := 745) (by decide +kernel)) rfl
theorem wd_750 : Cond.methodLink RL 97 yX9_picture ∈ TB := TB_in (List.mem_of_getElem? (i := 750) (by decide +kernel)) rfl
theorem wd_776 : Cond.methodLink RL 102 yX9_wrong ∈ TB := TB_in (List.mem_of_getElem? (i := 776) (by decide +kernel)) rfl
theorem wd_796 : Cond.methodLink RL 106 yX9_least ∈ TB := TB_in (List.mem_of_getElem? (i := 796) (by decide +kernel)) rfl
theorem wd_808 : Cond.methodLink RL 110 yX9_spoils ∈ TB := TB_in (List.mem_of_getElem? (i := 808) (by decide +kernel)) rfl
theorem wd_821 : Cond.methodLink RL 114 yX9_newcomer ∈ TB := TB_in (List.mem_of_getElem? (i := 821) (by decide +kernel)) rfl
theorem wd_830 : Cond.methodLink RL 118 yX9_fits ∈ TB := TB_in (List.mem_of_getElem? (i := 830) (by decide +kernel)) rfl
theorem wd_845 : Cond.methodLink RL 122 yX9_gone ∈ TB := TB_in (List.mem_of_getElem? (i := 845) (by decide +kernel)) rfl
theorem wd_849 : Cond.methodLink RL 126 yX9_shift ∈ TB := TB_in (List.mem_of_getElem? (i := 849) (by decide +kernel)) rfl
theorem wd_872 : Cond.methodLink RL 130 yX9_stays ∈ TB := TB_in (List.mem_of_getElem? (i := 872) (by decide +kernel)) rfl
theorem wd_881 : Cond.methodLink RL 134 yX9_count ∈ TB := TB_in (List.mem_of_getElem? (i := 881) (by decide +kernel)) rfl
theorem wd_1000 : Cond.methodLink RL 17 yX10_persons ∈ TB := TB_in (List.mem_of_getElem? (i := 1000) (by decide +kernel)) rfl
theorem wd_1012 : Cond.methodLink RL 22 yX10_mark ∈ TB := TB_in (List.mem_of_getElem? (i := 1012) (by decide +kernel)) rfl
theorem wd_1021 : Cond.methodLink RL 26 yX10_year ∈ TB := TB_in (List.mem_of_getElem? (i := 1021) (by decide +kernel)) rfl
theorem wd_1026 : Cond.methodLink RL 33 yX10_feed ∈ TB := TB_in (List.mem_of_getElem? (i := 1026) (by decide +kernel)) rfl
theorem wd_1032 : Cond.methodLink RL 38 yX10_ties ∈ TB := TB_in (List.mem_of_getElem? (i := 1032) (by decide +kernel)) rfl
theorem wd_1065 : Cond.methodLink RL 42 yX10_untie ∈ TB := TB_in (List.mem_of_getElem? (i := 1065) (by decide +kernel)) rfl
theorem wd_1069 : Cond.methodLink RL 47 yX10_tie ∈ TB := TB_in (List.mem_of_getElem? (i := 1069) (by decide +kernel)) rfl
theorem wd_1084 : Cond.methodLink RL 52 yX10_degree ∈ TB := TB_in (List.mem_of_getElem? (i := 1084) (by decide +kernel)) rfl
theorem wd_1092 : Cond.methodLink RL 56 yX10_parting ∈ TB := TB_in (List.mem_of_getElem? (i := 1092) (by decide +kernel)) rfl
theorem wd_1100 : Cond.methodLink RL 60 yX10_judge ∈ TB := TB_in (List.mem_of_getElem? (i := 1100) (by decide +kernel)) rfl
theorem wd_1130 : Cond.methodLink RL 64 yX10_coarsest ∈ TB := TB_in (List.mem_of_getElem? (i := 1130) (by decide +kernel)) rfl
theorem wd_1142 : Cond.methodLink RL 68 yX10_renamings ∈ TB := TB_in (List.mem_of_getElem? (i := 1142) (by decide +kernel)) rfl
theorem wd_1162 : Cond.methodLink RL 72 yX10_moves ∈ TB := TB_in (List.mem_of_getElem? (i := 1162) (by decide +kernel)) rfl
theorem wd_1166 : Cond.methodLink RL 76 yX10_orbits ∈ TB := TB_in (List.mem_of_getElem? (i := 1166) (by decide +kernel)) rfl
theorem wd_1170 : Cond.methodLink RL 80 yX10_form ∈ TB := TB_in (List.mem_of_getElem? (i := 1170) (by decide +kernel)) rfl
theorem wd_1176 : Cond.methodLink RL 84 yX10_next ∈ TB := TB_in (List.mem_of_getElem? (i := 1176) (by decide +kernel)) rfl
theorem wd_1188 : Cond.methodLink RL 88 yX10_all ∈ TB := TB_in (List.mem_of_getElem? (i := 1188) (by decide +kernel)) rfl
theorem wd_1192 : Cond.methodLink RL 92 yX10_join ∈ TB := TB_in (List.mem_of_getElem? (i := 1192) (by decide +kernel)) rfl
theorem wd_1196 : Cond.methodLink RL 96 yX10_meet ∈ TB := TB_in (List.mem_of_getElem? (i := 1196) (by decide +kernel)) rfl
theorem wd_1200 : Cond.methodLink RL 101 yX10_picture ∈ TB := TB_in (List.mem_of_getElem? (i := 1200) (by decide +kernel)) rfl
theorem wd_1204 : Cond.methodLink RL 105 yX10_wrong ∈ TB := TB_in (List.mem_of_getElem? (i := 1204) (by decide +kernel)) rfl
theorem wd_1212 : Cond.methodLink RL 109 yX10_least ∈ TB := TB_in (List.mem_of_getElem? (i := 1212) (by decide +kernel)) rfl
theorem wd_1221 : Cond.methodLink RL 113 yX10_spoils ∈ TB := TB_in (List.mem_of_getElem? (i := 1221) (by decide +kernel)) rfl
theorem wd_1230 : Cond.methodLink RL 117 yX10_newcomer ∈ TB := TB_in (List.mem_of_getElem? (i := 1230) (by decide +kernel)) rfl
theorem wd_1234 : Cond.methodLink RL 121 yX10_fits ∈ TB := TB_in (List.mem_of_getElem? (i := 1234) (by decide +kernel)) rfl
theorem wd_1242 : Cond.methodLink RL 125 yX10_gone ∈ TB := TB_in (List.mem_of_getElem? (i := 1242) (by decide +kernel)) rfl
theorem wd_1246 : Cond.methodLink RL 129 yX10_shift ∈ TB := TB_in (List.mem_of_getElem? (i := 1246) (by decide +kernel)) rfl
theorem wd_1254 : Cond.methodLink RL 133 yX10_stays ∈ TB := TB_in (List.mem_of_getElem? (i := 1254) (by decide +kernel)) rfl
theorem wd_1258 : Cond.methodLink RL 137 yX10_count ∈ TB := TB_in (List.mem_of_getElem? (i := 1258) (by decide +kernel)) rfl
theorem wd_1264 : Cond.constantLong RL 27 (4294967295) ∈ TB := TB_in (List.mem_of_getElem? (i := 1264) (by decide +kernel)) rfl
set_option maxHeartbeats 4000000 in
set_option maxRecDepth 100000 in
theorem lc_persons {X : Cx} {ad : Nat → Nat} {b Ls i : Nat} {xs : Nat → Int32} {M : Mem} {σ : Sg} (hx : LwX X b Ls xs) (hi : i + 5 ≤ Ls) (hw : WF σ) (hc : RC M σ) (hm : RM M σ) (go : ∀ (M' : Mem) (σ' : Sg), WF σ' → RC M' σ' → RM M' σ' → G X ad mi_law φ0 1063 (LL ad b i) [] M' (some ())) : G X ad mi_law φ0 164 (LL ad b i) [] M (some ()) := by
  refine G_aload_n dL_law_164 2 rfl ?_
  refine G_arg hx dL_law_165 dL_law_166 dL_law_167 dL_law_168 dL_law_169 (j := 1) rfl (by omega) ?_
  refine G_callEC (m_SP_persons (xs (i + 1)) M) (SP_persons_wp (xs (i + 1)) hc) hm cal_SP_persons ⟨Nat.le_of_ble_eq_true rfl, Nat.le_of_ble_eq_true rfl⟩ wd_347 hclX9 (by decide) rfl [.int (xs (i + 1))] rfl rfl rfl (Nat.le_of_ble_eq_true rfl) dL_law_170 (fun M1 c1 m1 => ?_)
  refine G_aload_n dL_law_173 1 rfl ?_
  refine G_arg hx dL_law_174 dL_law_175 dL_law_176 dL_law_177 dL_law_178 (j := 1) rfl (by omega) ?_
  refine G_callEM (m_MD_persons (xs (i + 1)) M1) (MD_persons_wp (xs (i + 1)) m1) c1 cal_MD_persons ⟨Nat.le_of_ble_eq_true rfl, Nat.le_of_ble_eq_true rfl⟩ wd_1000 hclX10 (by decide) rfl [.int (xs (i + 1))] rfl rfl rfl (Nat.le_of_ble_eq_true rfl) dL_law_179 (fun M2 c2 m2 => ?_)
  refine G_icmp_eqT 1063 dL_law_182 (by decide) rfl ?_
  exact go M2 _ (wf_persons (xs (i + 1)) hw) c2 m2
set_option maxHeartbeats 4000000 in
set_option maxRecDepth 100000 in
theorem lc_mark {X : Cx} {ad : Nat → Nat} {b Ls i : Nat} {xs : Nat → Int32} {M : Mem} {σ : Sg} (hx : LwX X b Ls xs) (hi : i + 5 ≤ Ls) (hw : WF σ) (hc : RC M σ) (hm : RM M σ) (go : ∀ (M' : Mem) (σ' : Sg), WF σ' → RC M' σ' → RM M' σ' → G X ad mi_law φ0 1063 (LL ad b i) [] M' (some ())) : G X ad mi_law φ0 187 (LL ad b i) [] M (some ()) := by
  refine G_aload_n dL_law_187 2 rfl ?_
  refine G_arg hx dL_law_188 dL_law_189 dL_law_190 dL_law_191 dL_law_192 (j := 1) rfl (by omega) ?_
  refine G_arg hx dL_law_193 dL_law_194 dL_law_195 dL_law_196 dL_law_197 (j := 2) rfl (by omega) ?_
  refine G_callEC (m_SP_mark (xs (i + 1)) (xs (i + 2)) M) (SP_mark_wp (xs (i + 1)) (xs (i + 2)) hw hc) hm cal_SP_mark ⟨Nat.le_of_ble_eq_true rfl, Nat.le_of_ble_eq_true rfl⟩ wd_365 hclX9 (by decide) rfl [.int (xs (i + 1)), .int (xs (i + 2))] rfl rfl rfl (Nat.le_of_ble_eq_true rfl) dL_law_198 (fun M1 c1 m1 => ?_)
  refine G_aload_n dL_law_201 1 rfl ?_
  refine G_arg hx dL_law_202 dL_law_203 dL_law_204 dL_law_205 dL_law_206 (j := 1) rfl (by omega) ?_
  refine G_arg hx dL_law_207 dL_law_208 dL_law_209 dL_law_210 dL_law_211 (j := 2) rfl (by omega) ?_
  refine G_callEM (m_MD_mark (xs (i + 1)) (xs (i + 2)) M1) (MD_mark_wp (xs (i + 1)) (xs (i + 2)) hw m1) c1 cal_MD_mark ⟨Nat.le_of_ble_eq_true rfl, Nat.le_of_ble_eq_true rfl⟩ wd_1012 hclX10 (by decide) rfl [.int (xs (i + 1)), .int (xs (i + 2))] rfl rfl rfl (Nat.le_of_ble_eq_true rfl) dL_law_212 (fun M2 c2 m2 => ?_)
  refine G_icmp_eqT 1063 dL_law_215 (by decide) rfl ?_
  exact go M2 _ (wf_mark (xs (i + 1)) (xs (i + 2)) hw) c2 m2
set_option maxHeartbeats 4000000 in
set_option maxRecDepth 100000 in
theorem lc_year {X : Cx} {ad : Nat → Nat} {b Ls i : Nat} {xs : Nat → Int32} {M : Mem} {σ : Sg} (hx : LwX X b Ls xs) (hi : i + 5 ≤ Ls) (hw : WF σ) (hc : RC M σ) (hm : RM M σ) (go : ∀ (M' : Mem) (σ' : Sg), WF σ' → RC M' σ' → RM M' σ' → G X ad mi_law φ0 1063 (LL ad b i) [] M' (some ())) : G X ad mi_law φ0 220 (LL ad b i) [] M (some ()) := by
  refine G_aload_n dL_law_220 2 rfl ?_
  refine G_arg hx dL_law_221 dL_law_222 dL_law_223 dL_law_224 dL_law_225 (j := 1) rfl (by omega) ?_
  refine G_callEC (m_SP_year (xs (i + 1)) M) (SP_year_wp (xs (i + 1)) hc) hm cal_SP_year ⟨Nat.le_of_ble_eq_true rfl, Nat.le_of_ble_eq_true rfl⟩ wd_373 hclX9 (by decide) rfl [.int (xs (i + 1))] rfl rfl rfl (Nat.le_of_ble_eq_true rfl) dL_law_226 (fun M1 c1 m1 => ?_)
  refine G_aload_n dL_law_229 1 rfl ?_
  refine G_arg hx dL_law_230 dL_law_231 dL_law_232 dL_law_233 dL_law_234 (j := 1) rfl (by omega) ?_
  refine G_callEM (m_MD_year (xs (i + 1)) M1) (MD_year_wp (xs (i + 1)) m1) c1 cal_MD_year ⟨Nat.le_of_ble_eq_true rfl, Nat.le_of_ble_eq_true rfl⟩ wd_1021 hclX10 (by decide) rfl [.int (xs (i + 1))] rfl rfl rfl (Nat.le_of_ble_eq_true rfl) dL_law_235 (fun M2 c2 m2 => ?_)
  refine G_icmp_eqT 1063 dL_law_238 (by decide) rfl ?_
  exact go M2 _ (wf_year (xs (i + 1)) hw) c2 m2
set_option maxHeartbeats 4000000 in
set_option maxRecDepth 100000 in
theorem lc_feed {X : Cx} {ad : Nat → Nat} {b Ls i : Nat} {xs : Nat → Int32} {M : Mem} {σ : Sg} (hx : LwX X b Ls xs) (hi : i + 5 ≤ Ls) (hw : WF σ) (hc : RC M σ) (hm : RM M σ) (go : ∀ (M' : Mem) (σ' : Sg), WF σ' → RC M' σ' → RM M' σ' → G X ad mi_law φ0 1063 (LL ad b i) [] M' (some ())) : G X ad mi_law φ0 243 (LL ad b i) [] M (some ()) := by
  refine G_aload_n dL_law_243 2 rfl ?_
  refine G_arg hx dL_law_244 dL_law_245 dL_law_246 dL_law_247 dL_law_248 (j := 1) rfl (by omega) ?_
  refine G_arg hx dL_law_249 dL_law_250 dL_law_251 dL_law_252 dL_law_253 (j := 2) rfl (by omega) ?_
  refine G_i2l dL_law_254 ?_
  refine G_bipush (v := 32) dL_law_255 rfl ?_
  refine G_lshl dL_law_257 ?_
  refine G_arg hx dL_law_258 dL_law_259 dL_law_260 dL_law_261 dL_law_262 (j := 3) rfl (by omega) ?_
  refine G_i2l dL_law_263 ?_
  refine G_ldc2 (v := 4294967295) wd_1264 dL_law_264 ?_
  refine G_land dL_law_267 ?_
  refine G_lor dL_law_268 ?_
  refine G_callEC (m_SP_feed (xs (i + 1)) (fdL (xs (i + 2)) (xs (i + 3))) M) (SP_feed_wp (xs (i + 1)) (fdL (xs (i + 2)) (xs (i + 3))) hw hc) hm cal_SP_feed ⟨Nat.le_of_ble_eq_true rfl, Nat.le_of_ble_eq_true rfl⟩ wd_377 hclX9 (by decide) rfl [.int (xs (i + 1)), .long (fdL (xs (i + 2)) (xs (i + 3)))] rfl rfl rfl (Nat.le_of_ble_eq_true rfl) dL_law_269 (fun M1 c1 m1 => ?_)
  refine G_aload_n dL_law_272 1 rfl ?_
  refine G_arg hx dL_law_273 dL_law_274 dL_law_275 dL_law_276 dL_law_277 (j := 1) rfl (by omega) ?_
  refine G_arg hx dL_law_278 dL_law_279 dL_law_280 dL_law_281 dL_law_282 (j := 2) rfl (by omega) ?_
  refine G_i2l dL_law_283 ?_
  refine G_bipush (v := 32) dL_law_284 rfl ?_
  refine G_lshl dL_law_286 ?_
  refine G_arg hx dL_law_287 dL_law_288 dL_law_289 dL_law_290 dL_law_291 (j := 3) rfl (by omega) ?_
  refine G_i2l dL_law_292 ?_
  refine G_ldc2 (v := 4294967295) wd_1264 dL_law_293 ?_
  refine G_land dL_law_296 ?_
  refine G_lor dL_law_297 ?_
  refine G_callEM (m_MD_feed (xs (i + 1)) (fdL (xs (i + 2)) (xs (i + 3))) M1) (MD_feed_wp (xs (i + 1)) (fdL (xs (i + 2)) (xs (i + 3))) hw m1) c1 cal_MD_feed ⟨Nat.le_of_ble_eq_true rfl, Nat.le_of_ble_eq_true rfl⟩ wd_1026 hclX10 (by decide) rfl [.int (xs (i + 1)), .long (fdL (xs (i + 2)) (xs (i + 3)))] rfl rfl rfl (Nat.le_of_ble_eq_true rfl) dL_law_298 (fun M2 c2 m2 => ?_)
  refine G_icmp_eqT 1063 dL_law_301 (by decide) rfl ?_
  exact go M2 _ (wf_feed (xs (i + 1)) (fdL (xs (i + 2)) (xs (i + 3))) hw) c2 m2
set_option maxHeartbeats 4000000 in
set_option maxRecDepth 100000 in
theorem lc_ties {X : Cx} {ad : Nat → Nat} {b Ls i : Nat} {xs : Nat → Int32} {M : Mem} {σ : Sg} (hx : LwX X b Ls xs) (hi : i + 5 ≤ Ls) (hw : WF σ) (hc : RC M σ) (hm : RM M σ) (go : ∀ (M' : Mem) (σ' : Sg), WF σ' → RC M' σ' → RM M' σ' → G X ad mi_law φ0 1063 (LL ad b i) [] M' (some ())) : G X ad mi_law φ0 306 (LL ad b i) [] M (some ()) := by
  refine G_aload_n dL_law_306 2 rfl ?_
  refine G_callEC (m_SP_ties M) (SP_ties_wp hw hc) hm cal_SP_ties ⟨Nat.le_of_ble_eq_true rfl, Nat.le_of_ble_eq_true rfl⟩ wd_386 hclX9 (by decide) rfl [] rfl rfl rfl (Nat.le_of_ble_eq_true rfl) dL_law_307 (fun M1 c1 m1 => ?_)
  refine G_aload_n dL_law_310 1 rfl ?_
  refine G_callEM (m_MD_ties M1) (MD_ties_wp hw m1) c1 cal_MD_ties ⟨Nat.le_of_ble_eq_true rfl, Nat.le_of_ble_eq_true rfl⟩ wd_1032 hclX10 (by decide) rfl [] rfl rfl rfl (Nat.le_of_ble_eq_true rfl) dL_law_311 (fun M2 c2 m2 => ?_)
  refine G_icmp_eqT 1063 dL_law_314 (by decide) rfl ?_
  exact go M2 _ (wf_ties hw) c2 m2
set_option maxHeartbeats 4000000 in
set_option maxRecDepth 100000 in
theorem lc_untie {X : Cx} {ad : Nat → Nat} {b Ls i : Nat} {xs : Nat → Int32} {M : Mem} {σ : Sg} (hx : LwX X b Ls xs) (hi : i + 5 ≤ Ls) (hw : WF σ) (hc : RC M σ) (hm : RM M σ) (go : ∀ (M' : Mem) (σ' : Sg), WF σ' → RC M' σ' → RM M' σ' → G X ad mi_law φ0 1063 (LL ad b i) [] M' (some ())) : G X ad mi_law φ0 319 (LL ad b i) [] M (some ()) := by
  refine G_aload_n dL_law_319 2 rfl ?_
  refine G_arg hx dL_law_320 dL_law_321 dL_law_322 dL_law_323 dL_law_324 (j := 1) rfl (by omega) ?_
  refine G_callEC (m_SP_untie (xs (i + 1)) M) (SP_untie_wp (xs (i + 1)) hw hc) hm cal_SP_untie ⟨Nat.le_of_ble_eq_true rfl, Nat.le_of_ble_eq_true rfl⟩ wd_453 hclX9 (by decide) rfl [.int (xs (i + 1))] rfl rfl rfl (Nat.le_of_ble_eq_true rfl) dL_law_325 (fun M1 c1 m1 => ?_)
  refine G_aload_n dL_law_328 1 rfl ?_
  refine G_arg hx dL_law_329 dL_law_330 dL_law_331 dL_law_332 dL_law_333 (j := 1) rfl (by omega) ?_
  refine G_callEM (m_MD_untie (xs (i + 1)) M1) (MD_untie_wp (xs (i + 1)) hw m1) c1 cal_MD_untie ⟨Nat.le_of_ble_eq_true rfl, Nat.le_of_ble_eq_true rfl⟩ wd_1065 hclX10 (by decide) rfl [.int (xs (i + 1))] rfl rfl rfl (Nat.le_of_ble_eq_true rfl) dL_law_334 (fun M2 c2 m2 => ?_)
  refine G_icmp_eqT 1063 dL_law_337 (by decide) rfl ?_
  exact go M2 _ (wf_untie (xs (i + 1)) hw) c2 m2
set_option maxHeartbeats 4000000 in
set_option maxRecDepth 100000 in
theorem lc_tie {X : Cx} {ad : Nat → Nat} {b Ls i : Nat} {xs : Nat → Int32} {M : Mem} {σ : Sg} (hx : LwX X b Ls xs) (hi : i + 5 ≤ Ls) (hw : WF σ) (hc : RC M σ) (hm : RM M σ) (go : ∀ (M' : Mem) (σ' : Sg), WF σ' → RC M' σ' → RM M' σ' → G X ad mi_law φ0 1063 (LL ad b i) [] M' (some ())) : G X ad mi_law φ0 342 (LL ad b i) [] M (some ()) := by
  refine G_aload_n dL_law_342 2 rfl ?_
  refine G_arg hx dL_law_343 dL_law_344 dL_law_345 dL_law_346 dL_law_347 (j := 1) rfl (by omega) ?_
  refine G_arg hx dL_law_348 dL_law_349 dL_law_350 dL_law_351 dL_law_352 (j := 2) rfl (by omega) ?_
  refine G_arg hx dL_law_353 dL_law_354 dL_law_355 dL_law_356 dL_law_357 (j := 3) rfl (by omega) ?_
  refine G_callEC (m_SP_tie (xs (i + 1)) (xs (i + 2)) (xs (i + 3)) M) (SP_tie_wp (xs (i + 1)) (xs (i + 2)) (xs (i + 3)) hw hc) hm cal_SP_tie ⟨Nat.le_of_ble_eq_true rfl, Nat.le_of_ble_eq_true rfl⟩ wd_461 hclX9 (by decide) rfl [.int (xs (i + 1)), .int (xs (i + 2)), .int (xs (i + 3))] rfl rfl rfl (Nat.le_of_ble_eq_true rfl) dL_law_358 (fun M1 c1 m1 => ?_)
  refine G_aload_n dL_law_361 1 rfl ?_
  refine G_arg hx dL_law_362 dL_law_363 dL_law_364 dL_law_365 dL_law_366 (j := 1) rfl (by omega) ?_
  refine G_arg hx dL_law_367 dL_law_368 dL_law_369 dL_law_370 dL_law_371 (j := 2) rfl (by omega) ?_
  refine G_arg hx dL_law_372 dL_law_373 dL_law_374 dL_law_375 dL_law_376 (j := 3) rfl (by omega) ?_
  refine G_callEM (m_MD_tie (xs (i + 1)) (xs (i + 2)) (xs (i + 3)) M1) (MD_tie_wp (xs (i + 1)) (xs (i + 2)) (xs (i + 3)) hw m1) c1 cal_MD_tie ⟨Nat.le_of_ble_eq_true rfl, Nat.le_of_ble_eq_true rfl⟩ wd_1069 hclX10 (by decide) rfl [.int (xs (i + 1)), .int (xs (i + 2)), .int (xs (i + 3))] rfl rfl rfl (Nat.le_of_ble_eq_true rfl) dL_law_377 (fun M2 c2 m2 => ?_)
  refine G_icmp_eqT 1063 dL_law_380 (by decide) rfl ?_
  exact go M2 _ (wf_tie (xs (i + 1)) (xs (i + 2)) (xs (i + 3)) hw) c2 m2
set_option maxHeartbeats 4000000 in
set_option maxRecDepth 100000 in
theorem lc_degree {X : Cx} {ad : Nat → Nat} {b Ls i : Nat} {xs : Nat → Int32} {M : Mem} {σ : Sg} (hx : LwX X b Ls xs) (hi : i + 5 ≤ Ls) (hw : WF σ) (hc : RC M σ) (hm : RM M σ) (go : ∀ (M' : Mem) (σ' : Sg), WF σ' → RC M' σ' → RM M' σ' → G X ad mi_law φ0 1063 (LL ad b i) [] M' (some ())) : G X ad mi_law φ0 385 (LL ad b i) [] M (some ()) := by
  by_cases hb : xs (i + 3) = 0
  · refine G_aload_n dL_law_385 2 rfl ?_
    refine G_arg hx dL_law_386 dL_law_387 dL_law_388 dL_law_389 dL_law_390 (j := 1) rfl (by omega) ?_
    refine G_arg hx dL_law_391 dL_law_392 dL_law_393 dL_law_394 dL_law_395 (j := 2) rfl (by omega) ?_
    refine G_arg hx dL_law_396 dL_law_397 dL_law_398 dL_law_399 dL_law_400 (j := 3) rfl (by omega) ?_
    refine G_if_eqT 408 dL_law_401 (by decide) hb ?_
    refine G_iconst (v := 0) dL_law_408 rfl ?_
    refine G_callEC (m_SP_degree (xs (i + 1)) (xs (i + 2)) 0 M) (show wp (SP_degree (xs (i + 1)) (xs (i + 2)) 0 M) _ from SP_degree_wp (xs (i + 1)) (xs (i + 2)) false hw hc) hm cal_SP_degree ⟨Nat.le_of_ble_eq_true rfl, Nat.le_of_ble_eq_true rfl⟩ wd_484 hclX9 (by decide) rfl [.int (xs (i + 1)), .int (xs (i + 2)), .int 0] rfl rfl rfl (Nat.le_of_ble_eq_true rfl) dL_law_409 (fun M1 c1 m1 => ?_)
    refine G_aload_n dL_law_412 1 rfl ?_
    refine G_arg hx dL_law_413 dL_law_414 dL_law_415 dL_law_416 dL_law_417 (j := 1) rfl (by omega) ?_
    refine G_arg hx dL_law_418 dL_law_419 dL_law_420 dL_law_421 dL_law_422 (j := 2) rfl (by omega) ?_
    refine G_arg hx dL_law_423 dL_law_424 dL_law_425 dL_law_426 dL_law_427 (j := 3) rfl (by omega) ?_
    refine G_if_eqT 435 dL_law_428 (by decide) hb ?_
    refine G_iconst (v := 0) dL_law_435 rfl ?_
    refine G_callEM (m_MD_degree (xs (i + 1)) (xs (i + 2)) 0 M1) (show wp (MD_degree (xs (i + 1)) (xs (i + 2)) 0 M1) _ from MD_degree_wp (xs (i + 1)) (xs (i + 2)) false hw m1) c1 cal_MD_degree ⟨Nat.le_of_ble_eq_true rfl, Nat.le_of_ble_eq_true rfl⟩ wd_1084 hclX10 (by decide) rfl [.int (xs (i + 1)), .int (xs (i + 2)), .int 0] rfl rfl rfl (Nat.le_of_ble_eq_true rfl) dL_law_436 (fun M2 c2 m2 => ?_)
    refine G_icmp_eqT 1063 dL_law_439 (by decide) rfl ?_
    exact go M2 _ (wf_degree (xs (i + 1)) (xs (i + 2)) false hw) c2 m2
  · refine G_aload_n dL_law_385 2 rfl ?_
    refine G_arg hx dL_law_386 dL_law_387 dL_law_388 dL_law_389 dL_law_390 (j := 1) rfl (by omega) ?_
    refine G_arg hx dL_law_391 dL_law_392 dL_law_393 dL_law_394 dL_law_395 (j := 2) rfl (by omega) ?_
    refine G_arg hx dL_law_396 dL_law_397 dL_law_398 dL_law_399 dL_law_400 (j := 3) rfl (by omega) ?_
    refine G_if_eqF 408 dL_law_401 (by decide) hb ?_
    refine G_iconst (v := 1) dL_law_404 rfl ?_
    refine G_goto 409 dL_law_405 (by decide) ?_
    refine G_callEC (m_SP_degree (xs (i + 1)) (xs (i + 2)) 1 M) (show wp (SP_degree (xs (i + 1)) (xs (i + 2)) 1 M) _ from SP_degree_wp (xs (i + 1)) (xs (i + 2)) true hw hc) hm cal_SP_degree ⟨Nat.le_of_ble_eq_true rfl, Nat.le_of_ble_eq_true rfl⟩ wd_484 hclX9 (by decide) rfl [.int (xs (i + 1)), .int (xs (i + 2)), .int 1] rfl rfl rfl (Nat.le_of_ble_eq_true rfl) dL_law_409 (fun M1 c1 m1 => ?_)
    refine G_aload_n dL_law_412 1 rfl ?_
    refine G_arg hx dL_law_413 dL_law_414 dL_law_415 dL_law_416 dL_law_417 (j := 1) rfl (by omega) ?_
    refine G_arg hx dL_law_418 dL_law_419 dL_law_420 dL_law_421 dL_law_422 (j := 2) rfl (by omega) ?_
    refine G_arg hx dL_law_423 dL_law_424 dL_law_425 dL_law_426 dL_law_427 (j := 3) rfl (by omega) ?_
    refine G_if_eqF 435 dL_law_428 (by decide) hb ?_
    refine G_iconst (v := 1) dL_law_431 rfl ?_
    refine G_goto 436 dL_law_432 (by decide) ?_
    refine G_callEM (m_MD_degree (xs (i + 1)) (xs (i + 2)) 1 M1) (show wp (MD_degree (xs (i + 1)) (xs (i + 2)) 1 M1) _ from MD_degree_wp (xs (i + 1)) (xs (i + 2)) true hw m1) c1 cal_MD_degree ⟨Nat.le_of_ble_eq_true rfl, Nat.le_of_ble_eq_true rfl⟩ wd_1084 hclX10 (by decide) rfl [.int (xs (i + 1)), .int (xs (i + 2)), .int 1] rfl rfl rfl (Nat.le_of_ble_eq_true rfl) dL_law_436 (fun M2 c2 m2 => ?_)
    refine G_icmp_eqT 1063 dL_law_439 (by decide) rfl ?_
    exact go M2 _ (wf_degree (xs (i + 1)) (xs (i + 2)) true hw) c2 m2
set_option maxHeartbeats 4000000 in
set_option maxRecDepth 100000 in
theorem lc_parting {X : Cx} {ad : Nat → Nat} {b Ls i : Nat} {xs : Nat → Int32} {M : Mem} {σ : Sg} (hx : LwX X b Ls xs) (hi : i + 5 ≤ Ls) (hw : WF σ) (hc : RC M σ) (hm : RM M σ) (go : ∀ (M' : Mem) (σ' : Sg), WF σ' → RC M' σ' → RM M' σ' → G X ad mi_law φ0 1063 (LL ad b i) [] M' (some ())) : G X ad mi_law φ0 444 (LL ad b i) [] M (some ()) := by
  refine G_aload_n dL_law_444 2 rfl ?_
  refine G_arg hx dL_law_445 dL_law_446 dL_law_447 dL_law_448 dL_law_449 (j := 1) rfl (by omega) ?_
  refine G_callEC (m_SP_parting (xs (i + 1)) M) (SP_parting_wp (xs (i + 1)) hw hc) hm cal_SP_parting ⟨Nat.le_of_ble_eq_true rfl, Nat.le_of_ble_eq_true rfl⟩ wd_497 hclX9 (by decide) rfl [.int (xs (i + 1))] rfl rfl rfl (Nat.le_of_ble_eq_true rfl) dL_law_450 (fun M1 c1 m1 => ?_)
  refine G_aload_n dL_law_453 1 rfl ?_
  refine G_arg hx dL_law_454 dL_law_455 dL_law_456 dL_law_457 dL_law_458 (j := 1) rfl (by omega) ?_
  refine G_callEM (m_MD_parting (xs (i + 1)) M1) (MD_parting_wp (xs (i + 1)) hw m1) c1 cal_MD_parting ⟨Nat.le_of_ble_eq_true rfl, Nat.le_of_ble_eq_true rfl⟩ wd_1092 hclX10 (by decide) rfl [.int (xs (i + 1))] rfl rfl rfl (Nat.le_of_ble_eq_true rfl) dL_law_459 (fun M2 c2 m2 => ?_)
  refine G_icmp_eqT 1063 dL_law_462 (by decide) rfl ?_
  exact go M2 _ (wf_parting (xs (i + 1)) hw) c2 m2
set_option maxHeartbeats 4000000 in
set_option maxRecDepth 100000 in
theorem lc_judge {X : Cx} {ad : Nat → Nat} {b Ls i : Nat} {xs : Nat → Int32} {M : Mem} {σ : Sg} (hx : LwX X b Ls xs) (hi : i + 5 ≤ Ls) (hw : WF σ) (hc : RC M σ) (hm : RM M σ) (go : ∀ (M' : Mem) (σ' : Sg), WF σ' → RC M' σ' → RM M' σ' → G X ad mi_law φ0 1063 (LL ad b i) [] M' (some ())) : G X ad mi_law φ0 467 (LL ad b i) [] M (some ()) := by
  refine G_aload_n dL_law_467 2 rfl ?_
  refine G_arg hx dL_law_468 dL_law_469 dL_law_470 dL_law_471 dL_law_472 (j := 1) rfl (by omega) ?_
  refine G_arg hx dL_law_473 dL_law_474 dL_law_475 dL_law_476 dL_law_477 (j := 2) rfl (by omega) ?_
  refine G_callEC (m_SP_judge (xs (i + 1)) (xs (i + 2)) M) (SP_judge_wp (xs (i + 1)) (xs (i + 2)) hw hc) hm cal_SP_judge ⟨Nat.le_of_ble_eq_true rfl, Nat.le_of_ble_eq_true rfl⟩ wd_514 hclX9 (by decide) rfl [.int (xs (i + 1)), .int (xs (i + 2))] rfl rfl rfl (Nat.le_of_ble_eq_true rfl) dL_law_478 (fun M1 c1 m1 => ?_)
  refine G_aload_n dL_law_481 1 rfl ?_
  refine G_arg hx dL_law_482 dL_law_483 dL_law_484 dL_law_485 dL_law_486 (j := 1) rfl (by omega) ?_
  refine G_arg hx dL_law_487 dL_law_488 dL_law_489 dL_law_490 dL_law_491 (j := 2) rfl (by omega) ?_
  refine G_callEM (m_MD_judge (xs (i + 1)) (xs (i + 2)) M1) (MD_judge_wp (xs (i + 1)) (xs (i + 2)) hw m1) c1 cal_MD_judge ⟨Nat.le_of_ble_eq_true rfl, Nat.le_of_ble_eq_true rfl⟩ wd_1100 hclX10 (by decide) rfl [.int (xs (i + 1)), .int (xs (i + 2))] rfl rfl rfl (Nat.le_of_ble_eq_true rfl) dL_law_492 (fun M2 c2 m2 => ?_)
  refine G_icmp_eqT 1063 dL_law_495 (by decide) rfl ?_
  exact go M2 _ (wf_judge (xs (i + 1)) (xs (i + 2)) hw) c2 m2
set_option maxHeartbeats 4000000 in
set_option maxRecDepth 100000 in
theorem lc_coarsest {X : Cx} {ad : Nat → Nat} {b Ls i : Nat} {xs : Nat → Int32} {M : Mem} {σ : Sg} (hx : LwX X b Ls xs) (hi : i + 5 ≤ Ls) (hw : WF σ) (hc : RC M σ) (hm : RM M σ) (go : ∀ (M' : Mem) (σ' : Sg), WF σ' → RC M' σ' → RM M' σ' → G X ad mi_law φ0 1063 (LL ad b i) [] M' (some ())) : G X ad mi_law φ0 500 (LL ad b i) [] M (some ()) := by
  refine G_aload_n dL_law_500 2 rfl ?_
  refine G_arg hx dL_law_501 dL_law_502 dL_law_503 dL_law_504 dL_law_505 (j := 1) rfl (by omega) ?_
  refine G_arg hx dL_law_506 dL_law_507 dL_law_508 dL_law_509 dL_law_510 (j := 2) rfl (by omega) ?_
  refine G_callEC (m_SP_coarsest (xs (i + 1)) (xs (i + 2)) M) (SP_coarsest_wp (xs (i + 1)) (xs (i + 2)) hw hc) hm cal_SP_coarsest ⟨Nat.le_of_ble_eq_true rfl, Nat.le_of_ble_eq_true rfl⟩ wd_562 hclX9 (by decide) rfl [.int (xs (i + 1)), .int (xs (i + 2))] rfl rfl rfl (Nat.le_of_ble_eq_true rfl) dL_law_511 (fun M1 c1 m1 => ?_)
  refine G_aload_n dL_law_514 1 rfl ?_
  refine G_arg hx dL_law_515 dL_law_516 dL_law_517 dL_law_518 dL_law_519 (j := 1) rfl (by omega) ?_
  refine G_arg hx dL_law_520 dL_law_521 dL_law_522 dL_law_523 dL_law_524 (j := 2) rfl (by omega) ?_
  refine G_callEM (m_MD_coarsest (xs (i + 1)) (xs (i + 2)) M1) (MD_coarsest_wp (xs (i + 1)) (xs (i + 2)) hw m1) c1 cal_MD_coarsest ⟨Nat.le_of_ble_eq_true rfl, Nat.le_of_ble_eq_true rfl⟩ wd_1130 hclX10 (by decide) rfl [.int (xs (i + 1)), .int (xs (i + 2))] rfl rfl rfl (Nat.le_of_ble_eq_true rfl) dL_law_525 (fun M2 c2 m2 => ?_)
  refine G_icmp_eqT 1063 dL_law_528 (by decide) rfl ?_
  exact go M2 _ (wf_coarsest (xs (i + 1)) (xs (i + 2)) hw) c2 m2
set_option maxHeartbeats 4000000 in
set_option maxRecDepth 100000 in
theorem lc_renamings {X : Cx} {ad : Nat → Nat} {b Ls i : Nat} {xs : Nat → Int32} {M : Mem} {σ : Sg} (hx : LwX X b Ls xs) (hi : i + 5 ≤ Ls) (hw : WF σ) (hc : RC M σ) (hm : RM M σ) (go : ∀ (M' : Mem) (σ' : Sg), WF σ' → RC M' σ' → RM M' σ' → G X ad mi_law φ0 1063 (LL ad b i) [] M' (some ())) : G X ad mi_law φ0 533 (LL ad b i) [] M (some ()) := by
  refine G_aload_n dL_law_533 2 rfl ?_
  refine G_callEC (m_SP_renamings M) (SP_renamings_wp hw hc) hm cal_SP_renamings ⟨Nat.le_of_ble_eq_true rfl, Nat.le_of_ble_eq_true rfl⟩ wd_590 hclX9 (by decide) rfl [] rfl rfl rfl (Nat.le_of_ble_eq_true rfl) dL_law_534 (fun M1 c1 m1 => ?_)
  refine G_aload_n dL_law_537 1 rfl ?_
  refine G_callEM (m_MD_renamings M1) (MD_renamings_wp hw m1) c1 cal_MD_renamings ⟨Nat.le_of_ble_eq_true rfl, Nat.le_of_ble_eq_true rfl⟩ wd_1142 hclX10 (by decide) rfl [] rfl rfl rfl (Nat.le_of_ble_eq_true rfl) dL_law_538 (fun M2 c2 m2 => ?_)
  refine G_icmp_eqT 1063 dL_law_541 (by decide) rfl ?_
  exact go M2 _ (wf_renamings hw) c2 m2
set_option maxHeartbeats 4000000 in
set_option maxRecDepth 100000 in
theorem lc_moves {X : Cx} {ad : Nat → Nat} {b Ls i : Nat} {xs : Nat → Int32} {M : Mem} {σ : Sg} (hx : LwX X b Ls xs) (hi : i + 5 ≤ Ls) (hw : WF σ) (hc : RC M σ) (hm : RM M σ) (go : ∀ (M' : Mem) (σ' : Sg), WF σ' → RC M' σ' → RM M' σ' → G X ad mi_law φ0 1063 (LL ad b i) [] M' (some ())) : G X ad mi_law φ0 546 (LL ad b i) [] M (some ()) := by
  refine G_aload_n dL_law_546 2 rfl ?_
  refine G_arg hx dL_law_547 dL_law_548 dL_law_549 dL_law_550 dL_law_551 (j := 1) rfl (by omega) ?_
  refine G_arg hx dL_law_552 dL_law_553 dL_law_554 dL_law_555 dL_law_556 (j := 2) rfl (by omega) ?_
  refine G_callEC (m_SP_moves (xs (i + 1)) (xs (i + 2)) M) (SP_moves_wp (xs (i + 1)) (xs (i + 2)) hw hc) hm cal_SP_moves ⟨Nat.le_of_ble_eq_true rfl, Nat.le_of_ble_eq_true rfl⟩ wd_633 hclX9 (by decide) rfl [.int (xs (i + 1)), .int (xs (i + 2))] rfl rfl rfl (Nat.le_of_ble_eq_true rfl) dL_law_557 (fun M1 c1 m1 => ?_)
  refine G_aload_n dL_law_560 1 rfl ?_
  refine G_arg hx dL_law_561 dL_law_562 dL_law_563 dL_law_564 dL_law_565 (j := 1) rfl (by omega) ?_
  refine G_arg hx dL_law_566 dL_law_567 dL_law_568 dL_law_569 dL_law_570 (j := 2) rfl (by omega) ?_
  refine G_callEM (m_MD_moves (xs (i + 1)) (xs (i + 2)) M1) (MD_moves_wp (xs (i + 1)) (xs (i + 2)) hw m1) c1 cal_MD_moves ⟨Nat.le_of_ble_eq_true rfl, Nat.le_of_ble_eq_true rfl⟩ wd_1162 hclX10 (by decide) rfl [.int (xs (i + 1)), .int (xs (i + 2))] rfl rfl rfl (Nat.le_of_ble_eq_true rfl) dL_law_571 (fun M2 c2 m2 => ?_)
  refine G_icmp_eqT 1063 dL_law_574 (by decide) rfl ?_
  exact go M2 _ (wf_moves (xs (i + 1)) (xs (i + 2)) hw) c2 m2
set_option maxHeartbeats 4000000 in
set_option maxRecDepth 100000 in
theorem lc_orbits {X : Cx} {ad : Nat → Nat} {b Ls i : Nat} {xs : Nat → Int32} {M : Mem} {σ : Sg} (hx : LwX X b Ls xs) (hi : i + 5 ≤ Ls) (hw : WF σ) (hc : RC M σ) (hm : RM M σ) (go : ∀ (M' : Mem) (σ' : Sg), WF σ' → RC M' σ' → RM M' σ' → G X ad mi_law φ0 1063 (LL ad b i) [] M' (some ())) : G X ad mi_law φ0 579 (LL ad b i) [] M (some ()) := by
  refine G_aload_n dL_law_579 2 rfl ?_
  refine G_callEC (m_SP_orbits M) (SP_orbits_wp hw hc) hm cal_SP_orbits ⟨Nat.le_of_ble_eq_true rfl, Nat.le_of_ble_eq_true rfl⟩ wd_638 hclX9 (by decide) rfl [] rfl rfl rfl (Nat.le_of_ble_eq_true rfl) dL_law_580 (fun M1 c1 m1 => ?_)
  refine G_aload_n dL_law_583 1 rfl ?_
  refine G_callEM (m_MD_orbits M1) (MD_orbits_wp hw m1) c1 cal_MD_orbits ⟨Nat.le_of_ble_eq_true rfl, Nat.le_of_ble_eq_true rfl⟩ wd_1166 hclX10 (by decide) rfl [] rfl rfl rfl (Nat.le_of_ble_eq_true rfl) dL_law_584 (fun M2 c2 m2 => ?_)
  refine G_icmp_eqT 1063 dL_law_587 (by decide) rfl ?_
  exact go M2 _ (wf_orbits hw) c2 m2
set_option maxHeartbeats 4000000 in
set_option maxRecDepth 100000 in
theorem lc_form {X : Cx} {ad : Nat → Nat} {b Ls i : Nat} {xs : Nat → Int32} {M : Mem} {σ : Sg} (hx : LwX X b Ls xs) (hi : i + 5 ≤ Ls) (hw : WF σ) (hc : RC M σ) (hm : RM M σ) (go : ∀ (M' : Mem) (σ' : Sg), WF σ' → RC M' σ' → RM M' σ' → G X ad mi_law φ0 1063 (LL ad b i) [] M' (some ())) : G X ad mi_law φ0 592 (LL ad b i) [] M (some ()) := by
  refine G_aload_n dL_law_592 2 rfl ?_
  refine G_callEC (m_SP_form M) (SP_form_wp hw hc) hm cal_SP_form ⟨Nat.le_of_ble_eq_true rfl, Nat.le_of_ble_eq_true rfl⟩ wd_648 hclX9 (by decide) rfl [] rfl rfl rfl (Nat.le_of_ble_eq_true rfl) dL_law_593 (fun M1 c1 m1 => ?_)
  refine G_aload_n dL_law_596 1 rfl ?_
  refine G_callEM (m_MD_form M1) (MD_form_wp hw m1) c1 cal_MD_form ⟨Nat.le_of_ble_eq_true rfl, Nat.le_of_ble_eq_true rfl⟩ wd_1170 hclX10 (by decide) rfl [] rfl rfl rfl (Nat.le_of_ble_eq_true rfl) dL_law_597 (fun M2 c2 m2 => ?_)
  refine G_icmp_eqT 1063 dL_law_600 (by decide) rfl ?_
  exact go M2 _ (wf_form hw) c2 m2
set_option maxHeartbeats 4000000 in
set_option maxRecDepth 100000 in
theorem lc_next {X : Cx} {ad : Nat → Nat} {b Ls i : Nat} {xs : Nat → Int32} {M : Mem} {σ : Sg} (hx : LwX X b Ls xs) (hi : i + 5 ≤ Ls) (hw : WF σ) (hc : RC M σ) (hm : RM M σ) (go : ∀ (M' : Mem) (σ' : Sg), WF σ' → RC M' σ' → RM M' σ' → G X ad mi_law φ0 1063 (LL ad b i) [] M' (some ())) : G X ad mi_law φ0 605 (LL ad b i) [] M (some ()) := by
  refine G_aload_n dL_law_605 2 rfl ?_
  refine G_arg hx dL_law_606 dL_law_607 dL_law_608 dL_law_609 dL_law_610 (j := 1) rfl (by omega) ?_
  refine G_arg hx dL_law_611 dL_law_612 dL_law_613 dL_law_614 dL_law_615 (j := 2) rfl (by omega) ?_
  refine G_callEC (m_SP_next (xs (i + 1)) (xs (i + 2)) M) (SP_next_wp (xs (i + 1)) (xs (i + 2)) hw hc) hm cal_SP_next ⟨Nat.le_of_ble_eq_true rfl, Nat.le_of_ble_eq_true rfl⟩ wd_698 hclX9 (by decide) rfl [.int (xs (i + 1)), .int (xs (i + 2))] rfl rfl rfl (Nat.le_of_ble_eq_true rfl) dL_law_616 (fun M1 c1 m1 => ?_)
  refine G_aload_n dL_law_619 1 rfl ?_
  refine G_arg hx dL_law_620 dL_law_621 dL_law_622 dL_law_623 dL_law_624 (j := 1) rfl (by omega) ?_
  refine G_arg hx dL_law_625 dL_law_626 dL_law_627 dL_law_628 dL_law_629 (j := 2) rfl (by omega) ?_
  refine G_callEM (m_MD_next (xs (i + 1)) (xs (i + 2)) M1) (MD_next_wp (xs (i + 1)) (xs (i + 2)) hw m1) c1 cal_MD_next ⟨Nat.le_of_ble_eq_true rfl, Nat.le_of_ble_eq_true rfl⟩ wd_1176 hclX10 (by decide) rfl [.int (xs (i + 1)), .int (xs (i + 2))] rfl rfl rfl (Nat.le_of_ble_eq_true rfl) dL_law_630 (fun M2 c2 m2 => ?_)
  refine G_icmp_eqT 1063 dL_law_633 (by decide) rfl ?_
  exact go M2 _ (wf_next (xs (i + 1)) (xs (i + 2)) hw) c2 m2
set_option maxHeartbeats 4000000 in
set_option maxRecDepth 100000 in
theorem lc_all {X : Cx} {ad : Nat → Nat} {b Ls i : Nat} {xs : Nat → Int32} {M : Mem} {σ : Sg} (hx : LwX X b Ls xs) (hi : i + 5 ≤ Ls) (hw : WF σ) (hc : RC M σ) (hm : RM M σ) (go : ∀ (M' : Mem) (σ' : Sg), WF σ' → RC M' σ' → RM M' σ' → G X ad mi_law φ0 1063 (LL ad b i) [] M' (some ())) : G X ad mi_law φ0 638 (LL ad b i) [] M (some ()) := by
  refine G_aload_n dL_law_638 2 rfl ?_
  refine G_arg hx dL_law_639 dL_law_640 dL_law_641 dL_law_642 dL_law_643 (j := 1) rfl (by omega) ?_
  refine G_callEC (m_SP_all (xs (i + 1)) M) (SP_all_wp (xs (i + 1)) hw hc) hm cal_SP_all ⟨Nat.le_of_ble_eq_true rfl, Nat.le_of_ble_eq_true rfl⟩ wd_718 hclX9 (by decide) rfl [.int (xs (i + 1))] rfl rfl rfl (Nat.le_of_ble_eq_true rfl) dL_law_644 (fun M1 c1 m1 => ?_)
  refine G_aload_n dL_law_647 1 rfl ?_
  refine G_arg hx dL_law_648 dL_law_649 dL_law_650 dL_law_651 dL_law_652 (j := 1) rfl (by omega) ?_
  refine G_callEM (m_MD_all (xs (i + 1)) M1) (MD_all_wp (xs (i + 1)) hw m1) c1 cal_MD_all ⟨Nat.le_of_ble_eq_true rfl, Nat.le_of_ble_eq_true rfl⟩ wd_1188 hclX10 (by decide) rfl [.int (xs (i + 1))] rfl rfl rfl (Nat.le_of_ble_eq_true rfl) dL_law_653 (fun M2 c2 m2 => ?_)
  refine G_icmp_eqT 1063 dL_law_656 (by decide) rfl ?_
  exact go M2 _ (wf_all (xs (i + 1)) hw) c2 m2
set_option maxHeartbeats 4000000 in
set_option maxRecDepth 100000 in
theorem lc_join {X : Cx} {ad : Nat → Nat} {b Ls i : Nat} {xs : Nat → Int32} {M : Mem} {σ : Sg} (hx : LwX X b Ls xs) (hi : i + 5 ≤ Ls) (hw : WF σ) (hc : RC M σ) (hm : RM M σ) (go : ∀ (M' : Mem) (σ' : Sg), WF σ' → RC M' σ' → RM M' σ' → G X ad mi_law φ0 1063 (LL ad b i) [] M' (some ())) : G X ad mi_law φ0 661 (LL ad b i) [] M (some ()) := by
  refine G_aload_n dL_law_661 2 rfl ?_
  refine G_arg hx dL_law_662 dL_law_663 dL_law_664 dL_law_665 dL_law_666 (j := 1) rfl (by omega) ?_
  refine G_arg hx dL_law_667 dL_law_668 dL_law_669 dL_law_670 dL_law_671 (j := 2) rfl (by omega) ?_
  refine G_callEC (m_SP_join (xs (i + 1)) (xs (i + 2)) M) (SP_join_wp (xs (i + 1)) (xs (i + 2)) hw hc) hm cal_SP_join ⟨Nat.le_of_ble_eq_true rfl, Nat.le_of_ble_eq_true rfl⟩ wd_722 hclX9 (by decide) rfl [.int (xs (i + 1)), .int (xs (i + 2))] rfl rfl rfl (Nat.le_of_ble_eq_true rfl) dL_law_672 (fun M1 c1 m1 => ?_)
  refine G_aload_n dL_law_675 1 rfl ?_
  refine G_arg hx dL_law_676 dL_law_677 dL_law_678 dL_law_679 dL_law_680 (j := 1) rfl (by omega) ?_
  refine G_arg hx dL_law_681 dL_law_682 dL_law_683 dL_law_684 dL_law_685 (j := 2) rfl (by omega) ?_
  refine G_callEM (m_MD_join (xs (i + 1)) (xs (i + 2)) M1) (MD_join_wp (xs (i + 1)) (xs (i + 2)) hw m1) c1 cal_MD_join ⟨Nat.le_of_ble_eq_true rfl, Nat.le_of_ble_eq_true rfl⟩ wd_1192 hclX10 (by decide) rfl [.int (xs (i + 1)), .int (xs (i + 2))] rfl rfl rfl (Nat.le_of_ble_eq_true rfl) dL_law_686 (fun M2 c2 m2 => ?_)
  refine G_icmp_eqT 1063 dL_law_689 (by decide) rfl ?_
  exact go M2 _ (wf_join (xs (i + 1)) (xs (i + 2)) hw) c2 m2
set_option maxHeartbeats 4000000 in
set_option maxRecDepth 100000 in
theorem lc_meet {X : Cx} {ad : Nat → Nat} {b Ls i : Nat} {xs : Nat → Int32} {M : Mem} {σ : Sg} (hx : LwX X b Ls xs) (hi : i + 5 ≤ Ls) (hw : WF σ) (hc : RC M σ) (hm : RM M σ) (go : ∀ (M' : Mem) (σ' : Sg), WF σ' → RC M' σ' → RM M' σ' → G X ad mi_law φ0 1063 (LL ad b i) [] M' (some ())) : G X ad mi_law φ0 694 (LL ad b i) [] M (some ()) := by
  refine G_aload_n dL_law_694 2 rfl ?_
  refine G_arg hx dL_law_695 dL_law_696 dL_law_697 dL_law_698 dL_law_699 (j := 1) rfl (by omega) ?_
  refine G_arg hx dL_law_700 dL_law_701 dL_law_702 dL_law_703 dL_law_704 (j := 2) rfl (by omega) ?_
  refine G_callEC (m_SP_meet (xs (i + 1)) (xs (i + 2)) M) (SP_meet_wp (xs (i + 1)) (xs (i + 2)) hw hc) hm cal_SP_meet ⟨Nat.le_of_ble_eq_true rfl, Nat.le_of_ble_eq_true rfl⟩ wd_745 hclX9 (by decide) rfl [.int (xs (i + 1)), .int (xs (i + 2))] rfl rfl rfl (Nat.le_of_ble_eq_true rfl) dL_law_705 (fun M1 c1 m1 => ?_)
  refine G_aload_n dL_law_708 1 rfl ?_
  refine G_arg hx dL_law_709 dL_law_710 dL_law_711 dL_law_712 dL_law_713 (j := 1) rfl (by omega) ?_
  refine G_arg hx dL_law_714 dL_law_715 dL_law_716 dL_law_717 dL_law_718 (j := 2) rfl (by omega) ?_
  refine G_callEM (m_MD_meet (xs (i + 1)) (xs (i + 2)) M1) (MD_meet_wp (xs (i + 1)) (xs (i + 2)) hw m1) c1 cal_MD_meet ⟨Nat.le_of_ble_eq_true rfl, Nat.le_of_ble_eq_true rfl⟩ wd_1196 hclX10 (by decide) rfl [.int (xs (i + 1)), .int (xs (i + 2))] rfl rfl rfl (Nat.le_of_ble_eq_true rfl) dL_law_719 (fun M2 c2 m2 => ?_)
  refine G_icmp_eqT 1063 dL_law_722 (by decide) rfl ?_
  exact go M2 _ (wf_meet (xs (i + 1)) (xs (i + 2)) hw) c2 m2
set_option maxHeartbeats 4000000 in
set_option maxRecDepth 100000 in
theorem lc_picture {X : Cx} {ad : Nat → Nat} {b Ls i : Nat} {xs : Nat → Int32} {M : Mem} {σ : Sg} (hx : LwX X b Ls xs) (hi : i + 5 ≤ Ls) (hw : WF σ) (hc : RC M σ) (hm : RM M σ) (go : ∀ (M' : Mem) (σ' : Sg), WF σ' → RC M' σ' → RM M' σ' → G X ad mi_law φ0 1063 (LL ad b i) [] M' (some ())) : G X ad mi_law φ0 727 (LL ad b i) [] M (some ()) := by
  refine G_aload_n dL_law_727 2 rfl ?_
  refine G_arg hx dL_law_728 dL_law_729 dL_law_730 dL_law_731 dL_law_732 (j := 1) rfl (by omega) ?_
  refine G_arg hx dL_law_733 dL_law_734 dL_law_735 dL_law_736 dL_law_737 (j := 2) rfl (by omega) ?_
  refine G_arg hx dL_law_738 dL_law_739 dL_law_740 dL_law_741 dL_law_742 (j := 3) rfl (by omega) ?_
  refine G_arg hx dL_law_743 dL_law_744 dL_law_745 dL_law_746 dL_law_747 (j := 4) rfl (by omega) ?_
  refine G_callEC (m_SP_picture (xs (i + 1)) (xs (i + 2)) (xs (i + 3)) (xs (i + 4)) M) (SP_picture_wp (xs (i + 1)) (xs (i + 2)) (xs (i + 3)) (xs (i + 4)) hw hc) hm cal_SP_picture ⟨Nat.le_of_ble_eq_true rfl, Nat.le_of_ble_eq_true rfl⟩ wd_750 hclX9 (by decide) rfl [.int (xs (i + 1)), .int (xs (i + 2)), .int (xs (i + 3)), .int (xs (i + 4))] rfl rfl rfl (Nat.le_of_ble_eq_true rfl) dL_law_748 (fun M1 c1 m1 => ?_)
  refine G_aload_n dL_law_751 1 rfl ?_
  refine G_arg hx dL_law_752 dL_law_753 dL_law_754 dL_law_755 dL_law_756 (j := 1) rfl (by omega) ?_
  refine G_arg hx dL_law_757 dL_law_758 dL_law_759 dL_law_760 dL_law_761 (j := 2) rfl (by omega) ?_
  refine G_arg hx dL_law_762 dL_law_763 dL_law_764 dL_law_765 dL_law_766 (j := 3) rfl (by omega) ?_
  refine G_arg hx dL_law_767 dL_law_768 dL_law_769 dL_law_770 dL_law_771 (j := 4) rfl (by omega) ?_
  refine G_callEM (m_MD_picture (xs (i + 1)) (xs (i + 2)) (xs (i + 3)) (xs (i + 4)) M1) (MD_picture_wp (xs (i + 1)) (xs (i + 2)) (xs (i + 3)) (xs (i + 4)) hw m1) c1 cal_MD_picture ⟨Nat.le_of_ble_eq_true rfl, Nat.le_of_ble_eq_true rfl⟩ wd_1200 hclX10 (by decide) rfl [.int (xs (i + 1)), .int (xs (i + 2)), .int (xs (i + 3)), .int (xs (i + 4))] rfl rfl rfl (Nat.le_of_ble_eq_true rfl) dL_law_772 (fun M2 c2 m2 => ?_)
  refine G_icmp_eqT 1063 dL_law_775 (by decide) rfl ?_
  exact go M2 _ (wf_picture (xs (i + 1)) (xs (i + 2)) (xs (i + 3)) (xs (i + 4)) hw) c2 m2
set_option maxHeartbeats 4000000 in
set_option maxRecDepth 100000 in
theorem lc_wrong {X : Cx} {ad : Nat → Nat} {b Ls i : Nat} {xs : Nat → Int32} {M : Mem} {σ : Sg} (hx : LwX X b Ls xs) (hi : i + 5 ≤ Ls) (hw : WF σ) (hc : RC M σ) (hm : RM M σ) (go : ∀ (M' : Mem) (σ' : Sg), WF σ' → RC M' σ' → RM M' σ' → G X ad mi_law φ0 1063 (LL ad b i) [] M' (some ())) : G X ad mi_law φ0 780 (LL ad b i) [] M (some ()) := by
  refine G_aload_n dL_law_780 2 rfl ?_
  refine G_arg hx dL_law_781 dL_law_782 dL_law_783 dL_law_784 dL_law_785 (j := 1) rfl (by omega) ?_
  refine G_callEC (m_SP_wrong (xs (i + 1)) M) (SP_wrong_wp (xs (i + 1)) hw hc) hm cal_SP_wrong ⟨Nat.le_of_ble_eq_true rfl, Nat.le_of_ble_eq_true rfl⟩ wd_776 hclX9 (by decide) rfl [.int (xs (i + 1))] rfl rfl rfl (Nat.le_of_ble_eq_true rfl) dL_law_786 (fun M1 c1 m1 => ?_)
  refine G_aload_n dL_law_789 1 rfl ?_
  refine G_arg hx dL_law_790 dL_law_791 dL_law_792 dL_law_793 dL_law_794 (j := 1) rfl (by omega) ?_
  refine G_callEM (m_MD_wrong (xs (i + 1)) M1) (MD_wrong_wp (xs (i + 1)) hw m1) c1 cal_MD_wrong ⟨Nat.le_of_ble_eq_true rfl, Nat.le_of_ble_eq_true rfl⟩ wd_1204 hclX10 (by decide) rfl [.int (xs (i + 1))] rfl rfl rfl (Nat.le_of_ble_eq_true rfl) dL_law_795 (fun M2 c2 m2 => ?_)
  refine G_icmp_eqT 1063 dL_law_798 (by decide) rfl ?_
  exact go M2 _ (wf_wrong (xs (i + 1)) hw) c2 m2
set_option maxHeartbeats 4000000 in
set_option maxRecDepth 100000 in
theorem lc_least {X : Cx} {ad : Nat → Nat} {b Ls i : Nat} {xs : Nat → Int32} {M : Mem} {σ : Sg} (hx : LwX X b Ls xs) (hi : i + 5 ≤ Ls) (hw : WF σ) (hc : RC M σ) (hm : RM M σ) (go : ∀ (M' : Mem) (σ' : Sg), WF σ' → RC M' σ' → RM M' σ' → G X ad mi_law φ0 1063 (LL ad b i) [] M' (some ())) : G X ad mi_law φ0 803 (LL ad b i) [] M (some ()) := by
  refine G_aload_n dL_law_803 2 rfl ?_
  refine G_arg hx dL_law_804 dL_law_805 dL_law_806 dL_law_807 dL_law_808 (j := 1) rfl (by omega) ?_
  refine G_arg hx dL_law_809 dL_law_810 dL_law_811 dL_law_812 dL_law_813 (j := 2) rfl (by omega) ?_
  refine G_callEC (m_SP_least (xs (i + 1)) (xs (i + 2)) M) (SP_least_wp (xs (i + 1)) (xs (i + 2)) hw hc) hm cal_SP_least ⟨Nat.le_of_ble_eq_true rfl, Nat.le_of_ble_eq_true rfl⟩ wd_796 hclX9 (by decide) rfl [.int (xs (i + 1)), .int (xs (i + 2))] rfl rfl rfl (Nat.le_of_ble_eq_true rfl) dL_law_814 (fun M1 c1 m1 => ?_)
  refine G_aload_n dL_law_817 1 rfl ?_
  refine G_arg hx dL_law_818 dL_law_819 dL_law_820 dL_law_821 dL_law_822 (j := 1) rfl (by omega) ?_
  refine G_arg hx dL_law_823 dL_law_824 dL_law_825 dL_law_826 dL_law_827 (j := 2) rfl (by omega) ?_
  refine G_callEM (m_MD_least (xs (i + 1)) (xs (i + 2)) M1) (MD_least_wp (xs (i + 1)) (xs (i + 2)) hw m1) c1 cal_MD_least ⟨Nat.le_of_ble_eq_true rfl, Nat.le_of_ble_eq_true rfl⟩ wd_1212 hclX10 (by decide) rfl [.int (xs (i + 1)), .int (xs (i + 2))] rfl rfl rfl (Nat.le_of_ble_eq_true rfl) dL_law_828 (fun M2 c2 m2 => ?_)
  refine G_icmp_eqT 1063 dL_law_831 (by decide) rfl ?_
  exact go M2 _ (wf_least (xs (i + 1)) (xs (i + 2)) hw) c2 m2
set_option maxHeartbeats 4000000 in
set_option maxRecDepth 100000 in
theorem lc_spoils {X : Cx} {ad : Nat → Nat} {b Ls i : Nat} {xs : Nat → Int32} {M : Mem} {σ : Sg} (hx : LwX X b Ls xs) (hi : i + 5 ≤ Ls) (hw : WF σ) (hc : RC M σ) (hm : RM M σ) (go : ∀ (M' : Mem) (σ' : Sg), WF σ' → RC M' σ' → RM M' σ' → G X ad mi_law φ0 1063 (LL ad b i) [] M' (some ())) : G X ad mi_law φ0 836 (LL ad b i) [] M (some ()) := by
  refine G_aload_n dL_law_836 2 rfl ?_
  refine G_arg hx dL_law_837 dL_law_838 dL_law_839 dL_law_840 dL_law_841 (j := 1) rfl (by omega) ?_
  refine G_arg hx dL_law_842 dL_law_843 dL_law_844 dL_law_845 dL_law_846 (j := 2) rfl (by omega) ?_
  refine G_callEC (m_SP_spoils (xs (i + 1)) (xs (i + 2)) M) (SP_spoils_wp (xs (i + 1)) (xs (i + 2)) hw hc) hm cal_SP_spoils ⟨Nat.le_of_ble_eq_true rfl, Nat.le_of_ble_eq_true rfl⟩ wd_808 hclX9 (by decide) rfl [.int (xs (i + 1)), .int (xs (i + 2))] rfl rfl rfl (Nat.le_of_ble_eq_true rfl) dL_law_847 (fun M1 c1 m1 => ?_)
  refine G_aload_n dL_law_850 1 rfl ?_
  refine G_arg hx dL_law_851 dL_law_852 dL_law_853 dL_law_854 dL_law_855 (j := 1) rfl (by omega) ?_
  refine G_arg hx dL_law_856 dL_law_857 dL_law_858 dL_law_859 dL_law_860 (j := 2) rfl (by omega) ?_
  refine G_callEM (m_MD_spoils (xs (i + 1)) (xs (i + 2)) M1) (MD_spoils_wp (xs (i + 1)) (xs (i + 2)) hw m1) c1 cal_MD_spoils ⟨Nat.le_of_ble_eq_true rfl, Nat.le_of_ble_eq_true rfl⟩ wd_1221 hclX10 (by decide) rfl [.int (xs (i + 1)), .int (xs (i + 2))] rfl rfl rfl (Nat.le_of_ble_eq_true rfl) dL_law_861 (fun M2 c2 m2 => ?_)
  refine G_icmp_eqT 1063 dL_law_864 (by decide) rfl ?_
  exact go M2 _ (wf_spoils (xs (i + 1)) (xs (i + 2)) hw) c2 m2
set_option maxHeartbeats 4000000 in
set_option maxRecDepth 100000 in
theorem lc_newcomer {X : Cx} {ad : Nat → Nat} {b Ls i : Nat} {xs : Nat → Int32} {M : Mem} {σ : Sg} (hx : LwX X b Ls xs) (hi : i + 5 ≤ Ls) (hw : WF σ) (hc : RC M σ) (hm : RM M σ) (go : ∀ (M' : Mem) (σ' : Sg), WF σ' → RC M' σ' → RM M' σ' → G X ad mi_law φ0 1063 (LL ad b i) [] M' (some ())) : G X ad mi_law φ0 869 (LL ad b i) [] M (some ()) := by
  by_cases hb : xs (i + 3) = 0
  · refine G_aload_n dL_law_869 2 rfl ?_
    refine G_arg hx dL_law_870 dL_law_871 dL_law_872 dL_law_873 dL_law_874 (j := 1) rfl (by omega) ?_
    refine G_arg hx dL_law_875 dL_law_876 dL_law_877 dL_law_878 dL_law_879 (j := 2) rfl (by omega) ?_
    refine G_arg hx dL_law_880 dL_law_881 dL_law_882 dL_law_883 dL_law_884 (j := 3) rfl (by omega) ?_
    refine G_if_eqT 892 dL_law_885 (by decide) hb ?_
    refine G_iconst (v := 0) dL_law_892 rfl ?_
    refine G_callEC (m_SP_newcomer (xs (i + 1)) (xs (i + 2)) 0 M) (show wp (SP_newcomer (xs (i + 1)) (xs (i + 2)) 0 M) _ from SP_newcomer_wp (xs (i + 1)) (xs (i + 2)) false hw hc) hm cal_SP_newcomer ⟨Nat.le_of_ble_eq_true rfl, Nat.le_of_ble_eq_true rfl⟩ wd_821 hclX9 (by decide) rfl [.int (xs (i + 1)), .int (xs (i + 2)), .int 0] rfl rfl rfl (Nat.le_of_ble_eq_true rfl) dL_law_893 (fun M1 c1 m1 => ?_)
    refine G_aload_n dL_law_896 1 rfl ?_
    refine G_arg hx dL_law_897 dL_law_898 dL_law_899 dL_law_900 dL_law_901 (j := 1) rfl (by omega) ?_
    refine G_arg hx dL_law_902 dL_law_903 dL_law_904 dL_law_905 dL_law_906 (j := 2) rfl (by omega) ?_
    refine G_arg hx dL_law_907 dL_law_908 dL_law_909 dL_law_910 dL_law_911 (j := 3) rfl (by omega) ?_
    refine G_if_eqT 919 dL_law_912 (by decide) hb ?_
    refine G_iconst (v := 0) dL_law_919 rfl ?_
    refine G_callEM (m_MD_newcomer (xs (i + 1)) (xs (i + 2)) 0 M1) (show wp (MD_newcomer (xs (i + 1)) (xs (i + 2)) 0 M1) _ from MD_newcomer_wp (xs (i + 1)) (xs (i + 2)) false hw m1) c1 cal_MD_newcomer ⟨Nat.le_of_ble_eq_true rfl, Nat.le_of_ble_eq_true rfl⟩ wd_1230 hclX10 (by decide) rfl [.int (xs (i + 1)), .int (xs (i + 2)), .int 0] rfl rfl rfl (Nat.le_of_ble_eq_true rfl) dL_law_920 (fun M2 c2 m2 => ?_)
    refine G_icmp_eqT 1063 dL_law_923 (by decide) rfl ?_
    exact go M2 _ (wf_newcomer (xs (i + 1)) (xs (i + 2)) false hw) c2 m2
  · refine G_aload_n dL_law_869 2 rfl ?_
    refine G_arg hx dL_law_870 dL_law_871 dL_law_872 dL_law_873 dL_law_874 (j := 1) rfl (by omega) ?_
    refine G_arg hx dL_law_875 dL_law_876 dL_law_877 dL_law_878 dL_law_879 (j := 2) rfl (by omega) ?_
    refine G_arg hx dL_law_880 dL_law_881 dL_law_882 dL_law_883 dL_law_884 (j := 3) rfl (by omega) ?_
    refine G_if_eqF 892 dL_law_885 (by decide) hb ?_
    refine G_iconst (v := 1) dL_law_888 rfl ?_
    refine G_goto 893 dL_law_889 (by decide) ?_
    refine G_callEC (m_SP_newcomer (xs (i + 1)) (xs (i + 2)) 1 M) (show wp (SP_newcomer (xs (i + 1)) (xs (i + 2)) 1 M) _ from SP_newcomer_wp (xs (i + 1)) (xs (i + 2)) true hw hc) hm cal_SP_newcomer ⟨Nat.le_of_ble_eq_true rfl, Nat.le_of_ble_eq_true rfl⟩ wd_821 hclX9 (by decide) rfl [.int (xs (i + 1)), .int (xs (i + 2)), .int 1] rfl rfl rfl (Nat.le_of_ble_eq_true rfl) dL_law_893 (fun M1 c1 m1 => ?_)
    refine G_aload_n dL_law_896 1 rfl ?_
    refine G_arg hx dL_law_897 dL_law_898 dL_law_899 dL_law_900 dL_law_901 (j := 1) rfl (by omega) ?_
    refine G_arg hx dL_law_902 dL_law_903 dL_law_904 dL_law_905 dL_law_906 (j := 2) rfl (by omega) ?_
    refine G_arg hx dL_law_907 dL_law_908 dL_law_909 dL_law_910 dL_law_911 (j := 3) rfl (by omega) ?_
    refine G_if_eqF 919 dL_law_912 (by decide) hb ?_
    refine G_iconst (v := 1) dL_law_915 rfl ?_
    refine G_goto 920 dL_law_916 (by decide) ?_
    refine G_callEM (m_MD_newcomer (xs (i + 1)) (xs (i + 2)) 1 M1) (show wp (MD_newcomer (xs (i + 1)) (xs (i + 2)) 1 M1) _ from MD_newcomer_wp (xs (i + 1)) (xs (i + 2)) true hw m1) c1 cal_MD_newcomer ⟨Nat.le_of_ble_eq_true rfl, Nat.le_of_ble_eq_true rfl⟩ wd_1230 hclX10 (by decide) rfl [.int (xs (i + 1)), .int (xs (i + 2)), .int 1] rfl rfl rfl (Nat.le_of_ble_eq_true rfl) dL_law_920 (fun M2 c2 m2 => ?_)
    refine G_icmp_eqT 1063 dL_law_923 (by decide) rfl ?_
    exact go M2 _ (wf_newcomer (xs (i + 1)) (xs (i + 2)) true hw) c2 m2
set_option maxHeartbeats 4000000 in
set_option maxRecDepth 100000 in
theorem lc_fits {X : Cx} {ad : Nat → Nat} {b Ls i : Nat} {xs : Nat → Int32} {M : Mem} {σ : Sg} (hx : LwX X b Ls xs) (hi : i + 5 ≤ Ls) (hw : WF σ) (hc : RC M σ) (hm : RM M σ) (go : ∀ (M' : Mem) (σ' : Sg), WF σ' → RC M' σ' → RM M' σ' → G X ad mi_law φ0 1063 (LL ad b i) [] M' (some ())) : G X ad mi_law φ0 928 (LL ad b i) [] M (some ()) := by
  refine G_aload_n dL_law_928 2 rfl ?_
  refine G_arg hx dL_law_929 dL_law_930 dL_law_931 dL_law_932 dL_law_933 (j := 1) rfl (by omega) ?_
  refine G_callEC (m_SP_fits (xs (i + 1)) M) (SP_fits_wp (xs (i + 1)) hw hc) hm cal_SP_fits ⟨Nat.le_of_ble_eq_true rfl, Nat.le_of_ble_eq_true rfl⟩ wd_830 hclX9 (by decide) rfl [.int (xs (i + 1))] rfl rfl rfl (Nat.le_of_ble_eq_true rfl) dL_law_934 (fun M1 c1 m1 => ?_)
  refine G_aload_n dL_law_937 1 rfl ?_
  refine G_arg hx dL_law_938 dL_law_939 dL_law_940 dL_law_941 dL_law_942 (j := 1) rfl (by omega) ?_
  refine G_callEM (m_MD_fits (xs (i + 1)) M1) (MD_fits_wp (xs (i + 1)) hw m1) c1 cal_MD_fits ⟨Nat.le_of_ble_eq_true rfl, Nat.le_of_ble_eq_true rfl⟩ wd_1234 hclX10 (by decide) rfl [.int (xs (i + 1))] rfl rfl rfl (Nat.le_of_ble_eq_true rfl) dL_law_943 (fun M2 c2 m2 => ?_)
  refine G_icmp_eqT 1063 dL_law_946 (by decide) rfl ?_
  exact go M2 _ (wf_fits (xs (i + 1)) hw) c2 m2
set_option maxHeartbeats 4000000 in
set_option maxRecDepth 100000 in
theorem lc_gone {X : Cx} {ad : Nat → Nat} {b Ls i : Nat} {xs : Nat → Int32} {M : Mem} {σ : Sg} (hx : LwX X b Ls xs) (hi : i + 5 ≤ Ls) (hw : WF σ) (hc : RC M σ) (hm : RM M σ) (go : ∀ (M' : Mem) (σ' : Sg), WF σ' → RC M' σ' → RM M' σ' → G X ad mi_law φ0 1063 (LL ad b i) [] M' (some ())) : G X ad mi_law φ0 951 (LL ad b i) [] M (some ()) := by
  refine G_aload_n dL_law_951 2 rfl ?_
  refine G_callEC (m_SP_gone M) (SP_gone_wp hc) hm cal_SP_gone ⟨Nat.le_of_ble_eq_true rfl, Nat.le_of_ble_eq_true rfl⟩ wd_845 hclX9 (by decide) rfl [] rfl rfl rfl (Nat.le_of_ble_eq_true rfl) dL_law_952 (fun M1 c1 m1 => ?_)
  refine G_aload_n dL_law_955 1 rfl ?_
  refine G_callEM (m_MD_gone M1) (MD_gone_wp m1) c1 cal_MD_gone ⟨Nat.le_of_ble_eq_true rfl, Nat.le_of_ble_eq_true rfl⟩ wd_1242 hclX10 (by decide) rfl [] rfl rfl rfl (Nat.le_of_ble_eq_true rfl) dL_law_956 (fun M2 c2 m2 => ?_)
  refine G_icmp_eqT 1063 dL_law_959 (by decide) rfl ?_
  exact go M2 _ (wf_gone hw) c2 m2
set_option maxHeartbeats 4000000 in
set_option maxRecDepth 100000 in
theorem lc_shift {X : Cx} {ad : Nat → Nat} {b Ls i : Nat} {xs : Nat → Int32} {M : Mem} {σ : Sg} (hx : LwX X b Ls xs) (hi : i + 5 ≤ Ls) (hw : WF σ) (hc : RC M σ) (hm : RM M σ) (go : ∀ (M' : Mem) (σ' : Sg), WF σ' → RC M' σ' → RM M' σ' → G X ad mi_law φ0 1063 (LL ad b i) [] M' (some ())) : G X ad mi_law φ0 964 (LL ad b i) [] M (some ()) := by
  refine G_aload_n dL_law_964 2 rfl ?_
  refine G_arg hx dL_law_965 dL_law_966 dL_law_967 dL_law_968 dL_law_969 (j := 1) rfl (by omega) ?_
  refine G_arg hx dL_law_970 dL_law_971 dL_law_972 dL_law_973 dL_law_974 (j := 2) rfl (by omega) ?_
  refine G_arg hx dL_law_975 dL_law_976 dL_law_977 dL_law_978 dL_law_979 (j := 3) rfl (by omega) ?_
  refine G_callEC (m_SP_shift (xs (i + 1)) (xs (i + 2)) (xs (i + 3)) M) (SP_shift_wp (xs (i + 1)) (xs (i + 2)) (xs (i + 3)) hw hc) hm cal_SP_shift ⟨Nat.le_of_ble_eq_true rfl, Nat.le_of_ble_eq_true rfl⟩ wd_849 hclX9 (by decide) rfl [.int (xs (i + 1)), .int (xs (i + 2)), .int (xs (i + 3))] rfl rfl rfl (Nat.le_of_ble_eq_true rfl) dL_law_980 (fun M1 c1 m1 => ?_)
  refine G_aload_n dL_law_983 1 rfl ?_
  refine G_arg hx dL_law_984 dL_law_985 dL_law_986 dL_law_987 dL_law_988 (j := 1) rfl (by omega) ?_
  refine G_arg hx dL_law_989 dL_law_990 dL_law_991 dL_law_992 dL_law_993 (j := 2) rfl (by omega) ?_
  refine G_arg hx dL_law_994 dL_law_995 dL_law_996 dL_law_997 dL_law_998 (j := 3) rfl (by omega) ?_
  refine G_callEM (m_MD_shift (xs (i + 1)) (xs (i + 2)) (xs (i + 3)) M1) (MD_shift_wp (xs (i + 1)) (xs (i + 2)) (xs (i + 3)) hw m1) c1 cal_MD_shift ⟨Nat.le_of_ble_eq_true rfl, Nat.le_of_ble_eq_true rfl⟩ wd_1246 hclX10 (by decide) rfl [.int (xs (i + 1)), .int (xs (i + 2)), .int (xs (i + 3))] rfl rfl rfl (Nat.le_of_ble_eq_true rfl) dL_law_999 (fun M2 c2 m2 => ?_)
  refine G_icmp_eqT 1063 dL_law_1002 (by decide) rfl ?_
  exact go M2 _ (wf_shift (xs (i + 1)) (xs (i + 2)) (xs (i + 3)) hw) c2 m2
set_option maxHeartbeats 4000000 in
set_option maxRecDepth 100000 in
theorem lc_stays {X : Cx} {ad : Nat → Nat} {b Ls i : Nat} {xs : Nat → Int32} {M : Mem} {σ : Sg} (hx : LwX X b Ls xs) (hi : i + 5 ≤ Ls) (hw : WF σ) (hc : RC M σ) (hm : RM M σ) (go : ∀ (M' : Mem) (σ' : Sg), WF σ' → RC M' σ' → RM M' σ' → G X ad mi_law φ0 1063 (LL ad b i) [] M' (some ())) : G X ad mi_law φ0 1007 (LL ad b i) [] M (some ()) := by
  refine G_aload_n dL_law_1007 2 rfl ?_
  refine G_arg hx dL_law_1008 dL_law_1009 dL_law_1010 dL_law_1011 dL_law_1012 (j := 1) rfl (by omega) ?_
  refine G_arg hx dL_law_1013 dL_law_1014 dL_law_1015 dL_law_1016 dL_law_1017 (j := 2) rfl (by omega) ?_
  refine G_callEC (m_SP_stays (xs (i + 1)) (xs (i + 2)) M) (SP_stays_wp (xs (i + 1)) (xs (i + 2)) hw hc) hm cal_SP_stays ⟨Nat.le_of_ble_eq_true rfl, Nat.le_of_ble_eq_true rfl⟩ wd_872 hclX9 (by decide) rfl [.int (xs (i + 1)), .int (xs (i + 2))] rfl rfl rfl (Nat.le_of_ble_eq_true rfl) dL_law_1018 (fun M1 c1 m1 => ?_)
  refine G_aload_n dL_law_1021 1 rfl ?_
  refine G_arg hx dL_law_1022 dL_law_1023 dL_law_1024 dL_law_1025 dL_law_1026 (j := 1) rfl (by omega) ?_
  refine G_arg hx dL_law_1027 dL_law_1028 dL_law_1029 dL_law_1030 dL_law_1031 (j := 2) rfl (by omega) ?_
  refine G_callEM (m_MD_stays (xs (i + 1)) (xs (i + 2)) M1) (MD_stays_wp (xs (i + 1)) (xs (i + 2)) hw m1) c1 cal_MD_stays ⟨Nat.le_of_ble_eq_true rfl, Nat.le_of_ble_eq_true rfl⟩ wd_1254 hclX10 (by decide) rfl [.int (xs (i + 1)), .int (xs (i + 2))] rfl rfl rfl (Nat.le_of_ble_eq_true rfl) dL_law_1032 (fun M2 c2 m2 => ?_)
  refine G_icmp_eqT 1063 dL_law_1035 (by decide) rfl ?_
  exact go M2 _ (wf_stays (xs (i + 1)) (xs (i + 2)) hw) c2 m2
set_option maxHeartbeats 4000000 in
set_option maxRecDepth 100000 in
theorem lc_count {X : Cx} {ad : Nat → Nat} {b Ls i : Nat} {xs : Nat → Int32} {M : Mem} {σ : Sg} (hx : LwX X b Ls xs) (hi : i + 5 ≤ Ls) (hw : WF σ) (hc : RC M σ) (hm : RM M σ) (go : ∀ (M' : Mem) (σ' : Sg), WF σ' → RC M' σ' → RM M' σ' → G X ad mi_law φ0 1063 (LL ad b i) [] M' (some ())) : G X ad mi_law φ0 1040 (LL ad b i) [] M (some ()) := by
  refine G_aload_n dL_law_1040 2 rfl ?_
  refine G_arg hx dL_law_1041 dL_law_1042 dL_law_1043 dL_law_1044 dL_law_1045 (j := 1) rfl (by omega) ?_
  refine G_callEC (m_SP_count (xs (i + 1)) M) (SP_count_wp (xs (i + 1)) hw hc) hm cal_SP_count ⟨Nat.le_of_ble_eq_true rfl, Nat.le_of_ble_eq_true rfl⟩ wd_881 hclX9 (by decide) rfl [.int (xs (i + 1))] rfl rfl rfl (Nat.le_of_ble_eq_true rfl) dL_law_1046 (fun M1 c1 m1 => ?_)
  refine G_aload_n dL_law_1049 1 rfl ?_
  refine G_arg hx dL_law_1050 dL_law_1051 dL_law_1052 dL_law_1053 dL_law_1054 (j := 1) rfl (by omega) ?_
  refine G_callEM (m_MD_count (xs (i + 1)) M1) (MD_count_wp (xs (i + 1)) hw m1) c1 cal_MD_count ⟨Nat.le_of_ble_eq_true rfl, Nat.le_of_ble_eq_true rfl⟩ wd_1258 hclX10 (by decide) rfl [.int (xs (i + 1))] rfl rfl rfl (Nat.le_of_ble_eq_true rfl) dL_law_1055 (fun M2 c2 m2 => ?_)
  refine G_icmp_eqT 1063 dL_law_1058 (by decide) rfl ?_
  exact go M2 _ (wf_count (xs (i + 1)) hw) c2 m2
