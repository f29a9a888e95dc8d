/-! printed by wip/whole/ctor.py: the constructors -/
theorem wd_128 : Cond.instanceMethod yX9_init ∈ TB := TB_in (List.mem_of_getElem? (i := 128) (by decide +kernel)) rfl
theorem wd_129 : Cond.code yX9_init cX9_init 1 none ∈ TB := TB_in (List.mem_of_getElem? (i := 129) (by decide +kernel)) rfl
theorem wd_130 : Cond.methodLink RX9 3 Lib.objectInit ∈ TB := TB_in (List.mem_of_getElem? (i := 130) (by decide +kernel)) rfl
theorem wd_131 : Cond.instanceMethod Lib.objectInit ∈ TB := TB_in (List.mem_of_getElem? (i := 131) (by decide +kernel)) rfl
theorem wd_132 : Cond.code Lib.objectInit ⟨#[0xb1]⟩ 1 none ∈ TB := TB_in (List.mem_of_getElem? (i := 132) (by decide +kernel)) rfl
theorem wd_133 : Cond.classLink RX9 9 RX7 ∈ TB := TB_in (List.mem_of_getElem? (i := 133) (by decide +kernel)) rfl
theorem wd_134 : Cond.instantiable RX7 3 ∈ TB := TB_in (List.mem_of_getElem? (i := 134) (by decide +kernel)) rfl
theorem wn_135 : Cond.methodLinkNest RX9 11 yX7_init RX9 ∈ NW := NW_in (List.mem_of_getElem? (i := 135) (by decide +kernel)) rfl
theorem wd_136 : Cond.instanceMethod yX7_init ∈ TB := TB_in (List.mem_of_getElem? (i := 136) (by decide +kernel)) rfl
theorem wd_137 : Cond.code yX7_init cX7_init 1 none ∈ TB := TB_in (List.mem_of_getElem? (i := 137) (by decide +kernel)) rfl
theorem wd_138 : Cond.methodLink RX7 3 Lib.objectInit ∈ TB := TB_in (List.mem_of_getElem? (i := 138) (by decide +kernel)) rfl
theorem wd_157 : Cond.arrayClass .int ∈ TB := TB_in (List.mem_of_getElem? (i := 157) (by decide +kernel)) rfl
theorem wd_158 : Cond.classLink RX9 16 RX6 ∈ TB := TB_in (List.mem_of_getElem? (i := 158) (by decide +kernel)) rfl
theorem wd_159 : Cond.instantiable RX6 2 ∈ TB := TB_in (List.mem_of_getElem? (i := 159) (by decide +kernel)) rfl
theorem wn_160 : Cond.methodLinkNest RX9 18 yX6_init RX9 ∈ NW := NW_in (List.mem_of_getElem? (i := 160) (by decide +kernel)) rfl
theorem wd_161 : Cond.instanceMethod yX6_init ∈ TB := TB_in (List.mem_of_getElem? (i := 161) (by decide +kernel)) rfl
theorem wd_162 : Cond.code yX6_init cX6_init 1 none ∈ TB := TB_in (List.mem_of_getElem? (i := 162) (by decide +kernel)) rfl
theorem wd_163 : Cond.methodLink RX6 3 Lib.objectInit ∈ TB := TB_in (List.mem_of_getElem? (i := 163) (by decide +kernel)) rfl
theorem wd_173 : Cond.classLink RX9 23 RX5 ∈ TB := TB_in (List.mem_of_getElem? (i := 173) (by decide +kernel)) rfl
theorem wd_174 : Cond.instantiable RX5 5 ∈ TB := TB_in (List.mem_of_getElem? (i := 174) (by decide +kernel)) rfl
theorem wn_175 : Cond.methodLinkNest RX9 25 yX5_init RX9 ∈ NW := NW_in (List.mem_of_getElem? (i := 175) (by decide +kernel)) rfl
theorem wd_176 : Cond.instanceMethod yX5_init ∈ TB := TB_in (List.mem_of_getElem? (i := 176) (by decide +kernel)) rfl
theorem wd_177 : Cond.code yX5_init cX5_init 1 none ∈ TB := TB_in (List.mem_of_getElem? (i := 177) (by decide +kernel)) rfl
theorem wd_178 : Cond.methodLink RX5 3 Lib.objectInit ∈ TB := TB_in (List.mem_of_getElem? (i := 178) (by decide +kernel)) rfl
theorem wd_179 : Cond.classLink RX5 15 RX6 ∈ TB := TB_in (List.mem_of_getElem? (i := 179) (by decide +kernel)) rfl
theorem wn_180 : Cond.methodLinkNest RX5 17 yX6_init RX9 ∈ NW := NW_in (List.mem_of_getElem? (i := 180) (by decide +kernel)) rfl
theorem wd_200 : Cond.classLink RX9 30 RX2 ∈ TB := TB_in (List.mem_of_getElem? (i := 200) (by decide +kernel)) rfl
theorem wd_201 : Cond.instantiable RX2 4 ∈ TB := TB_in (List.mem_of_getElem? (i := 201) (by decide +kernel)) rfl
theorem wn_202 : Cond.methodLinkNest RX9 32 yX2_init RX9 ∈ NW := NW_in (List.mem_of_getElem? (i := 202) (by decide +kernel)) rfl
theorem wd_203 : Cond.instanceMethod yX2_init ∈ TB := TB_in (List.mem_of_getElem? (i := 203) (by decide +kernel)) rfl
theorem wd_204 : Cond.code yX2_init cX2_init 1 none ∈ TB := TB_in (List.mem_of_getElem? (i := 204) (by decide +kernel)) rfl
theorem wd_205 : Cond.methodLink RX2 3 Lib.objectInit ∈ TB := TB_in (List.mem_of_getElem? (i := 205) (by decide +kernel)) rfl
theorem wd_220 : Cond.classLink RX9 37 RX4 ∈ TB := TB_in (List.mem_of_getElem? (i := 220) (by decide +kernel)) rfl
theorem wd_221 : Cond.instantiable RX4 1 ∈ TB := TB_in (List.mem_of_getElem? (i := 221) (by decide +kernel)) rfl
theorem wn_222 : Cond.methodLinkNest RX9 39 yX4_init RX9 ∈ NW := NW_in (List.mem_of_getElem? (i := 222) (by decide +kernel)) rfl
theorem wd_223 : Cond.instanceMethod yX4_init ∈ TB := TB_in (List.mem_of_getElem? (i := 223) (by decide +kernel)) rfl
theorem wd_224 : Cond.code yX4_init cX4_init 1 none ∈ TB := TB_in (List.mem_of_getElem? (i := 224) (by decide +kernel)) rfl
theorem wd_225 : Cond.methodLink RX4 3 Lib.objectInit ∈ TB := TB_in (List.mem_of_getElem? (i := 225) (by decide +kernel)) rfl
theorem wd_230 : Cond.classLink RX9 44 RX8 ∈ TB := TB_in (List.mem_of_getElem? (i := 230) (by decide +kernel)) rfl
theorem wd_231 : Cond.instantiable RX8 5 ∈ TB := TB_in (List.mem_of_getElem? (i := 231) (by decide +kernel)) rfl
theorem wn_232 : Cond.methodLinkNest RX9 46 yX8_init RX9 ∈ NW := NW_in (List.mem_of_getElem? (i := 232) (by decide +kernel)) rfl
theorem wd_233 : Cond.instanceMethod yX8_init ∈ TB := TB_in (List.mem_of_getElem? (i := 233) (by decide +kernel)) rfl
theorem wd_234 : Cond.code yX8_init cX8_init 1 none ∈ TB := TB_in (List.mem_of_getElem? (i := 234) (by decide +kernel)) rfl
theorem wd_235 : Cond.methodLink RX8 3 Lib.objectInit ∈ TB := TB_in (List.mem_of_getElem? (i := 235) (by decide +kernel)) rfl
theorem wd_252 : Cond.classLink RX9 51 RX0 ∈ TB := TB_in (List.mem_of_getElem? (i := 252) (by decide +kernel)) rfl
theorem wd_253 : Cond.instantiable RX0 2 ∈ TB := TB_in (List.mem_of_getElem? (i := 253) (by decide +kernel)) rfl
theorem wn_254 : Cond.methodLinkNest RX9 53 yX0_init RX9 ∈ NW := NW_in (List.mem_of_getElem? (i := 254) (by decide +kernel)) rfl
theorem wd_255 : Cond.instanceMethod yX0_init ∈ TB := TB_in (List.mem_of_getElem? (i := 255) (by decide +kernel)) rfl
theorem wd_256 : Cond.code yX0_init cX0_init 1 none ∈ TB := TB_in (List.mem_of_getElem? (i := 256) (by decide +kernel)) rfl
theorem wd_257 : Cond.methodLink RX0 3 Lib.objectInit ∈ TB := TB_in (List.mem_of_getElem? (i := 257) (by decide +kernel)) rfl
theorem wd_265 : Cond.classLink RX9 58 RX1 ∈ TB := TB_in (List.mem_of_getElem? (i := 265) (by decide +kernel)) rfl
theorem wd_266 : Cond.instantiable RX1 2 ∈ TB := TB_in (List.mem_of_getElem? (i := 266) (by decide +kernel)) rfl
theorem wn_267 : Cond.methodLinkNest RX9 60 yX1_init RX9 ∈ NW := NW_in (List.mem_of_getElem? (i := 267) (by decide +kernel)) rfl
theorem wd_268 : Cond.instanceMethod yX1_init ∈ TB := TB_in (List.mem_of_getElem? (i := 268) (by decide +kernel)) rfl
theorem wd_269 : Cond.code yX1_init cX1_init 1 none ∈ TB := TB_in (List.mem_of_getElem? (i := 269) (by decide +kernel)) rfl
theorem wd_270 : Cond.methodLink RX1 3 Lib.objectInit ∈ TB := TB_in (List.mem_of_getElem? (i := 270) (by decide +kernel)) rfl
theorem wd_278 : Cond.classLink RX9 65 RX3 ∈ TB := TB_in (List.mem_of_getElem? (i := 278) (by decide +kernel)) rfl
theorem wd_279 : Cond.instantiable RX3 3 ∈ TB := TB_in (List.mem_of_getElem? (i := 279) (by decide +kernel)) rfl
theorem wn_280 : Cond.methodLinkNest RX9 67 yX3_init RX9 ∈ NW := NW_in (List.mem_of_getElem? (i := 280) (by decide +kernel)) rfl
theorem wd_281 : Cond.instanceMethod yX3_init ∈ TB := TB_in (List.mem_of_getElem? (i := 281) (by decide +kernel)) rfl
theorem wd_282 : Cond.code yX3_init cX3_init 1 none ∈ TB := TB_in (List.mem_of_getElem? (i := 282) (by decide +kernel)) rfl
theorem wd_283 : Cond.methodLink RX3 3 Lib.objectInit ∈ TB := TB_in (List.mem_of_getElem? (i := 283) (by decide +kernel)) rfl
theorem wd_893 : Cond.instanceMethod yX10_init ∈ TB := TB_in (List.mem_of_getElem? (i := 893) (by decide +kernel)) rfl
theorem wd_894 : Cond.code yX10_init cX10_init 1 none ∈ TB := TB_in (List.mem_of_getElem? (i := 894) (by decide +kernel)) rfl
theorem wd_895 : Cond.methodLink RX10 1 Lib.objectInit ∈ TB := TB_in (List.mem_of_getElem? (i := 895) (by decide +kernel)) rfl
theorem wd_999 : Cond.arrayClass .boolean ∈ TB := TB_in (List.mem_of_getElem? (i := 999) (by decide +kernel)) rfl
theorem J_eq {X : Cx} {mi : Mi} {pc : Nat} {L : List (Nat × Value)} {st : List Value} {ws ws' : va_W} {k k' n n' : Nat} {Q : State → Prop} (h : ws = ws') (hk : k = k') (hn : n = n') (K : J X mi pc L st ws' k' n' Q) : J X mi pc L st ws k n Q := by
  subst h hk hn; exact K
theorem dX6_init_0 : decode cX6_init 0 = .ok (.aload_n 0, 1) := by decide +kernel
theorem dX6_init_1 : decode cX6_init 1 = .ok (.invokespecial 3, 3) := by decide +kernel
theorem dX6_init_4 : decode cX6_init 4 = .ok (.aload_n 0, 1) := by decide +kernel
theorem dX6_init_5 : decode cX6_init 5 = .ok (.sipush 360, 3) := by decide +kernel
theorem dX6_init_8 : decode cX6_init 8 = .ok (.newarray .int, 2) := by decide +kernel
theorem dX6_init_10 : decode cX6_init 10 = .ok (.putfield 11, 3) := by decide +kernel
theorem dX6_init_13 : decode cX6_init 13 = .ok (.return_, 1) := by decide +kernel
def wfX6 : WF1 := fun u cI cZ => [(u 0, .inr (6, [.ref (u 1), .int 0])), (u 1, .inl (cI, 360, .inl (fun _ => 0)))]
theorem ciX6 : CalI (kmi yX6_init cX6_init 1 12) := ⟨⟨wd_162, wd_115, ⟨by decide +kernel, by decide +kernel⟩, by decide +kernel⟩, wd_161, rfl⟩
set_option maxHeartbeats 4000000 in
set_option maxRecDepth 100000 in
theorem knX6 : KN (kmi yX6_init cX6_init 1 12) 1 360 6 [.null, .int 0] wfX6 := by
  refine KN_of (by decide +kernel) (fun X h0 hK hN => ?_)
  refine J_aload_n dX6_init_0 0 rfl ?_
  refine J_objInit wd_163 wd_131 wd_132 (Nat.le_of_ble_eq_true rfl) (Nat.le_of_ble_eq_true rfl) dX6_init_1 ?_
  refine J_aload_n dX6_init_4 0 rfl ?_
  refine J_sipush (v := 360) dX6_init_5 rfl ?_
  refine J_newa (N := 360) wd_157 rfl (by decide) (by rw [hK]; exact Nat.le_of_ble_eq_true rfl) (by rw [hN]; exact Nat.le_of_ble_eq_true rfl) dX6_init_8 (fun q1 => ?_)
  refine J_pf (q0 := 0) (j := 0) hclX6 rfl (by decide) wd_164 rfl ⟨rfl, rfl⟩ rfl (tyX6_ok 0 (by decide)) rfl rfl (Nat.le_of_ble_eq_true rfl) dX6_init_10 ?_
  refine J_eq (ws' := [(h0, .inr (6, [.ref q1, .int 0])), (q1, .inl (xI X, 360, .inl (fun _ => 0)))]) (k' := 1) (n' := 360) rfl rfl rfl ?_
  exact J_ret rfl dX6_init_13 (by rw [hK]) (by rw [hN]) (fun k => [h0, q1].getD k 0) rfl rfl
theorem dX7_init_0 : decode cX7_init 0 = .ok (.aload_n 0, 1) := by decide +kernel
theorem dX7_init_1 : decode cX7_init 1 = .ok (.invokespecial 3, 3) := by decide +kernel
theorem dX7_init_4 : decode cX7_init 4 = .ok (.aload_n 0, 1) := by decide +kernel
theorem dX7_init_5 : decode cX7_init 5 = .ok (.bipush 7, 2) := by decide +kernel
theorem dX7_init_7 : decode cX7_init 7 = .ok (.newarray .int, 2) := by decide +kernel
theorem dX7_init_9 : decode cX7_init 9 = .ok (.putfield 9, 3) := by decide +kernel
theorem dX7_init_12 : decode cX7_init 12 = .ok (.aload_n 0, 1) := by decide +kernel
theorem dX7_init_13 : decode cX7_init 13 = .ok (.sipush 147, 3) := by decide +kernel
theorem dX7_init_16 : decode cX7_init 16 = .ok (.newarray .int, 2) := by decide +kernel
theorem dX7_init_18 : decode cX7_init 18 = .ok (.putfield 15, 3) := by decide +kernel
theorem dX7_init_21 : decode cX7_init 21 = .ok (.return_, 1) := by decide +kernel
def wfX7 : WF1 := fun u cI cZ => [(u 0, .inr (7, [.ref (u 1), .ref (u 2), .int 0])), (u 1, .inl (cI, 7, .inl (fun _ => 0))), (u 2, .inl (cI, 147, .inl (fun _ => 0)))]
theorem ciX7 : CalI (kmi yX7_init cX7_init 1 12) := ⟨⟨wd_137, wd_114, ⟨by decide +kernel, by decide +kernel⟩, by decide +kernel⟩, wd_136, rfl⟩
set_option maxHeartbeats 4000000 in
set_option maxRecDepth 100000 in
theorem knX7 : KN (kmi yX7_init cX7_init 1 12) 2 154 7 [.null, .null, .int 0] wfX7 := by
  refine KN_of (by decide +kernel) (fun X h0 hK hN => ?_)
  refine J_aload_n dX7_init_0 0 rfl ?_
  refine J_objInit wd_138 wd_131 wd_132 (Nat.le_of_ble_eq_true rfl) (Nat.le_of_ble_eq_true rfl) dX7_init_1 ?_
  refine J_aload_n dX7_init_4 0 rfl ?_
  refine J_bipush (v := 7) dX7_init_5 rfl ?_
  refine J_newa (N := 7) wd_157 rfl (by decide) (by rw [hK]; exact Nat.le_of_ble_eq_true rfl) (by rw [hN]; exact Nat.le_of_ble_eq_true rfl) dX7_init_7 (fun q1 => ?_)
  refine J_pf (q0 := 0) (j := 0) hclX7 rfl (by decide) wd_139 rfl ⟨rfl, rfl⟩ rfl (tyX7_ok 0 (by decide)) rfl rfl (Nat.le_of_ble_eq_true rfl) dX7_init_9 ?_
  refine J_eq (ws' := [(h0, .inr (7, [.ref q1, .null, .int 0])), (q1, .inl (xI X, 7, .inl (fun _ => 0)))]) (k' := 1) (n' := 7) rfl rfl rfl ?_
  refine J_aload_n dX7_init_12 0 rfl ?_
  refine J_sipush (v := 147) dX7_init_13 rfl ?_
  refine J_newa (N := 147) wd_157 rfl (by decide) (by rw [hK]; exact Nat.le_of_ble_eq_true rfl) (by rw [hN]; exact Nat.le_of_ble_eq_true rfl) dX7_init_16 (fun q2 => ?_)
  refine J_pf (q0 := 0) (j := 1) hclX7 rfl (by decide) wd_142 rfl ⟨rfl, rfl⟩ rfl (tyX7_ok 1 (by decide)) rfl rfl (Nat.le_of_ble_eq_true rfl) dX7_init_18 ?_
  refine J_eq (ws' := [(h0, .inr (7, [.ref q1, .ref q2, .int 0])), (q1, .inl (xI X, 7, .inl (fun _ => 0))), (q2, .inl (xI X, 147, .inl (fun _ => 0)))]) (k' := 2) (n' := 154) rfl rfl rfl ?_
  exact J_ret rfl dX7_init_21 (by rw [hK]) (by rw [hN]) (fun k => [h0, q1, q2].getD k 0) rfl rfl
theorem dX5_init_0 : decode cX5_init 0 = .ok (.aload_n 0, 1) := by decide +kernel
theorem dX5_init_1 : decode cX5_init 1 = .ok (.invokespecial 3, 3) := by decide +kernel
theorem dX5_init_4 : decode cX5_init 4 = .ok (.aload_n 0, 1) := by decide +kernel
theorem dX5_init_5 : decode cX5_init 5 = .ok (.bipush 60, 2) := by decide +kernel
theorem dX5_init_7 : decode cX5_init 7 = .ok (.newarray .int, 2) := by decide +kernel
theorem dX5_init_9 : decode cX5_init 9 = .ok (.putfield 9, 3) := by decide +kernel
theorem dX5_init_12 : decode cX5_init 12 = .ok (.aload_n 0, 1) := by decide +kernel
theorem dX5_init_13 : decode cX5_init 13 = .ok (.new 15, 3) := by decide +kernel
theorem dX5_init_16 : decode cX5_init 16 = .ok (.dup, 1) := by decide +kernel
theorem dX5_init_17 : decode cX5_init 17 = .ok (.invokespecial 17, 3) := by decide +kernel
theorem dX5_init_20 : decode cX5_init 20 = .ok (.putfield 18, 3) := by decide +kernel
theorem dX5_init_23 : decode cX5_init 23 = .ok (.return_, 1) := by decide +kernel
def wfX5 : WF1 := fun u cI cZ => [(u 0, .inr (5, [.ref (u 1), .ref (u 2), .int 0, .int 0, .int 0])), (u 1, .inl (cI, 60, .inl (fun _ => 0))), (u 2, .inr (6, [.ref (u 3), .int 0])), (u 3, .inl (cI, 360, .inl (fun _ => 0)))]
theorem ciX5 : CalI (kmi yX5_init cX5_init 2 32) := ⟨⟨wd_177, wd_116, ⟨by decide +kernel, by decide +kernel⟩, by decide +kernel⟩, wd_176, rfl⟩
set_option maxHeartbeats 4000000 in
set_option maxRecDepth 100000 in
theorem knX5 : KN (kmi yX5_init cX5_init 2 32) 3 422 5 [.null, .null, .int 0, .int 0, .int 0] wfX5 := by
  refine KN_of (by decide +kernel) (fun X h0 hK hN => ?_)
  refine J_aload_n dX5_init_0 0 rfl ?_
  refine J_objInit wd_178 wd_131 wd_132 (Nat.le_of_ble_eq_true rfl) (Nat.le_of_ble_eq_true rfl) dX5_init_1 ?_
  refine J_aload_n dX5_init_4 0 rfl ?_
  refine J_bipush (v := 60) dX5_init_5 rfl ?_
  refine J_newa (N := 60) wd_157 rfl (by decide) (by rw [hK]; exact Nat.le_of_ble_eq_true rfl) (by rw [hN]; exact Nat.le_of_ble_eq_true rfl) dX5_init_7 (fun q1 => ?_)
  refine J_pf (q0 := 0) (j := 0) hclX5 rfl (by decide) wd_181 rfl ⟨rfl, rfl⟩ rfl (tyX5_ok 0 (by decide)) rfl rfl (Nat.le_of_ble_eq_true rfl) dX5_init_9 ?_
  refine J_eq (ws' := [(h0, .inr (5, [.ref q1, .null, .int 0, .int 0, .int 0])), (q1, .inl (xI X, 60, .inl (fun _ => 0)))]) (k' := 1) (n' := 60) rfl rfl rfl ?_
  refine J_aload_n dX5_init_12 0 rfl ?_
  refine J_new (fs := [.null, .int 0]) hclX6 tyX6 tyX6_ok (fun j hj => by rcases (show j = 0 ∨ j = 1 by omega) with rfl | rfl <;> rfl) wd_179 wd_159 wd_115 (by rw [hK]; exact Nat.le_of_ble_eq_true rfl) (by rw [hN]; exact Nat.le_of_ble_eq_true rfl) dX5_init_13 (fun q2 => ?_)
  refine J_dup dX5_init_16 rfl ?_
  refine J_ctorN knX6 ciX6 ⟨Nat.le_of_ble_eq_true rfl, Nat.le_of_ble_eq_true rfl⟩ wn_180 (by rw [hK]; exact Nat.le_of_ble_eq_true rfl) (by rw [hN]; exact Nat.le_of_ble_eq_true rfl) (Nat.le_of_ble_eq_true rfl) dX5_init_17 (fun u2 e2 => ?_)
  subst e2
  refine J_pf (q0 := 0) (j := 1) hclX5 rfl (by decide) wd_182 rfl ⟨rfl, rfl⟩ rfl (tyX5_ok 1 (by decide)) rfl rfl (Nat.le_of_ble_eq_true rfl) dX5_init_20 ?_
  refine J_eq (ws' := [(h0, .inr (5, [.ref q1, .ref (u2 0), .int 0, .int 0, .int 0])), (q1, .inl (xI X, 60, .inl (fun _ => 0))), (u2 0, .inr (6, [.ref (u2 1), .int 0])), (u2 1, .inl (xI X, 360, .inl (fun _ => 0)))]) (k' := 3) (n' := 422) rfl rfl rfl ?_
  exact J_ret rfl dX5_init_23 (by rw [hK]) (by rw [hN]) (fun k => [h0, q1, u2 0, u2 1].getD k 0) rfl rfl
theorem dX2_init_0 : decode cX2_init 0 = .ok (.aload_n 0, 1) := by decide +kernel
theorem dX2_init_1 : decode cX2_init 1 = .ok (.invokespecial 3, 3) := by decide +kernel
theorem dX2_init_4 : decode cX2_init 4 = .ok (.aload_n 0, 1) := by decide +kernel
theorem dX2_init_5 : decode cX2_init 5 = .ok (.bipush 6, 2) := by decide +kernel
theorem dX2_init_7 : decode cX2_init 7 = .ok (.newarray .int, 2) := by decide +kernel
theorem dX2_init_9 : decode cX2_init 9 = .ok (.putfield 9, 3) := by decide +kernel
theorem dX2_init_12 : decode cX2_init 12 = .ok (.aload_n 0, 1) := by decide +kernel
theorem dX2_init_13 : decode cX2_init 13 = .ok (.bipush 6, 2) := by decide +kernel
theorem dX2_init_15 : decode cX2_init 15 = .ok (.newarray .int, 2) := by decide +kernel
theorem dX2_init_17 : decode cX2_init 17 = .ok (.putfield 15, 3) := by decide +kernel
theorem dX2_init_20 : decode cX2_init 20 = .ok (.aload_n 0, 1) := by decide +kernel
theorem dX2_init_21 : decode cX2_init 21 = .ok (.bipush 6, 2) := by decide +kernel
theorem dX2_init_23 : decode cX2_init 23 = .ok (.newarray .int, 2) := by decide +kernel
theorem dX2_init_25 : decode cX2_init 25 = .ok (.putfield 18, 3) := by decide +kernel
theorem dX2_init_28 : decode cX2_init 28 = .ok (.return_, 1) := by decide +kernel
def wfX2 : WF1 := fun u cI cZ => [(u 0, .inr (2, [.ref (u 1), .ref (u 2), .ref (u 3), .int 0])), (u 1, .inl (cI, 6, .inl (fun _ => 0))), (u 2, .inl (cI, 6, .inl (fun _ => 0))), (u 3, .inl (cI, 6, .inl (fun _ => 0)))]
theorem ciX2 : CalI (kmi yX2_init cX2_init 1 12) := ⟨⟨wd_204, wd_117, ⟨by decide +kernel, by decide +kernel⟩, by decide +kernel⟩, wd_203, rfl⟩
set_option maxHeartbeats 4000000 in
set_option maxRecDepth 100000 in
theorem knX2 : KN (kmi yX2_init cX2_init 1 12) 3 18 2 [.null, .null, .null, .int 0] wfX2 := by
  refine KN_of (by decide +kernel) (fun X h0 hK hN => ?_)
  refine J_aload_n dX2_init_0 0 rfl ?_
  refine J_objInit wd_205 wd_131 wd_132 (Nat.le_of_ble_eq_true rfl) (Nat.le_of_ble_eq_true rfl) dX2_init_1 ?_
  refine J_aload_n dX2_init_4 0 rfl ?_
  refine J_bipush (v := 6) dX2_init_5 rfl ?_
  refine J_newa (N := 6) wd_157 rfl (by decide) (by rw [hK]; exact Nat.le_of_ble_eq_true rfl) (by rw [hN]; exact Nat.le_of_ble_eq_true rfl) dX2_init_7 (fun q1 => ?_)
  refine J_pf (q0 := 0) (j := 0) hclX2 rfl (by decide) wd_206 rfl ⟨rfl, rfl⟩ rfl (tyX2_ok 0 (by decide)) rfl rfl (Nat.le_of_ble_eq_true rfl) dX2_init_9 ?_
  refine J_eq (ws' := [(h0, .inr (2, [.ref q1, .null, .null, .int 0])), (q1, .inl (xI X, 6, .inl (fun _ => 0)))]) (k' := 1) (n' := 6) rfl rfl rfl ?_
  refine J_aload_n dX2_init_12 0 rfl ?_
  refine J_bipush (v := 6) dX2_init_13 rfl ?_
  refine J_newa (N := 6) wd_157 rfl (by decide) (by rw [hK]; exact Nat.le_of_ble_eq_true rfl) (by rw [hN]; exact Nat.le_of_ble_eq_true rfl) dX2_init_15 (fun q2 => ?_)
  refine J_pf (q0 := 0) (j := 1) hclX2 rfl (by decide) wd_207 rfl ⟨rfl, rfl⟩ rfl (tyX2_ok 1 (by decide)) rfl rfl (Nat.le_of_ble_eq_true rfl) dX2_init_17 ?_
  refine J_eq (ws' := [(h0, .inr (2, [.ref q1, .ref q2, .null, .int 0])), (q1, .inl (xI X, 6, .inl (fun _ => 0))), (q2, .inl (xI X, 6, .inl (fun _ => 0)))]) (k' := 2) (n' := 12) rfl rfl rfl ?_
  refine J_aload_n dX2_init_20 0 rfl ?_
  refine J_bipush (v := 6) dX2_init_21 rfl ?_
  refine J_newa (N := 6) wd_157 rfl (by decide) (by rw [hK]; exact Nat.le_of_ble_eq_true rfl) (by rw [hN]; exact Nat.le_of_ble_eq_true rfl) dX2_init_23 (fun q3 => ?_)
  refine J_pf (q0 := 0) (j := 2) hclX2 rfl (by decide) wd_208 rfl ⟨rfl, rfl⟩ rfl (tyX2_ok 2 (by decide)) rfl rfl (Nat.le_of_ble_eq_true rfl) dX2_init_25 ?_
  refine J_eq (ws' := [(h0, .inr (2, [.ref q1, .ref q2, .ref q3, .int 0])), (q1, .inl (xI X, 6, .inl (fun _ => 0))), (q2, .inl (xI X, 6, .inl (fun _ => 0))), (q3, .inl (xI X, 6, .inl (fun _ => 0)))]) (k' := 3) (n' := 18) rfl rfl rfl ?_
  exact J_ret rfl dX2_init_28 (by rw [hK]) (by rw [hN]) (fun k => [h0, q1, q2, q3].getD k 0) rfl rfl
theorem dX4_init_0 : decode cX4_init 0 = .ok (.aload_n 0, 1) := by decide +kernel
theorem dX4_init_1 : decode cX4_init 1 = .ok (.invokespecial 3, 3) := by decide +kernel
theorem dX4_init_4 : decode cX4_init 4 = .ok (.aload_n 0, 1) := by decide +kernel
theorem dX4_init_5 : decode cX4_init 5 = .ok (.bipush 42, 2) := by decide +kernel
theorem dX4_init_7 : decode cX4_init 7 = .ok (.newarray .int, 2) := by decide +kernel
theorem dX4_init_9 : decode cX4_init 9 = .ok (.putfield 11, 3) := by decide +kernel
theorem dX4_init_12 : decode cX4_init 12 = .ok (.return_, 1) := by decide +kernel
def wfX4 : WF1 := fun u cI cZ => [(u 0, .inr (4, [.ref (u 1)])), (u 1, .inl (cI, 42, .inl (fun _ => 0)))]
theorem ciX4 : CalI (kmi yX4_init cX4_init 1 12) := ⟨⟨wd_224, wd_118, ⟨by decide +kernel, by decide +kernel⟩, by decide +kernel⟩, wd_223, rfl⟩
set_option maxHeartbeats 4000000 in
set_option maxRecDepth 100000 in
theorem knX4 : KN (kmi yX4_init cX4_init 1 12) 1 42 4 [.null] wfX4 := by
  refine KN_of (by decide +kernel) (fun X h0 hK hN => ?_)
  refine J_aload_n dX4_init_0 0 rfl ?_
  refine J_objInit wd_225 wd_131 wd_132 (Nat.le_of_ble_eq_true rfl) (Nat.le_of_ble_eq_true rfl) dX4_init_1 ?_
  refine J_aload_n dX4_init_4 0 rfl ?_
  refine J_bipush (v := 42) dX4_init_5 rfl ?_
  refine J_newa (N := 42) wd_157 rfl (by decide) (by rw [hK]; exact Nat.le_of_ble_eq_true rfl) (by rw [hN]; exact Nat.le_of_ble_eq_true rfl) dX4_init_7 (fun q1 => ?_)
  refine J_pf (q0 := 0) (j := 0) hclX4 rfl (by decide) wd_226 rfl ⟨rfl, rfl⟩ rfl (tyX4_ok 0 (by decide)) rfl rfl (Nat.le_of_ble_eq_true rfl) dX4_init_9 ?_
  refine J_eq (ws' := [(h0, .inr (4, [.ref q1])), (q1, .inl (xI X, 42, .inl (fun _ => 0)))]) (k' := 1) (n' := 42) rfl rfl rfl ?_
  exact J_ret rfl dX4_init_12 (by rw [hK]) (by rw [hN]) (fun k => [h0, q1].getD k 0) rfl rfl
theorem dX8_init_0 : decode cX8_init 0 = .ok (.aload_n 0, 1) := by decide +kernel
theorem dX8_init_1 : decode cX8_init 1 = .ok (.invokespecial 3, 3) := by decide +kernel
theorem dX8_init_4 : decode cX8_init 4 = .ok (.aload_n 0, 1) := by decide +kernel
theorem dX8_init_5 : decode cX8_init 5 = .ok (.bipush 7, 2) := by decide +kernel
theorem dX8_init_7 : decode cX8_init 7 = .ok (.newarray .int, 2) := by decide +kernel
theorem dX8_init_9 : decode cX8_init 9 = .ok (.putfield 9, 3) := by decide +kernel
theorem dX8_init_12 : decode cX8_init 12 = .ok (.aload_n 0, 1) := by decide +kernel
theorem dX8_init_13 : decode cX8_init 13 = .ok (.bipush 7, 2) := by decide +kernel
theorem dX8_init_15 : decode cX8_init 15 = .ok (.newarray .int, 2) := by decide +kernel
theorem dX8_init_17 : decode cX8_init 17 = .ok (.putfield 15, 3) := by decide +kernel
theorem dX8_init_20 : decode cX8_init 20 = .ok (.aload_n 0, 1) := by decide +kernel
theorem dX8_init_21 : decode cX8_init 21 = .ok (.bipush 7, 2) := by decide +kernel
theorem dX8_init_23 : decode cX8_init 23 = .ok (.newarray .int, 2) := by decide +kernel
theorem dX8_init_25 : decode cX8_init 25 = .ok (.putfield 18, 3) := by decide +kernel
theorem dX8_init_28 : decode cX8_init 28 = .ok (.return_, 1) := by decide +kernel
def wfX8 : WF1 := fun u cI cZ => [(u 0, .inr (8, [.ref (u 1), .ref (u 2), .ref (u 3), .int 0, .int 0])), (u 1, .inl (cI, 7, .inl (fun _ => 0))), (u 2, .inl (cI, 7, .inl (fun _ => 0))), (u 3, .inl (cI, 7, .inl (fun _ => 0)))]
theorem ciX8 : CalI (kmi yX8_init cX8_init 1 12) := ⟨⟨wd_234, wd_119, ⟨by decide +kernel, by decide +kernel⟩, by decide +kernel⟩, wd_233, rfl⟩
set_option maxHeartbeats 4000000 in
set_option maxRecDepth 100000 in
theorem knX8 : KN (kmi yX8_init cX8_init 1 12) 3 21 8 [.null, .null, .null, .int 0, .int 0] wfX8 := by
  refine KN_of (by decide +kernel) (fun X h0 hK hN => ?_)
  refine J_aload_n dX8_init_0 0 rfl ?_
  refine J_objInit wd_235 wd_131 wd_132 (Nat.le_of_ble_eq_true rfl) (Nat.le_of_ble_eq_true rfl) dX8_init_1 ?_
  refine J_aload_n dX8_init_4 0 rfl ?_
  refine J_bipush (v := 7) dX8_init_5 rfl ?_
  refine J_newa (N := 7) wd_157 rfl (by decide) (by rw [hK]; exact Nat.le_of_ble_eq_true rfl) (by rw [hN]; exact Nat.le_of_ble_eq_true rfl) dX8_init_7 (fun q1 => ?_)
  refine J_pf (q0 := 0) (j := 0) hclX8 rfl (by decide) wd_236 rfl ⟨rfl, rfl⟩ rfl (tyX8_ok 0 (by decide)) rfl rfl (Nat.le_of_ble_eq_true rfl) dX8_init_9 ?_
  refine J_eq (ws' := [(h0, .inr (8, [.ref q1, .null, .null, .int 0, .int 0])), (q1, .inl (xI X, 7, .inl (fun _ => 0)))]) (k' := 1) (n' := 7) rfl rfl rfl ?_
  refine J_aload_n dX8_init_12 0 rfl ?_
  refine J_bipush (v := 7) dX8_init_13 rfl ?_
  refine J_newa (N := 7) wd_157 rfl (by decide) (by rw [hK]; exact Nat.le_of_ble_eq_true rfl) (by rw [hN]; exact Nat.le_of_ble_eq_true rfl) dX8_init_15 (fun q2 => ?_)
  refine J_pf (q0 := 0) (j := 1) hclX8 rfl (by decide) wd_237 rfl ⟨rfl, rfl⟩ rfl (tyX8_ok 1 (by decide)) rfl rfl (Nat.le_of_ble_eq_true rfl) dX8_init_17 ?_
  refine J_eq (ws' := [(h0, .inr (8, [.ref q1, .ref q2, .null, .int 0, .int 0])), (q1, .inl (xI X, 7, .inl (fun _ => 0))), (q2, .inl (xI X, 7, .inl (fun _ => 0)))]) (k' := 2) (n' := 14) rfl rfl rfl ?_
  refine J_aload_n dX8_init_20 0 rfl ?_
  refine J_bipush (v := 7) dX8_init_21 rfl ?_
  refine J_newa (N := 7) wd_157 rfl (by decide) (by rw [hK]; exact Nat.le_of_ble_eq_true rfl) (by rw [hN]; exact Nat.le_of_ble_eq_true rfl) dX8_init_23 (fun q3 => ?_)
  refine J_pf (q0 := 0) (j := 2) hclX8 rfl (by decide) wd_238 rfl ⟨rfl, rfl⟩ rfl (tyX8_ok 2 (by decide)) rfl rfl (Nat.le_of_ble_eq_true rfl) dX8_init_25 ?_
  refine J_eq (ws' := [(h0, .inr (8, [.ref q1, .ref q2, .ref q3, .int 0, .int 0])), (q1, .inl (xI X, 7, .inl (fun _ => 0))), (q2, .inl (xI X, 7, .inl (fun _ => 0))), (q3, .inl (xI X, 7, .inl (fun _ => 0)))]) (k' := 3) (n' := 21) rfl rfl rfl ?_
  exact J_ret rfl dX8_init_28 (by rw [hK]) (by rw [hN]) (fun k => [h0, q1, q2, q3].getD k 0) rfl rfl
theorem dX0_init_0 : decode cX0_init 0 = .ok (.aload_n 0, 1) := by decide +kernel
theorem dX0_init_1 : decode cX0_init 1 = .ok (.invokespecial 3, 3) := by decide +kernel
theorem dX0_init_4 : decode cX0_init 4 = .ok (.aload_n 0, 1) := by decide +kernel
theorem dX0_init_5 : decode cX0_init 5 = .ok (.sipush 147, 3) := by decide +kernel
theorem dX0_init_8 : decode cX0_init 8 = .ok (.newarray .int, 2) := by decide +kernel
theorem dX0_init_10 : decode cX0_init 10 = .ok (.putfield 9, 3) := by decide +kernel
theorem dX0_init_13 : decode cX0_init 13 = .ok (.aload_n 0, 1) := by decide +kernel
theorem dX0_init_14 : decode cX0_init 14 = .ok (.bipush 7, 2) := by decide +kernel
theorem dX0_init_16 : decode cX0_init 16 = .ok (.newarray .int, 2) := by decide +kernel
theorem dX0_init_18 : decode cX0_init 18 = .ok (.putfield 15, 3) := by decide +kernel
theorem dX0_init_21 : decode cX0_init 21 = .ok (.return_, 1) := by decide +kernel
def wfX0 : WF1 := fun u cI cZ => [(u 0, .inr (0, [.ref (u 1), .ref (u 2)])), (u 1, .inl (cI, 147, .inl (fun _ => 0))), (u 2, .inl (cI, 7, .inl (fun _ => 0)))]
theorem ciX0 : CalI (kmi yX0_init cX0_init 1 12) := ⟨⟨wd_256, wd_120, ⟨by decide +kernel, by decide +kernel⟩, by decide +kernel⟩, wd_255, rfl⟩
set_option maxHeartbeats 4000000 in
set_option maxRecDepth 100000 in
theorem knX0 : KN (kmi yX0_init cX0_init 1 12) 2 154 0 [.null, .null] wfX0 := by
  refine KN_of (by decide +kernel) (fun X h0 hK hN => ?_)
  refine J_aload_n dX0_init_0 0 rfl ?_
  refine J_objInit wd_257 wd_131 wd_132 (Nat.le_of_ble_eq_true rfl) (Nat.le_of_ble_eq_true rfl) dX0_init_1 ?_
  refine J_aload_n dX0_init_4 0 rfl ?_
  refine J_sipush (v := 147) dX0_init_5 rfl ?_
  refine J_newa (N := 147) wd_157 rfl (by decide) (by rw [hK]; exact Nat.le_of_ble_eq_true rfl) (by rw [hN]; exact Nat.le_of_ble_eq_true rfl) dX0_init_8 (fun q1 => ?_)
  refine J_pf (q0 := 0) (j := 0) hclX0 rfl (by decide) wd_258 rfl ⟨rfl, rfl⟩ rfl (tyX0_ok 0 (by decide)) rfl rfl (Nat.le_of_ble_eq_true rfl) dX0_init_10 ?_
  refine J_eq (ws' := [(h0, .inr (0, [.ref q1, .null])), (q1, .inl (xI X, 147, .inl (fun _ => 0)))]) (k' := 1) (n' := 147) rfl rfl rfl ?_
  refine J_aload_n dX0_init_13 0 rfl ?_
  refine J_bipush (v := 7) dX0_init_14 rfl ?_
  refine J_newa (N := 7) wd_157 rfl (by decide) (by rw [hK]; exact Nat.le_of_ble_eq_true rfl) (by rw [hN]; exact Nat.le_of_ble_eq_true rfl) dX0_init_16 (fun q2 => ?_)
  refine J_pf (q0 := 0) (j := 1) hclX0 rfl (by decide) wd_259 rfl ⟨rfl, rfl⟩ rfl (tyX0_ok 1 (by decide)) rfl rfl (Nat.le_of_ble_eq_true rfl) dX0_init_18 ?_
  refine J_eq (ws' := [(h0, .inr (0, [.ref q1, .ref q2])), (q1, .inl (xI X, 147, .inl (fun _ => 0))), (q2, .inl (xI X, 7, .inl (fun _ => 0)))]) (k' := 2) (n' := 154) rfl rfl rfl ?_
  exact J_ret rfl dX0_init_21 (by rw [hK]) (by rw [hN]) (fun k => [h0, q1, q2].getD k 0) rfl rfl
theorem dX1_init_0 : decode cX1_init 0 = .ok (.aload_n 0, 1) := by decide +kernel
theorem dX1_init_1 : decode cX1_init 1 = .ok (.invokespecial 3, 3) := by decide +kernel
theorem dX1_init_4 : decode cX1_init 4 = .ok (.aload_n 0, 1) := by decide +kernel
theorem dX1_init_5 : decode cX1_init 5 = .ok (.bipush 49, 2) := by decide +kernel
theorem dX1_init_7 : decode cX1_init 7 = .ok (.newarray .int, 2) := by decide +kernel
theorem dX1_init_9 : decode cX1_init 9 = .ok (.putfield 9, 3) := by decide +kernel
theorem dX1_init_12 : decode cX1_init 12 = .ok (.aload_n 0, 1) := by decide +kernel
theorem dX1_init_13 : decode cX1_init 13 = .ok (.sipush 128, 3) := by decide +kernel
theorem dX1_init_16 : decode cX1_init 16 = .ok (.newarray .int, 2) := by decide +kernel
theorem dX1_init_18 : decode cX1_init 18 = .ok (.putfield 15, 3) := by decide +kernel
theorem dX1_init_21 : decode cX1_init 21 = .ok (.return_, 1) := by decide +kernel
def wfX1 : WF1 := fun u cI cZ => [(u 0, .inr (1, [.ref (u 1), .ref (u 2)])), (u 1, .inl (cI, 49, .inl (fun _ => 0))), (u 2, .inl (cI, 128, .inl (fun _ => 0)))]
theorem ciX1 : CalI (kmi yX1_init cX1_init 1 12) := ⟨⟨wd_269, wd_121, ⟨by decide +kernel, by decide +kernel⟩, by decide +kernel⟩, wd_268, rfl⟩
set_option maxHeartbeats 4000000 in
set_option maxRecDepth 100000 in
theorem knX1 : KN (kmi yX1_init cX1_init 1 12) 2 177 1 [.null, .null] wfX1 := by
  refine KN_of (by decide +kernel) (fun X h0 hK hN => ?_)
  refine J_aload_n dX1_init_0 0 rfl ?_
  refine J_objInit wd_270 wd_131 wd_132 (Nat.le_of_ble_eq_true rfl) (Nat.le_of_ble_eq_true rfl) dX1_init_1 ?_
  refine J_aload_n dX1_init_4 0 rfl ?_
  refine J_bipush (v := 49) dX1_init_5 rfl ?_
  refine J_newa (N := 49) wd_157 rfl (by decide) (by rw [hK]; exact Nat.le_of_ble_eq_true rfl) (by rw [hN]; exact Nat.le_of_ble_eq_true rfl) dX1_init_7 (fun q1 => ?_)
  refine J_pf (q0 := 0) (j := 0) hclX1 rfl (by decide) wd_271 rfl ⟨rfl, rfl⟩ rfl (tyX1_ok 0 (by decide)) rfl rfl (Nat.le_of_ble_eq_true rfl) dX1_init_9 ?_
  refine J_eq (ws' := [(h0, .inr (1, [.ref q1, .null])), (q1, .inl (xI X, 49, .inl (fun _ => 0)))]) (k' := 1) (n' := 49) rfl rfl rfl ?_
  refine J_aload_n dX1_init_12 0 rfl ?_
  refine J_sipush (v := 128) dX1_init_13 rfl ?_
  refine J_newa (N := 128) wd_157 rfl (by decide) (by rw [hK]; exact Nat.le_of_ble_eq_true rfl) (by rw [hN]; exact Nat.le_of_ble_eq_true rfl) dX1_init_16 (fun q2 => ?_)
  refine J_pf (q0 := 0) (j := 1) hclX1 rfl (by decide) wd_272 rfl ⟨rfl, rfl⟩ rfl (tyX1_ok 1 (by decide)) rfl rfl (Nat.le_of_ble_eq_true rfl) dX1_init_18 ?_
  refine J_eq (ws' := [(h0, .inr (1, [.ref q1, .ref q2])), (q1, .inl (xI X, 49, .inl (fun _ => 0))), (q2, .inl (xI X, 128, .inl (fun _ => 0)))]) (k' := 2) (n' := 177) rfl rfl rfl ?_
  exact J_ret rfl dX1_init_21 (by rw [hK]) (by rw [hN]) (fun k => [h0, q1, q2].getD k 0) rfl rfl
theorem dX3_init_0 : decode cX3_init 0 = .ok (.aload_n 0, 1) := by decide +kernel
theorem dX3_init_1 : decode cX3_init 1 = .ok (.invokespecial 3, 3) := by decide +kernel
theorem dX3_init_4 : decode cX3_init 4 = .ok (.aload_n 0, 1) := by decide +kernel
theorem dX3_init_5 : decode cX3_init 5 = .ok (.bipush 7, 2) := by decide +kernel
theorem dX3_init_7 : decode cX3_init 7 = .ok (.newarray .int, 2) := by decide +kernel
theorem dX3_init_9 : decode cX3_init 9 = .ok (.putfield 9, 3) := by decide +kernel
theorem dX3_init_12 : decode cX3_init 12 = .ok (.return_, 1) := by decide +kernel
def wfX3 : WF1 := fun u cI cZ => [(u 0, .inr (3, [.ref (u 1), .int 0, .int 0])), (u 1, .inl (cI, 7, .inl (fun _ => 0)))]
theorem ciX3 : CalI (kmi yX3_init cX3_init 1 12) := ⟨⟨wd_282, wd_122, ⟨by decide +kernel, by decide +kernel⟩, by decide +kernel⟩, wd_281, rfl⟩
set_option maxHeartbeats 4000000 in
set_option maxRecDepth 100000 in
theorem knX3 : KN (kmi yX3_init cX3_init 1 12) 1 7 3 [.null, .int 0, .int 0] wfX3 := by
  refine KN_of (by decide +kernel) (fun X h0 hK hN => ?_)
  refine J_aload_n dX3_init_0 0 rfl ?_
  refine J_objInit wd_283 wd_131 wd_132 (Nat.le_of_ble_eq_true rfl) (Nat.le_of_ble_eq_true rfl) dX3_init_1 ?_
  refine J_aload_n dX3_init_4 0 rfl ?_
  refine J_bipush (v := 7) dX3_init_5 rfl ?_
  refine J_newa (N := 7) wd_157 rfl (by decide) (by rw [hK]; exact Nat.le_of_ble_eq_true rfl) (by rw [hN]; exact Nat.le_of_ble_eq_true rfl) dX3_init_7 (fun q1 => ?_)
  refine J_pf (q0 := 0) (j := 0) hclX3 rfl (by decide) wd_284 rfl ⟨rfl, rfl⟩ rfl (tyX3_ok 0 (by decide)) rfl rfl (Nat.le_of_ble_eq_true rfl) dX3_init_9 ?_
  refine J_eq (ws' := [(h0, .inr (3, [.ref q1, .int 0, .int 0])), (q1, .inl (xI X, 7, .inl (fun _ => 0)))]) (k' := 1) (n' := 7) rfl rfl rfl ?_
  exact J_ret rfl dX3_init_12 (by rw [hK]) (by rw [hN]) (fun k => [h0, q1].getD k 0) rfl rfl
