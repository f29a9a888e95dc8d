/-! printed by wip/whole/ctor.py: the constructors -/
theorem dX10_init_0 : decode cX10_init 0 = .ok (.aload_n 0, 1) := by decide +kernel
theorem dX10_init_1 : decode cX10_init 1 = .ok (.invokespecial 1, 3) := by decide +kernel
theorem dX10_init_4 : decode cX10_init 4 = .ok (.aload_n 0, 1) := by decide +kernel
theorem dX10_init_5 : decode cX10_init 5 = .ok (.bipush 7, 2) := by decide +kernel
theorem dX10_init_7 : decode cX10_init 7 = .ok (.newarray .int, 2) := by decide +kernel
theorem dX10_init_9 : decode cX10_init 9 = .ok (.putfield 7, 3) := by decide +kernel
theorem dX10_init_12 : decode cX10_init 12 = .ok (.aload_n 0, 1) := by decide +kernel
theorem dX10_init_13 : decode cX10_init 13 = .ok (.bipush 7, 2) := by decide +kernel
theorem dX10_init_15 : decode cX10_init 15 = .ok (.newarray .int, 2) := by decide +kernel
theorem dX10_init_17 : decode cX10_init 17 = .ok (.putfield 13, 3) := by decide +kernel
theorem dX10_init_20 : decode cX10_init 20 = .ok (.aload_n 0, 1) := by decide +kernel
theorem dX10_init_21 : decode cX10_init 21 = .ok (.bipush 60, 2) := by decide +kernel
theorem dX10_init_23 : decode cX10_init 23 = .ok (.newarray .int, 2) := by decide +kernel
theorem dX10_init_25 : decode cX10_init 25 = .ok (.putfield 16, 3) := by decide +kernel
theorem dX10_init_28 : decode cX10_init 28 = .ok (.aload_n 0, 1) := by decide +kernel
theorem dX10_init_29 : decode cX10_init 29 = .ok (.bipush 60, 2) := by decide +kernel
theorem dX10_init_31 : decode cX10_init 31 = .ok (.newarray .int, 2) := by decide +kernel
theorem dX10_init_33 : decode cX10_init 33 = .ok (.putfield 19, 3) := by decide +kernel
theorem dX10_init_36 : decode cX10_init 36 = .ok (.aload_n 0, 1) := by decide +kernel
theorem dX10_init_37 : decode cX10_init 37 = .ok (.bipush 60, 2) := by decide +kernel
theorem dX10_init_39 : decode cX10_init 39 = .ok (.newarray .int, 2) := by decide +kernel
theorem dX10_init_41 : decode cX10_init 41 = .ok (.putfield 22, 3) := by decide +kernel
theorem dX10_init_44 : decode cX10_init 44 = .ok (.aload_n 0, 1) := by decide +kernel
theorem dX10_init_45 : decode cX10_init 45 = .ok (.bipush 60, 2) := by decide +kernel
theorem dX10_init_47 : decode cX10_init 47 = .ok (.newarray .int, 2) := by decide +kernel
theorem dX10_init_49 : decode cX10_init 49 = .ok (.putfield 25, 3) := by decide +kernel
theorem dX10_init_52 : decode cX10_init 52 = .ok (.aload_n 0, 1) := by decide +kernel
theorem dX10_init_53 : decode cX10_init 53 = .ok (.bipush 60, 2) := by decide +kernel
theorem dX10_init_55 : decode cX10_init 55 = .ok (.newarray .int, 2) := by decide +kernel
theorem dX10_init_57 : decode cX10_init 57 = .ok (.putfield 28, 3) := by decide +kernel
theorem dX10_init_60 : decode cX10_init 60 = .ok (.aload_n 0, 1) := by decide +kernel
theorem dX10_init_61 : decode cX10_init 61 = .ok (.bipush 60, 2) := by decide +kernel
theorem dX10_init_63 : decode cX10_init 63 = .ok (.newarray .int, 2) := by decide +kernel
theorem dX10_init_65 : decode cX10_init 65 = .ok (.putfield 31, 3) := by decide +kernel
theorem dX10_init_68 : decode cX10_init 68 = .ok (.aload_n 0, 1) := by decide +kernel
theorem dX10_init_69 : decode cX10_init 69 = .ok (.iconst 4, 1) := by decide +kernel
theorem dX10_init_70 : decode cX10_init 70 = .ok (.putfield 34, 3) := by decide +kernel
theorem dX10_init_73 : decode cX10_init 73 = .ok (.aload_n 0, 1) := by decide +kernel
theorem dX10_init_74 : decode cX10_init 74 = .ok (.bipush 60, 2) := by decide +kernel
theorem dX10_init_76 : decode cX10_init 76 = .ok (.newarray .int, 2) := by decide +kernel
theorem dX10_init_78 : decode cX10_init 78 = .ok (.putfield 38, 3) := by decide +kernel
theorem dX10_init_81 : decode cX10_init 81 = .ok (.aload_n 0, 1) := by decide +kernel
theorem dX10_init_82 : decode cX10_init 82 = .ok (.bipush 20, 2) := by decide +kernel
theorem dX10_init_84 : decode cX10_init 84 = .ok (.newarray .int, 2) := by decide +kernel
theorem dX10_init_86 : decode cX10_init 86 = .ok (.putfield 41, 3) := by decide +kernel
theorem dX10_init_89 : decode cX10_init 89 = .ok (.aload_n 0, 1) := by decide +kernel
theorem dX10_init_90 : decode cX10_init 90 = .ok (.bipush 20, 2) := by decide +kernel
theorem dX10_init_92 : decode cX10_init 92 = .ok (.newarray .int, 2) := by decide +kernel
theorem dX10_init_94 : decode cX10_init 94 = .ok (.putfield 44, 3) := by decide +kernel
theorem dX10_init_97 : decode cX10_init 97 = .ok (.aload_n 0, 1) := by decide +kernel
theorem dX10_init_98 : decode cX10_init 98 = .ok (.bipush 20, 2) := by decide +kernel
theorem dX10_init_100 : decode cX10_init 100 = .ok (.newarray .int, 2) := by decide +kernel
theorem dX10_init_102 : decode cX10_init 102 = .ok (.putfield 47, 3) := by decide +kernel
theorem dX10_init_105 : decode cX10_init 105 = .ok (.aload_n 0, 1) := by decide +kernel
theorem dX10_init_106 : decode cX10_init 106 = .ok (.bipush 20, 2) := by decide +kernel
theorem dX10_init_108 : decode cX10_init 108 = .ok (.newarray .int, 2) := by decide +kernel
theorem dX10_init_110 : decode cX10_init 110 = .ok (.putfield 50, 3) := by decide +kernel
theorem dX10_init_113 : decode cX10_init 113 = .ok (.aload_n 0, 1) := by decide +kernel
theorem dX10_init_114 : decode cX10_init 114 = .ok (.bipush 20, 2) := by decide +kernel
theorem dX10_init_116 : decode cX10_init 116 = .ok (.newarray .int, 2) := by decide +kernel
theorem dX10_init_118 : decode cX10_init 118 = .ok (.putfield 53, 3) := by decide +kernel
theorem dX10_init_121 : decode cX10_init 121 = .ok (.aload_n 0, 1) := by decide +kernel
theorem dX10_init_122 : decode cX10_init 122 = .ok (.bipush 20, 2) := by decide +kernel
theorem dX10_init_124 : decode cX10_init 124 = .ok (.newarray .int, 2) := by decide +kernel
theorem dX10_init_126 : decode cX10_init 126 = .ok (.putfield 56, 3) := by decide +kernel
theorem dX10_init_129 : decode cX10_init 129 = .ok (.aload_n 0, 1) := by decide +kernel
theorem dX10_init_130 : decode cX10_init 130 = .ok (.sipush 147, 3) := by decide +kernel
theorem dX10_init_133 : decode cX10_init 133 = .ok (.newarray .int, 2) := by decide +kernel
theorem dX10_init_135 : decode cX10_init 135 = .ok (.putfield 59, 3) := by decide +kernel
theorem dX10_init_138 : decode cX10_init 138 = .ok (.aload_n 0, 1) := by decide +kernel
theorem dX10_init_139 : decode cX10_init 139 = .ok (.bipush 7, 2) := by decide +kernel
theorem dX10_init_141 : decode cX10_init 141 = .ok (.newarray .int, 2) := by decide +kernel
theorem dX10_init_143 : decode cX10_init 143 = .ok (.putfield 62, 3) := by decide +kernel
theorem dX10_init_146 : decode cX10_init 146 = .ok (.aload_n 0, 1) := by decide +kernel
theorem dX10_init_147 : decode cX10_init 147 = .ok (.bipush 7, 2) := by decide +kernel
theorem dX10_init_149 : decode cX10_init 149 = .ok (.newarray .int, 2) := by decide +kernel
theorem dX10_init_151 : decode cX10_init 151 = .ok (.putfield 65, 3) := by decide +kernel
theorem dX10_init_154 : decode cX10_init 154 = .ok (.aload_n 0, 1) := by decide +kernel
theorem dX10_init_155 : decode cX10_init 155 = .ok (.bipush 7, 2) := by decide +kernel
theorem dX10_init_157 : decode cX10_init 157 = .ok (.newarray .int, 2) := by decide +kernel
theorem dX10_init_159 : decode cX10_init 159 = .ok (.putfield 68, 3) := by decide +kernel
theorem dX10_init_162 : decode cX10_init 162 = .ok (.aload_n 0, 1) := by decide +kernel
theorem dX10_init_163 : decode cX10_init 163 = .ok (.bipush 7, 2) := by decide +kernel
theorem dX10_init_165 : decode cX10_init 165 = .ok (.newarray .int, 2) := by decide +kernel
theorem dX10_init_167 : decode cX10_init 167 = .ok (.putfield 71, 3) := by decide +kernel
theorem dX10_init_170 : decode cX10_init 170 = .ok (.aload_n 0, 1) := by decide +kernel
theorem dX10_init_171 : decode cX10_init 171 = .ok (.bipush 7, 2) := by decide +kernel
theorem dX10_init_173 : decode cX10_init 173 = .ok (.newarray .int, 2) := by decide +kernel
theorem dX10_init_175 : decode cX10_init 175 = .ok (.putfield 74, 3) := by decide +kernel
theorem dX10_init_178 : decode cX10_init 178 = .ok (.aload_n 0, 1) := by decide +kernel
theorem dX10_init_179 : decode cX10_init 179 = .ok (.sipush 154, 3) := by decide +kernel
theorem dX10_init_182 : decode cX10_init 182 = .ok (.newarray .int, 2) := by decide +kernel
theorem dX10_init_184 : decode cX10_init 184 = .ok (.putfield 77, 3) := by decide +kernel
theorem dX10_init_187 : decode cX10_init 187 = .ok (.aload_n 0, 1) := by decide +kernel
theorem dX10_init_188 : decode cX10_init 188 = .ok (.sipush 154, 3) := by decide +kernel
theorem dX10_init_191 : decode cX10_init 191 = .ok (.newarray .int, 2) := by decide +kernel
theorem dX10_init_193 : decode cX10_init 193 = .ok (.putfield 80, 3) := by decide +kernel
theorem dX10_init_196 : decode cX10_init 196 = .ok (.aload_n 0, 1) := by decide +kernel
theorem dX10_init_197 : decode cX10_init 197 = .ok (.bipush 49, 2) := by decide +kernel
theorem dX10_init_199 : decode cX10_init 199 = .ok (.newarray .boolean, 2) := by decide +kernel
theorem dX10_init_201 : decode cX10_init 201 = .ok (.putfield 83, 3) := by decide +kernel
theorem dX10_init_204 : decode cX10_init 204 = .ok (.aload_n 0, 1) := by decide +kernel
theorem dX10_init_205 : decode cX10_init 205 = .ok (.bipush 6, 2) := by decide +kernel
theorem dX10_init_207 : decode cX10_init 207 = .ok (.newarray .int, 2) := by decide +kernel
theorem dX10_init_209 : decode cX10_init 209 = .ok (.putfield 87, 3) := by decide +kernel
theorem dX10_init_212 : decode cX10_init 212 = .ok (.aload_n 0, 1) := by decide +kernel
theorem dX10_init_213 : decode cX10_init 213 = .ok (.bipush 6, 2) := by decide +kernel
theorem dX10_init_215 : decode cX10_init 215 = .ok (.newarray .int, 2) := by decide +kernel
theorem dX10_init_217 : decode cX10_init 217 = .ok (.putfield 90, 3) := by decide +kernel
theorem dX10_init_220 : decode cX10_init 220 = .ok (.aload_n 0, 1) := by decide +kernel
theorem dX10_init_221 : decode cX10_init 221 = .ok (.bipush 6, 2) := by decide +kernel
theorem dX10_init_223 : decode cX10_init 223 = .ok (.newarray .boolean, 2) := by decide +kernel
theorem dX10_init_225 : decode cX10_init 225 = .ok (.putfield 93, 3) := by decide +kernel
theorem dX10_init_228 : decode cX10_init 228 = .ok (.return_, 1) := by decide +kernel
def wfX10 : WF1 := fun u cI cZ => [(u 0, .inr (10, [.ref (u 1), .ref (u 2), .ref (u 3), .ref (u 4), .ref (u 5), .ref (u 6), .ref (u 7), .ref (u 8), .int 4, .int 0, .int 0, .ref (u 9), .int 0, .int 0, .int 0, .ref (u 10), .ref (u 11), .ref (u 12), .ref (u 13), .ref (u 14), .ref (u 15), .ref (u 16), .ref (u 17), .ref (u 18), .ref (u 19), .ref (u 20), .ref (u 21), .ref (u 22), .ref (u 23), .ref (u 24), .ref (u 25), .ref (u 26), .ref (u 27), .int 0])), (u 1, .inl (cI, 7, .inl (fun _ => 0))), (u 2, .inl (cI, 7, .inl (fun _ => 0))), (u 3, .inl (cI, 60, .inl (fun _ => 0))), (u 4, .inl (cI, 60, .inl (fun _ => 0))), (u 5, .inl (cI, 60, .inl (fun _ => 0))), (u 6, .inl (cI, 60, .inl (fun _ => 0))), (u 7, .inl (cI, 60, .inl (fun _ => 0))), (u 8, .inl (cI, 60, .inl (fun _ => 0))), (u 9, .inl (cI, 60, .inl (fun _ => 0))), (u 10, .inl (cI, 20, .inl (fun _ => 0))), (u 11, .inl (cI, 20, .inl (fun _ => 0))), (u 12, .inl (cI, 20, .inl (fun _ => 0))), (u 13, .inl (cI, 20, .inl (fun _ => 0))), (u 14, .inl (cI, 20, .inl (fun _ => 0))), (u 15, .inl (cI, 20, .inl (fun _ => 0))), (u 16, .inl (cI, 147, .inl (fun _ => 0))), (u 17, .inl (cI, 7, .inl (fun _ => 0))), (u 18, .inl (cI, 7, .inl (fun _ => 0))), (u 19, .inl (cI, 7, .inl (fun _ => 0))), (u 20, .inl (cI, 7, .inl (fun _ => 0))), (u 21, .inl (cI, 7, .inl (fun _ => 0))), (u 22, .inl (cI, 154, .inl (fun _ => 0))), (u 23, .inl (cI, 154, .inl (fun _ => 0))), (u 24, .inl (cZ, 49, .inl (fun _ => 0))), (u 25, .inl (cI, 6, .inl (fun _ => 0))), (u 26, .inl (cI, 6, .inl (fun _ => 0))), (u 27, .inl (cZ, 6, .inl (fun _ => 0)))]
theorem ciX10 : CalI (kmi yX10_init cX10_init 1 12) := ⟨⟨wd_894, wd_123, ⟨by decide +kernel, by decide +kernel⟩, by decide +kernel⟩, wd_893, rfl⟩
set_option maxHeartbeats 4000000 in
set_option maxRecDepth 100000 in
theorem knX10 : KN (kmi yX10_init cX10_init 1 12) 27 1111 10 [.null, .null, .null, .null, .null, .null, .null, .null, .int 0, .int 0, .int 0, .null, .int 0, .int 0, .int 0, .null, .null, .null, .null, .null, .null, .null, .null, .null, .null, .null, .null, .null, .null, .null, .null, .null, .null, .int 0] wfX10 := by
  refine KN_of (by decide +kernel) (fun X h0 hK hN => ?_)
  refine J_aload_n dX10_init_0 0 rfl ?_
  refine J_objInit wd_895 wd_131 wd_132 (Nat.le_of_ble_eq_true rfl) (Nat.le_of_ble_eq_true rfl) dX10_init_1 ?_
  refine J_aload_n dX10_init_4 0 rfl ?_
  refine J_bipush (v := 7) dX10_init_5 rfl ?_
  refine J_newa (N := 7) wd_157 rfl (by decide) (by rw [hK]; exact Nat.le_of_ble_eq_true rfl) (by rw [hN]; exact Nat.le_of_ble_eq_true rfl) dX10_init_7 (fun q1 => ?_)
  refine J_pf (q0 := 0) (j := 0) hclX10 rfl (by decide) wd_896 rfl ⟨rfl, rfl⟩ rfl (tyX10_ok 0 (by decide)) rfl rfl (Nat.le_of_ble_eq_true rfl) dX10_init_9 ?_
  refine J_eq (ws' := [(h0, .inr (10, [.ref q1, .null, .null, .null, .null, .null, .null, .null, .int 0, .int 0, .int 0, .null, .int 0, .int 0, .int 0, .null, .null, .null, .null, .null, .null, .null, .null, .null, .null, .null, .null, .null, .null, .null, .null, .null, .null, .int 0])), (q1, .inl (xI X, 7, .inl (fun _ => 0)))]) (k' := 1) (n' := 7) rfl rfl rfl ?_
  refine J_aload_n dX10_init_12 0 rfl ?_
  refine J_bipush (v := 7) dX10_init_13 rfl ?_
  refine J_newa (N := 7) wd_157 rfl (by decide) (by rw [hK]; exact Nat.le_of_ble_eq_true rfl) (by rw [hN]; exact Nat.le_of_ble_eq_true rfl) dX10_init_15 (fun q2 => ?_)
  refine J_pf (q0 := 0) (j := 1) hclX10 rfl (by decide) wd_897 rfl ⟨rfl, rfl⟩ rfl (tyX10_ok 1 (by decide)) rfl rfl (Nat.le_of_ble_eq_true rfl) dX10_init_17 ?_
  refine J_eq (ws' := [(h0, .inr (10, [.ref q1, .ref q2, .null, .null, .null, .null, .null, .null, .int 0, .int 0, .int 0, .null, .int 0, .int 0, .int 0, .null, .null, .null, .null, .null, .null, .null, .null, .null, .null, .null, .null, .null, .null, .null, .null, .null, .null, .int 0])), (q1, .inl (xI X, 7, .inl (fun _ => 0))), (q2, .inl (xI X, 7, .inl (fun _ => 0)))]) (k' := 2) (n' := 14) rfl rfl rfl ?_
  refine J_aload_n dX10_init_20 0 rfl ?_
  refine J_bipush (v := 60) dX10_init_21 rfl ?_
  refine J_newa (N := 60) wd_157 rfl (by decide) (by rw [hK]; exact Nat.le_of_ble_eq_true rfl) (by rw [hN]; exact Nat.le_of_ble_eq_true rfl) dX10_init_23 (fun q3 => ?_)
  refine J_pf (q0 := 0) (j := 2) hclX10 rfl (by decide) wd_898 rfl ⟨rfl, rfl⟩ rfl (tyX10_ok 2 (by decide)) rfl rfl (Nat.le_of_ble_eq_true rfl) dX10_init_25 ?_
  refine J_eq (ws' := [(h0, .inr (10, [.ref q1, .ref q2, .ref q3, .null, .null, .null, .null, .null, .int 0, .int 0, .int 0, .null, .int 0, .int 0, .int 0, .null, .null, .null, .null, .null, .null, .null, .null, .null, .null, .null, .null, .null, .null, .null, .null, .null, .null, .int 0])), (q1, .inl (xI X, 7, .inl (fun _ => 0))), (q2, .inl (xI X, 7, .inl (fun _ => 0))), (q3, .inl (xI X, 60, .inl (fun _ => 0)))]) (k' := 3) (n' := 74) rfl rfl rfl ?_
  refine J_aload_n dX10_init_28 0 rfl ?_
  refine J_bipush (v := 60) dX10_init_29 rfl ?_
  refine J_newa (N := 60) wd_157 rfl (by decide) (by rw [hK]; exact Nat.le_of_ble_eq_true rfl) (by rw [hN]; exact Nat.le_of_ble_eq_true rfl) dX10_init_31 (fun q4 => ?_)
  refine J_pf (q0 := 0) (j := 3) hclX10 rfl (by decide) wd_899 rfl ⟨rfl, rfl⟩ rfl (tyX10_ok 3 (by decide)) rfl rfl (Nat.le_of_ble_eq_true rfl) dX10_init_33 ?_
  refine J_eq (ws' := [(h0, .inr (10, [.ref q1, .ref q2, .ref q3, .ref q4, .null, .null, .null, .null, .int 0, .int 0, .int 0, .null, .int 0, .int 0, .int 0, .null, .null, .null, .null, .null, .null, .null, .null, .null, .null, .null, .null, .null, .null, .null, .null, .null, .null, .int 0])), (q1, .inl (xI X, 7, .inl (fun _ => 0))), (q2, .inl (xI X, 7, .inl (fun _ => 0))), (q3, .inl (xI X, 60, .inl (fun _ => 0))), (q4, .inl (xI X, 60, .inl (fun _ => 0)))]) (k' := 4) (n' := 134) rfl rfl rfl ?_
  refine J_aload_n dX10_init_36 0 rfl ?_
  refine J_bipush (v := 60) dX10_init_37 rfl ?_
  refine J_newa (N := 60) wd_157 rfl (by decide) (by rw [hK]; exact Nat.le_of_ble_eq_true rfl) (by rw [hN]; exact Nat.le_of_ble_eq_true rfl) dX10_init_39 (fun q5 => ?_)
  refine J_pf (q0 := 0) (j := 4) hclX10 rfl (by decide) wd_900 rfl ⟨rfl, rfl⟩ rfl (tyX10_ok 4 (by decide)) rfl rfl (Nat.le_of_ble_eq_true rfl) dX10_init_41 ?_
  refine J_eq (ws' := [(h0, .inr (10, [.ref q1, .ref q2, .ref q3, .ref q4, .ref q5, .null, .null, .null, .int 0, .int 0, .int 0, .null, .int 0, .int 0, .int 0, .null, .null, .null, .null, .null, .null, .null, .null, .null, .null, .null, .null, .null, .null, .null, .null, .null, .null, .int 0])), (q1, .inl (xI X, 7, .inl (fun _ => 0))), (q2, .inl (xI X, 7, .inl (fun _ => 0))), (q3, .inl (xI X, 60, .inl (fun _ => 0))), (q4, .inl (xI X, 60, .inl (fun _ => 0))), (q5, .inl (xI X, 60, .inl (fun _ => 0)))]) (k' := 5) (n' := 194) rfl rfl rfl ?_
  refine J_aload_n dX10_init_44 0 rfl ?_
  refine J_bipush (v := 60) dX10_init_45 rfl ?_
  refine J_newa (N := 60) wd_157 rfl (by decide) (by rw [hK]; exact Nat.le_of_ble_eq_true rfl) (by rw [hN]; exact Nat.le_of_ble_eq_true rfl) dX10_init_47 (fun q6 => ?_)
  refine J_pf (q0 := 0) (j := 5) hclX10 rfl (by decide) wd_901 rfl ⟨rfl, rfl⟩ rfl (tyX10_ok 5 (by decide)) rfl rfl (Nat.le_of_ble_eq_true rfl) dX10_init_49 ?_
  refine J_eq (ws' := [(h0, .inr (10, [.ref q1, .ref q2, .ref q3, .ref q4, .ref q5, .ref q6, .null, .null, .int 0, .int 0, .int 0, .null, .int 0, .int 0, .int 0, .null, .null, .null, .null, .null, .null, .null, .null, .null, .null, .null, .null, .null, .null, .null, .null, .null, .null, .int 0])), (q1, .inl (xI X, 7, .inl (fun _ => 0))), (q2, .inl (xI X, 7, .inl (fun _ => 0))), (q3, .inl (xI X, 60, .inl (fun _ => 0))), (q4, .inl (xI X, 60, .inl (fun _ => 0))), (q5, .inl (xI X, 60, .inl (fun _ => 0))), (q6, .inl (xI X, 60, .inl (fun _ => 0)))]) (k' := 6) (n' := 254) rfl rfl rfl ?_
  refine J_aload_n dX10_init_52 0 rfl ?_
  refine J_bipush (v := 60) dX10_init_53 rfl ?_
  refine J_newa (N := 60) wd_157 rfl (by decide) (by rw [hK]; exact Nat.le_of_ble_eq_true rfl) (by rw [hN]; exact Nat.le_of_ble_eq_true rfl) dX10_init_55 (fun q7 => ?_)
  refine J_pf (q0 := 0) (j := 6) hclX10 rfl (by decide) wd_902 rfl ⟨rfl, rfl⟩ rfl (tyX10_ok 6 (by decide)) rfl rfl (Nat.le_of_ble_eq_true rfl) dX10_init_57 ?_
  refine J_eq (ws' := [(h0, .inr (10, [.ref q1, .ref q2, .ref q3, .ref q4, .ref q5, .ref q6, .ref q7, .null, .int 0, .int 0, .int 0, .null, .int 0, .int 0, .int 0, .null, .null, .null, .null, .null, .null, .null, .null, .null, .null, .null, .null, .null, .null, .null, .null, .null, .null, .int 0])), (q1, .inl (xI X, 7, .inl (fun _ => 0))), (q2, .inl (xI X, 7, .inl (fun _ => 0))), (q3, .inl (xI X, 60, .inl (fun _ => 0))), (q4, .inl (xI X, 60, .inl (fun _ => 0))), (q5, .inl (xI X, 60, .inl (fun _ => 0))), (q6, .inl (xI X, 60, .inl (fun _ => 0))), (q7, .inl (xI X, 60, .inl (fun _ => 0)))]) (k' := 7) (n' := 314) rfl rfl rfl ?_
  refine J_aload_n dX10_init_60 0 rfl ?_
  refine J_bipush (v := 60) dX10_init_61 rfl ?_
  refine J_newa (N := 60) wd_157 rfl (by decide) (by rw [hK]; exact Nat.le_of_ble_eq_true rfl) (by rw [hN]; exact Nat.le_of_ble_eq_true rfl) dX10_init_63 (fun q8 => ?_)
  refine J_pf (q0 := 0) (j := 7) hclX10 rfl (by decide) wd_903 rfl ⟨rfl, rfl⟩ rfl (tyX10_ok 7 (by decide)) rfl rfl (Nat.le_of_ble_eq_true rfl) dX10_init_65 ?_
  refine J_eq (ws' := [(h0, .inr (10, [.ref q1, .ref q2, .ref q3, .ref q4, .ref q5, .ref q6, .ref q7, .ref q8, .int 0, .int 0, .int 0, .null, .int 0, .int 0, .int 0, .null, .null, .null, .null, .null, .null, .null, .null, .null, .null, .null, .null, .null, .null, .null, .null, .null, .null, .int 0])), (q1, .inl (xI X, 7, .inl (fun _ => 0))), (q2, .inl (xI X, 7, .inl (fun _ => 0))), (q3, .inl (xI X, 60, .inl (fun _ => 0))), (q4, .inl (xI X, 60, .inl (fun _ => 0))), (q5, .inl (xI X, 60, .inl (fun _ => 0))), (q6, .inl (xI X, 60, .inl (fun _ => 0))), (q7, .inl (xI X, 60, .inl (fun _ => 0))), (q8, .inl (xI X, 60, .inl (fun _ => 0)))]) (k' := 8) (n' := 374) rfl rfl rfl ?_
  refine J_aload_n dX10_init_68 0 rfl ?_
  refine J_iconst (v := 4) dX10_init_69 rfl ?_
  refine J_pi (q0 := 0) (j := 8) hclX10 rfl (by decide) wd_904 rfl (by decide +kernel) (Nat.le_of_ble_eq_true rfl) dX10_init_70 ?_
  refine J_eq (ws' := [(h0, .inr (10, [.ref q1, .ref q2, .ref q3, .ref q4, .ref q5, .ref q6, .ref q7, .ref q8, .int 4, .int 0, .int 0, .null, .int 0, .int 0, .int 0, .null, .null, .null, .null, .null, .null, .null, .null, .null, .null, .null, .null, .null, .null, .null, .null, .null, .null, .int 0])), (q1, .inl (xI X, 7, .inl (fun _ => 0))), (q2, .inl (xI X, 7, .inl (fun _ => 0))), (q3, .inl (xI X, 60, .inl (fun _ => 0))), (q4, .inl (xI X, 60, .inl (fun _ => 0))), (q5, .inl (xI X, 60, .inl (fun _ => 0))), (q6, .inl (xI X, 60, .inl (fun _ => 0))), (q7, .inl (xI X, 60, .inl (fun _ => 0))), (q8, .inl (xI X, 60, .inl (fun _ => 0)))]) (k' := 8) (n' := 374) rfl rfl rfl ?_
  refine J_aload_n dX10_init_73 0 rfl ?_
  refine J_bipush (v := 60) dX10_init_74 rfl ?_
  refine J_newa (N := 60) wd_157 rfl (by decide) (by rw [hK]; exact Nat.le_of_ble_eq_true rfl) (by rw [hN]; exact Nat.le_of_ble_eq_true rfl) dX10_init_76 (fun q9 => ?_)
  refine J_pf (q0 := 0) (j := 11) hclX10 rfl (by decide) wd_907 rfl ⟨rfl, rfl⟩ rfl (tyX10_ok 11 (by decide)) rfl rfl (Nat.le_of_ble_eq_true rfl) dX10_init_78 ?_
  refine J_eq (ws' := [(h0, .inr (10, [.ref q1, .ref q2, .ref q3, .ref q4, .ref q5, .ref q6, .ref q7, .ref q8, .int 4, .int 0, .int 0, .ref q9, .int 0, .int 0, .int 0, .null, .null, .null, .null, .null, .null, .null, .null, .null, .null, .null, .null, .null, .null, .null, .null, .null, .null, .int 0])), (q1, .inl (xI X, 7, .inl (fun _ => 0))), (q2, .inl (xI X, 7, .inl (fun _ => 0))), (q3, .inl (xI X, 60, .inl (fun _ => 0))), (q4, .inl (xI X, 60, .inl (fun _ => 0))), (q5, .inl (xI X, 60, .inl (fun _ => 0))), (q6, .inl (xI X, 60, .inl (fun _ => 0))), (q7, .inl (xI X, 60, .inl (fun _ => 0))), (q8, .inl (xI X, 60, .inl (fun _ => 0))), (q9, .inl (xI X, 60, .inl (fun _ => 0)))]) (k' := 9) (n' := 434) rfl rfl rfl ?_
  refine J_aload_n dX10_init_81 0 rfl ?_
  refine J_bipush (v := 20) dX10_init_82 rfl ?_
  refine J_newa (N := 20) wd_157 rfl (by decide) (by rw [hK]; exact Nat.le_of_ble_eq_true rfl) (by rw [hN]; exact Nat.le_of_ble_eq_true rfl) dX10_init_84 (fun q10 => ?_)
  refine J_pf (q0 := 0) (j := 15) hclX10 rfl (by decide) wd_911 rfl ⟨rfl, rfl⟩ rfl (tyX10_ok 15 (by decide)) rfl rfl (Nat.le_of_ble_eq_true rfl) dX10_init_86 ?_
  refine J_eq (ws' := [(h0, .inr (10, [.ref q1, .ref q2, .ref q3, .ref q4, .ref q5, .ref q6, .ref q7, .ref q8, .int 4, .int 0, .int 0, .ref q9, .int 0, .int 0, .int 0, .ref q10, .null, .null, .null, .null, .null, .null, .null, .null, .null, .null, .null, .null, .null, .null, .null, .null, .null, .int 0])), (q1, .inl (xI X, 7, .inl (fun _ => 0))), (q2, .inl (xI X, 7, .inl (fun _ => 0))), (q3, .inl (xI X, 60, .inl (fun _ => 0))), (q4, .inl (xI X, 60, .inl (fun _ => 0))), (q5, .inl (xI X, 60, .inl (fun _ => 0))), (q6, .inl (xI X, 60, .inl (fun _ => 0))), (q7, .inl (xI X, 60, .inl (fun _ => 0))), (q8, .inl (xI X, 60, .inl (fun _ => 0))), (q9, .inl (xI X, 60, .inl (fun _ => 0))), (q10, .inl (xI X, 20, .inl (fun _ => 0)))]) (k' := 10) (n' := 454) rfl rfl rfl ?_
  refine J_aload_n dX10_init_89 0 rfl ?_
  refine J_bipush (v := 20) dX10_init_90 rfl ?_
  refine J_newa (N := 20) wd_157 rfl (by decide) (by rw [hK]; exact Nat.le_of_ble_eq_true rfl) (by rw [hN]; exact Nat.le_of_ble_eq_true rfl) dX10_init_92 (fun q11 => ?_)
  refine J_pf (q0 := 0) (j := 16) hclX10 rfl (by decide) wd_912 rfl ⟨rfl, rfl⟩ rfl (tyX10_ok 16 (by decide)) rfl rfl (Nat.le_of_ble_eq_true rfl) dX10_init_94 ?_
  refine J_eq (ws' := [(h0, .inr (10, [.ref q1, .ref q2, .ref q3, .ref q4, .ref q5, .ref q6, .ref q7, .ref q8, .int 4, .int 0, .int 0, .ref q9, .int 0, .int 0, .int 0, .ref q10, .ref q11, .null, .null, .null, .null, .null, .null, .null, .null, .null, .null, .null, .null, .null, .null, .null, .null, .int 0])), (q1, .inl (xI X, 7, .inl (fun _ => 0))), (q2, .inl (xI X, 7, .inl (fun _ => 0))), (q3, .inl (xI X, 60, .inl (fun _ => 0))), (q4, .inl (xI X, 60, .inl (fun _ => 0))), (q5, .inl (xI X, 60, .inl (fun _ => 0))), (q6, .inl (xI X, 60, .inl (fun _ => 0))), (q7, .inl (xI X, 60, .inl (fun _ => 0))), (q8, .inl (xI X, 60, .inl (fun _ => 0))), (q9, .inl (xI X, 60, .inl (fun _ => 0))), (q10, .inl (xI X, 20, .inl (fun _ => 0))), (q11, .inl (xI X, 20, .inl (fun _ => 0)))]) (k' := 11) (n' := 474) rfl rfl rfl ?_
  refine J_aload_n dX10_init_97 0 rfl ?_
  refine J_bipush (v := 20) dX10_init_98 rfl ?_
  refine J_newa (N := 20) wd_157 rfl (by decide) (by rw [hK]; exact Nat.le_of_ble_eq_true rfl) (by rw [hN]; exact Nat.le_of_ble_eq_true rfl) dX10_init_100 (fun q12 => ?_)
  refine J_pf (q0 := 0) (j := 17) hclX10 rfl (by decide) wd_913 rfl ⟨rfl, rfl⟩ rfl (tyX10_ok 17 (by decide)) rfl rfl (Nat.le_of_ble_eq_true rfl) dX10_init_102 ?_
  refine J_eq (ws' := [(h0, .inr (10, [.ref q1, .ref q2, .ref q3, .ref q4, .ref q5, .ref q6, .ref q7, .ref q8, .int 4, .int 0, .int 0, .ref q9, .int 0, .int 0, .int 0, .ref q10, .ref q11, .ref q12, .null, .null, .null, .null, .null, .null, .null, .null, .null, .null, .null, .null, .null, .null, .null, .int 0])), (q1, .inl (xI X, 7, .inl (fun _ => 0))), (q2, .inl (xI X, 7, .inl (fun _ => 0))), (q3, .inl (xI X, 60, .inl (fun _ => 0))), (q4, .inl (xI X, 60, .inl (fun _ => 0))), (q5, .inl (xI X, 60, .inl (fun _ => 0))), (q6, .inl (xI X, 60, .inl (fun _ => 0))), (q7, .inl (xI X, 60, .inl (fun _ => 0))), (q8, .inl (xI X, 60, .inl (fun _ => 0))), (q9, .inl (xI X, 60, .inl (fun _ => 0))), (q10, .inl (xI X, 20, .inl (fun _ => 0))), (q11, .inl (xI X, 20, .inl (fun _ => 0))), (q12, .inl (xI X, 20, .inl (fun _ => 0)))]) (k' := 12) (n' := 494) rfl rfl rfl ?_
  refine J_aload_n dX10_init_105 0 rfl ?_
  refine J_bipush (v := 20) dX10_init_106 rfl ?_
  refine J_newa (N := 20) wd_157 rfl (by decide) (by rw [hK]; exact Nat.le_of_ble_eq_true rfl) (by rw [hN]; exact Nat.le_of_ble_eq_true rfl) dX10_init_108 (fun q13 => ?_)
  refine J_pf (q0 := 0) (j := 18) hclX10 rfl (by decide) wd_914 rfl ⟨rfl, rfl⟩ rfl (tyX10_ok 18 (by decide)) rfl rfl (Nat.le_of_ble_eq_true rfl) dX10_init_110 ?_
  refine J_eq (ws' := [(h0, .inr (10, [.ref q1, .ref q2, .ref q3, .ref q4, .ref q5, .ref q6, .ref q7, .ref q8, .int 4, .int 0, .int 0, .ref q9, .int 0, .int 0, .int 0, .ref q10, .ref q11, .ref q12, .ref q13, .null, .null, .null, .null, .null, .null, .null, .null, .null, .null, .null, .null, .null, .null, .int 0])), (q1, .inl (xI X, 7, .inl (fun _ => 0))), (q2, .inl (xI X, 7, .inl (fun _ => 0))), (q3, .inl (xI X, 60, .inl (fun _ => 0))), (q4, .inl (xI X, 60, .inl (fun _ => 0))), (q5, .inl (xI X, 60, .inl (fun _ => 0))), (q6, .inl (xI X, 60, .inl (fun _ => 0))), (q7, .inl (xI X, 60, .inl (fun _ => 0))), (q8, .inl (xI X, 60, .inl (fun _ => 0))), (q9, .inl (xI X, 60, .inl (fun _ => 0))), (q10, .inl (xI X, 20, .inl (fun _ => 0))), (q11, .inl (xI X, 20, .inl (fun _ => 0))), (q12, .inl (xI X, 20, .inl (fun _ => 0))), (q13, .inl (xI X, 20, .inl (fun _ => 0)))]) (k' := 13) (n' := 514) rfl rfl rfl ?_
  refine J_aload_n dX10_init_113 0 rfl ?_
  refine J_bipush (v := 20) dX10_init_114 rfl ?_
  refine J_newa (N := 20) wd_157 rfl (by decide) (by rw [hK]; exact Nat.le_of_ble_eq_true rfl) (by rw [hN]; exact Nat.le_of_ble_eq_true rfl) dX10_init_116 (fun q14 => ?_)
  refine J_pf (q0 := 0) (j := 19) hclX10 rfl (by decide) wd_915 rfl ⟨rfl, rfl⟩ rfl (tyX10_ok 19 (by decide)) rfl rfl (Nat.le_of_ble_eq_true rfl) dX10_init_118 ?_
  refine J_eq (ws' := [(h0, .inr (10, [.ref q1, .ref q2, .ref q3, .ref q4, .ref q5, .ref q6, .ref q7, .ref q8, .int 4, .int 0, .int 0, .ref q9, .int 0, .int 0, .int 0, .ref q10, .ref q11, .ref q12, .ref q13, .ref q14, .null, .null, .null, .null, .null, .null, .null, .null, .null, .null, .null, .null, .null, .int 0])), (q1, .inl (xI X, 7, .inl (fun _ => 0))), (q2, .inl (xI X, 7, .inl (fun _ => 0))), (q3, .inl (xI X, 60, .inl (fun _ => 0))), (q4, .inl (xI X, 60, .inl (fun _ => 0))), (q5, .inl (xI X, 60, .inl (fun _ => 0))), (q6, .inl (xI X, 60, .inl (fun _ => 0))), (q7, .inl (xI X, 60, .inl (fun _ => 0))), (q8, .inl (xI X, 60, .inl (fun _ => 0))), (q9, .inl (xI X, 60, .inl (fun _ => 0))), (q10, .inl (xI X, 20, .inl (fun _ => 0))), (q11, .inl (xI X, 20, .inl (fun _ => 0))), (q12, .inl (xI X, 20, .inl (fun _ => 0))), (q13, .inl (xI X, 20, .inl (fun _ => 0))), (q14, .inl (xI X, 20, .inl (fun _ => 0)))]) (k' := 14) (n' := 534) rfl rfl rfl ?_
  refine J_aload_n dX10_init_121 0 rfl ?_
  refine J_bipush (v := 20) dX10_init_122 rfl ?_
  refine J_newa (N := 20) wd_157 rfl (by decide) (by rw [hK]; exact Nat.le_of_ble_eq_true rfl) (by rw [hN]; exact Nat.le_of_ble_eq_true rfl) dX10_init_124 (fun q15 => ?_)
  refine J_pf (q0 := 0) (j := 20) hclX10 rfl (by decide) wd_916 rfl ⟨rfl, rfl⟩ rfl (tyX10_ok 20 (by decide)) rfl rfl (Nat.le_of_ble_eq_true rfl) dX10_init_126 ?_
  refine J_eq (ws' := [(h0, .inr (10, [.ref q1, .ref q2, .ref q3, .ref q4, .ref q5, .ref q6, .ref q7, .ref q8, .int 4, .int 0, .int 0, .ref q9, .int 0, .int 0, .int 0, .ref q10, .ref q11, .ref q12, .ref q13, .ref q14, .ref q15, .null, .null, .null, .null, .null, .null, .null, .null, .null, .null, .null, .null, .int 0])), (q1, .inl (xI X, 7, .inl (fun _ => 0))), (q2, .inl (xI X, 7, .inl (fun _ => 0))), (q3, .inl (xI X, 60, .inl (fun _ => 0))), (q4, .inl (xI X, 60, .inl (fun _ => 0))), (q5, .inl (xI X, 60, .inl (fun _ => 0))), (q6, .inl (xI X, 60, .inl (fun _ => 0))), (q7, .inl (xI X, 60, .inl (fun _ => 0))), (q8, .inl (xI X, 60, .inl (fun _ => 0))), (q9, .inl (xI X, 60, .inl (fun _ => 0))), (q10, .inl (xI X, 20, .inl (fun _ => 0))), (q11, .inl (xI X, 20, .inl (fun _ => 0))), (q12, .inl (xI X, 20, .inl (fun _ => 0))), (q13, .inl (xI X, 20, .inl (fun _ => 0))), (q14, .inl (xI X, 20, .inl (fun _ => 0))), (q15, .inl (xI X, 20, .inl (fun _ => 0)))]) (k' := 15) (n' := 554) rfl rfl rfl ?_
  refine J_aload_n dX10_init_129 0 rfl ?_
  refine J_sipush (v := 147) dX10_init_130 rfl ?_
  refine J_newa (N := 147) wd_157 rfl (by decide) (by rw [hK]; exact Nat.le_of_ble_eq_true rfl) (by rw [hN]; exact Nat.le_of_ble_eq_true rfl) dX10_init_133 (fun q16 => ?_)
  refine J_pf (q0 := 0) (j := 21) hclX10 rfl (by decide) wd_917 rfl ⟨rfl, rfl⟩ rfl (tyX10_ok 21 (by decide)) rfl rfl (Nat.le_of_ble_eq_true rfl) dX10_init_135 ?_
  refine J_eq (ws' := [(h0, .inr (10, [.ref q1, .ref q2, .ref q3, .ref q4, .ref q5, .ref q6, .ref q7, .ref q8, .int 4, .int 0, .int 0, .ref q9, .int 0, .int 0, .int 0, .ref q10, .ref q11, .ref q12, .ref q13, .ref q14, .ref q15, .ref q16, .null, .null, .null, .null, .null, .null, .null, .null, .null, .null, .null, .int 0])), (q1, .inl (xI X, 7, .inl (fun _ => 0))), (q2, .inl (xI X, 7, .inl (fun _ => 0))), (q3, .inl (xI X, 60, .inl (fun _ => 0))), (q4, .inl (xI X, 60, .inl (fun _ => 0))), (q5, .inl (xI X, 60, .inl (fun _ => 0))), (q6, .inl (xI X, 60, .inl (fun _ => 0))), (q7, .inl (xI X, 60, .inl (fun _ => 0))), (q8, .inl (xI X, 60, .inl (fun _ => 0))), (q9, .inl (xI X, 60, .inl (fun _ => 0))), (q10, .inl (xI X, 20, .inl (fun _ => 0))), (q11, .inl (xI X, 20, .inl (fun _ => 0))), (q12, .inl (xI X, 20, .inl (fun _ => 0))), (q13, .inl (xI X, 20, .inl (fun _ => 0))), (q14, .inl (xI X, 20, .inl (fun _ => 0))), (q15, .inl (xI X, 20, .inl (fun _ => 0))), (q16, .inl (xI X, 147, .inl (fun _ => 0)))]) (k' := 16) (n' := 701) rfl rfl rfl ?_
  refine J_aload_n dX10_init_138 0 rfl ?_
  refine J_bipush (v := 7) dX10_init_139 rfl ?_
  refine J_newa (N := 7) wd_157 rfl (by decide) (by rw [hK]; exact Nat.le_of_ble_eq_true rfl) (by rw [hN]; exact Nat.le_of_ble_eq_true rfl) dX10_init_141 (fun q17 => ?_)
  refine J_pf (q0 := 0) (j := 22) hclX10 rfl (by decide) wd_918 rfl ⟨rfl, rfl⟩ rfl (tyX10_ok 22 (by decide)) rfl rfl (Nat.le_of_ble_eq_true rfl) dX10_init_143 ?_
  refine J_eq (ws' := [(h0, .inr (10, [.ref q1, .ref q2, .ref q3, .ref q4, .ref q5, .ref q6, .ref q7, .ref q8, .int 4, .int 0, .int 0, .ref q9, .int 0, .int 0, .int 0, .ref q10, .ref q11, .ref q12, .ref q13, .ref q14, .ref q15, .ref q16, .ref q17, .null, .null, .null, .null, .null, .null, .null, .null, .null, .null, .int 0])), (q1, .inl (xI X, 7, .inl (fun _ => 0))), (q2, .inl (xI X, 7, .inl (fun _ => 0))), (q3, .inl (xI X, 60, .inl (fun _ => 0))), (q4, .inl (xI X, 60, .inl (fun _ => 0))), (q5, .inl (xI X, 60, .inl (fun _ => 0))), (q6, .inl (xI X, 60, .inl (fun _ => 0))), (q7, .inl (xI X, 60, .inl (fun _ => 0))), (q8, .inl (xI X, 60, .inl (fun _ => 0))), (q9, .inl (xI X, 60, .inl (fun _ => 0))), (q10, .inl (xI X, 20, .inl (fun _ => 0))), (q11, .inl (xI X, 20, .inl (fun _ => 0))), (q12, .inl (xI X, 20, .inl (fun _ => 0))), (q13, .inl (xI X, 20, .inl (fun _ => 0))), (q14, .inl (xI X, 20, .inl (fun _ => 0))), (q15, .inl (xI X, 20, .inl (fun _ => 0))), (q16, .inl (xI X, 147, .inl (fun _ => 0))), (q17, .inl (xI X, 7, .inl (fun _ => 0)))]) (k' := 17) (n' := 708) rfl rfl rfl ?_
  refine J_aload_n dX10_init_146 0 rfl ?_
  refine J_bipush (v := 7) dX10_init_147 rfl ?_
  refine J_newa (N := 7) wd_157 rfl (by decide) (by rw [hK]; exact Nat.le_of_ble_eq_true rfl) (by rw [hN]; exact Nat.le_of_ble_eq_true rfl) dX10_init_149 (fun q18 => ?_)
  refine J_pf (q0 := 0) (j := 23) hclX10 rfl (by decide) wd_919 rfl ⟨rfl, rfl⟩ rfl (tyX10_ok 23 (by decide)) rfl rfl (Nat.le_of_ble_eq_true rfl) dX10_init_151 ?_
  refine J_eq (ws' := [(h0, .inr (10, [.ref q1, .ref q2, .ref q3, .ref q4, .ref q5, .ref q6, .ref q7, .ref q8, .int 4, .int 0, .int 0, .ref q9, .int 0, .int 0, .int 0, .ref q10, .ref q11, .ref q12, .ref q13, .ref q14, .ref q15, .ref q16, .ref q17, .ref q18, .null, .null, .null, .null, .null, .null, .null, .null, .null, .int 0])), (q1, .inl (xI X, 7, .inl (fun _ => 0))), (q2, .inl (xI X, 7, .inl (fun _ => 0))), (q3, .inl (xI X, 60, .inl (fun _ => 0))), (q4, .inl (xI X, 60, .inl (fun _ => 0))), (q5, .inl (xI X, 60, .inl (fun _ => 0))), (q6, .inl (xI X, 60, .inl (fun _ => 0))), (q7, .inl (xI X, 60, .inl (fun _ => 0))), (q8, .inl (xI X, 60, .inl (fun _ => 0))), (q9, .inl (xI X, 60, .inl (fun _ => 0))), (q10, .inl (xI X, 20, .inl (fun _ => 0))), (q11, .inl (xI X, 20, .inl (fun _ => 0))), (q12, .inl (xI X, 20, .inl (fun _ => 0))), (q13, .inl (xI X, 20, .inl (fun _ => 0))), (q14, .inl (xI X, 20, .inl (fun _ => 0))), (q15, .inl (xI X, 20, .inl (fun _ => 0))), (q16, .inl (xI X, 147, .inl (fun _ => 0))), (q17, .inl (xI X, 7, .inl (fun _ => 0))), (q18, .inl (xI X, 7, .inl (fun _ => 0)))]) (k' := 18) (n' := 715) rfl rfl rfl ?_
  refine J_aload_n dX10_init_154 0 rfl ?_
  refine J_bipush (v := 7) dX10_init_155 rfl ?_
  refine J_newa (N := 7) wd_157 rfl (by decide) (by rw [hK]; exact Nat.le_of_ble_eq_true rfl) (by rw [hN]; exact Nat.le_of_ble_eq_true rfl) dX10_init_157 (fun q19 => ?_)
  refine J_pf (q0 := 0) (j := 24) hclX10 rfl (by decide) wd_920 rfl ⟨rfl, rfl⟩ rfl (tyX10_ok 24 (by decide)) rfl rfl (Nat.le_of_ble_eq_true rfl) dX10_init_159 ?_
  refine J_eq (ws' := [(h0, .inr (10, [.ref q1, .ref q2, .ref q3, .ref q4, .ref q5, .ref q6, .ref q7, .ref q8, .int 4, .int 0, .int 0, .ref q9, .int 0, .int 0, .int 0, .ref q10, .ref q11, .ref q12, .ref q13, .ref q14, .ref q15, .ref q16, .ref q17, .ref q18, .ref q19, .null, .null, .null, .null, .null, .null, .null, .null, .int 0])), (q1, .inl (xI X, 7, .inl (fun _ => 0))), (q2, .inl (xI X, 7, .inl (fun _ => 0))), (q3, .inl (xI X, 60, .inl (fun _ => 0))), (q4, .inl (xI X, 60, .inl (fun _ => 0))), (q5, .inl (xI X, 60, .inl (fun _ => 0))), (q6, .inl (xI X, 60, .inl (fun _ => 0))), (q7, .inl (xI X, 60, .inl (fun _ => 0))), (q8, .inl (xI X, 60, .inl (fun _ => 0))), (q9, .inl (xI X, 60, .inl (fun _ => 0))), (q10, .inl (xI X, 20, .inl (fun _ => 0))), (q11, .inl (xI X, 20, .inl (fun _ => 0))), (q12, .inl (xI X, 20, .inl (fun _ => 0))), (q13, .inl (xI X, 20, .inl (fun _ => 0))), (q14, .inl (xI X, 20, .inl (fun _ => 0))), (q15, .inl (xI X, 20, .inl (fun _ => 0))), (q16, .inl (xI X, 147, .inl (fun _ => 0))), (q17, .inl (xI X, 7, .inl (fun _ => 0))), (q18, .inl (xI X, 7, .inl (fun _ => 0))), (q19, .inl (xI X, 7, .inl (fun _ => 0)))]) (k' := 19) (n' := 722) rfl rfl rfl ?_
  refine J_aload_n dX10_init_162 0 rfl ?_
  refine J_bipush (v := 7) dX10_init_163 rfl ?_
  refine J_newa (N := 7) wd_157 rfl (by decide) (by rw [hK]; exact Nat.le_of_ble_eq_true rfl) (by rw [hN]; exact Nat.le_of_ble_eq_true rfl) dX10_init_165 (fun q20 => ?_)
  refine J_pf (q0 := 0) (j := 25) hclX10 rfl (by decide) wd_921 rfl ⟨rfl, rfl⟩ rfl (tyX10_ok 25 (by decide)) rfl rfl (Nat.le_of_ble_eq_true rfl) dX10_init_167 ?_
  refine J_eq (ws' := [(h0, .inr (10, [.ref q1, .ref q2, .ref q3, .ref q4, .ref q5, .ref q6, .ref q7, .ref q8, .int 4, .int 0, .int 0, .ref q9, .int 0, .int 0, .int 0, .ref q10, .ref q11, .ref q12, .ref q13, .ref q14, .ref q15, .ref q16, .ref q17, .ref q18, .ref q19, .ref q20, .null, .null, .null, .null, .null, .null, .null, .int 0])), (q1, .inl (xI X, 7, .inl (fun _ => 0))), (q2, .inl (xI X, 7, .inl (fun _ => 0))), (q3, .inl (xI X, 60, .inl (fun _ => 0))), (q4, .inl (xI X, 60, .inl (fun _ => 0))), (q5, .inl (xI X, 60, .inl (fun _ => 0))), (q6, .inl (xI X, 60, .inl (fun _ => 0))), (q7, .inl (xI X, 60, .inl (fun _ => 0))), (q8, .inl (xI X, 60, .inl (fun _ => 0))), (q9, .inl (xI X, 60, .inl (fun _ => 0))), (q10, .inl (xI X, 20, .inl (fun _ => 0))), (q11, .inl (xI X, 20, .inl (fun _ => 0))), (q12, .inl (xI X, 20, .inl (fun _ => 0))), (q13, .inl (xI X, 20, .inl (fun _ => 0))), (q14, .inl (xI X, 20, .inl (fun _ => 0))), (q15, .inl (xI X, 20, .inl (fun _ => 0))), (q16, .inl (xI X, 147, .inl (fun _ => 0))), (q17, .inl (xI X, 7, .inl (fun _ => 0))), (q18, .inl (xI X, 7, .inl (fun _ => 0))), (q19, .inl (xI X, 7, .inl (fun _ => 0))), (q20, .inl (xI X, 7, .inl (fun _ => 0)))]) (k' := 20) (n' := 729) rfl rfl rfl ?_
  refine J_aload_n dX10_init_170 0 rfl ?_
  refine J_bipush (v := 7) dX10_init_171 rfl ?_
  refine J_newa (N := 7) wd_157 rfl (by decide) (by rw [hK]; exact Nat.le_of_ble_eq_true rfl) (by rw [hN]; exact Nat.le_of_ble_eq_true rfl) dX10_init_173 (fun q21 => ?_)
  refine J_pf (q0 := 0) (j := 26) hclX10 rfl (by decide) wd_922 rfl ⟨rfl, rfl⟩ rfl (tyX10_ok 26 (by decide)) rfl rfl (Nat.le_of_ble_eq_true rfl) dX10_init_175 ?_
  refine J_eq (ws' := [(h0, .inr (10, [.ref q1, .ref q2, .ref q3, .ref q4, .ref q5, .ref q6, .ref q7, .ref q8, .int 4, .int 0, .int 0, .ref q9, .int 0, .int 0, .int 0, .ref q10, .ref q11, .ref q12, .ref q13, .ref q14, .ref q15, .ref q16, .ref q17, .ref q18, .ref q19, .ref q20, .ref q21, .null, .null, .null, .null, .null, .null, .int 0])), (q1, .inl (xI X, 7, .inl (fun _ => 0))), (q2, .inl (xI X, 7, .inl (fun _ => 0))), (q3, .inl (xI X, 60, .inl (fun _ => 0))), (q4, .inl (xI X, 60, .inl (fun _ => 0))), (q5, .inl (xI X, 60, .inl (fun _ => 0))), (q6, .inl (xI X, 60, .inl (fun _ => 0))), (q7, .inl (xI X, 60, .inl (fun _ => 0))), (q8, .inl (xI X, 60, .inl (fun _ => 0))), (q9, .inl (xI X, 60, .inl (fun _ => 0))), (q10, .inl (xI X, 20, .inl (fun _ => 0))), (q11, .inl (xI X, 20, .inl (fun _ => 0))), (q12, .inl (xI X, 20, .inl (fun _ => 0))), (q13, .inl (xI X, 20, .inl (fun _ => 0))), (q14, .inl (xI X, 20, .inl (fun _ => 0))), (q15, .inl (xI X, 20, .inl (fun _ => 0))), (q16, .inl (xI X, 147, .inl (fun _ => 0))), (q17, .inl (xI X, 7, .inl (fun _ => 0))), (q18, .inl (xI X, 7, .inl (fun _ => 0))), (q19, .inl (xI X, 7, .inl (fun _ => 0))), (q20, .inl (xI X, 7, .inl (fun _ => 0))), (q21, .inl (xI X, 7, .inl (fun _ => 0)))]) (k' := 21) (n' := 736) rfl rfl rfl ?_
  refine J_aload_n dX10_init_178 0 rfl ?_
  refine J_sipush (v := 154) dX10_init_179 rfl ?_
  refine J_newa (N := 154) wd_157 rfl (by decide) (by rw [hK]; exact Nat.le_of_ble_eq_true rfl) (by rw [hN]; exact Nat.le_of_ble_eq_true rfl) dX10_init_182 (fun q22 => ?_)
  refine J_pf (q0 := 0) (j := 27) hclX10 rfl (by decide) wd_923 rfl ⟨rfl, rfl⟩ rfl (tyX10_ok 27 (by decide)) rfl rfl (Nat.le_of_ble_eq_true rfl) dX10_init_184 ?_
  refine J_eq (ws' := [(h0, .inr (10, [.ref q1, .ref q2, .ref q3, .ref q4, .ref q5, .ref q6, .ref q7, .ref q8, .int 4, .int 0, .int 0, .ref q9, .int 0, .int 0, .int 0, .ref q10, .ref q11, .ref q12, .ref q13, .ref q14, .ref q15, .ref q16, .ref q17, .ref q18, .ref q19, .ref q20, .ref q21, .ref q22, .null, .null, .null, .null, .null, .int 0])), (q1, .inl (xI X, 7, .inl (fun _ => 0))), (q2, .inl (xI X, 7, .inl (fun _ => 0))), (q3, .inl (xI X, 60, .inl (fun _ => 0))), (q4, .inl (xI X, 60, .inl (fun _ => 0))), (q5, .inl (xI X, 60, .inl (fun _ => 0))), (q6, .inl (xI X, 60, .inl (fun _ => 0))), (q7, .inl (xI X, 60, .inl (fun _ => 0))), (q8, .inl (xI X, 60, .inl (fun _ => 0))), (q9, .inl (xI X, 60, .inl (fun _ => 0))), (q10, .inl (xI X, 20, .inl (fun _ => 0))), (q11, .inl (xI X, 20, .inl (fun _ => 0))), (q12, .inl (xI X, 20, .inl (fun _ => 0))), (q13, .inl (xI X, 20, .inl (fun _ => 0))), (q14, .inl (xI X, 20, .inl (fun _ => 0))), (q15, .inl (xI X, 20, .inl (fun _ => 0))), (q16, .inl (xI X, 147, .inl (fun _ => 0))), (q17, .inl (xI X, 7, .inl (fun _ => 0))), (q18, .inl (xI X, 7, .inl (fun _ => 0))), (q19, .inl (xI X, 7, .inl (fun _ => 0))), (q20, .inl (xI X, 7, .inl (fun _ => 0))), (q21, .inl (xI X, 7, .inl (fun _ => 0))), (q22, .inl (xI X, 154, .inl (fun _ => 0)))]) (k' := 22) (n' := 890) rfl rfl rfl ?_
  refine J_aload_n dX10_init_187 0 rfl ?_
  refine J_sipush (v := 154) dX10_init_188 rfl ?_
  refine J_newa (N := 154) wd_157 rfl (by decide) (by rw [hK]; exact Nat.le_of_ble_eq_true rfl) (by rw [hN]; exact Nat.le_of_ble_eq_true rfl) dX10_init_191 (fun q23 => ?_)
  refine J_pf (q0 := 0) (j := 28) hclX10 rfl (by decide) wd_924 rfl ⟨rfl, rfl⟩ rfl (tyX10_ok 28 (by decide)) rfl rfl (Nat.le_of_ble_eq_true rfl) dX10_init_193 ?_
  refine J_eq (ws' := [(h0, .inr (10, [.ref q1, .ref q2, .ref q3, .ref q4, .ref q5, .ref q6, .ref q7, .ref q8, .int 4, .int 0, .int 0, .ref q9, .int 0, .int 0, .int 0, .ref q10, .ref q11, .ref q12, .ref q13, .ref q14, .ref q15, .ref q16, .ref q17, .ref q18, .ref q19, .ref q20, .ref q21, .ref q22, .ref q23, .null, .null, .null, .null, .int 0])), (q1, .inl (xI X, 7, .inl (fun _ => 0))), (q2, .inl (xI X, 7, .inl (fun _ => 0))), (q3, .inl (xI X, 60, .inl (fun _ => 0))), (q4, .inl (xI X, 60, .inl (fun _ => 0))), (q5, .inl (xI X, 60, .inl (fun _ => 0))), (q6, .inl (xI X, 60, .inl (fun _ => 0))), (q7, .inl (xI X, 60, .inl (fun _ => 0))), (q8, .inl (xI X, 60, .inl (fun _ => 0))), (q9, .inl (xI X, 60, .inl (fun _ => 0))), (q10, .inl (xI X, 20, .inl (fun _ => 0))), (q11, .inl (xI X, 20, .inl (fun _ => 0))), (q12, .inl (xI X, 20, .inl (fun _ => 0))), (q13, .inl (xI X, 20, .inl (fun _ => 0))), (q14, .inl (xI X, 20, .inl (fun _ => 0))), (q15, .inl (xI X, 20, .inl (fun _ => 0))), (q16, .inl (xI X, 147, .inl (fun _ => 0))), (q17, .inl (xI X, 7, .inl (fun _ => 0))), (q18, .inl (xI X, 7, .inl (fun _ => 0))), (q19, .inl (xI X, 7, .inl (fun _ => 0))), (q20, .inl (xI X, 7, .inl (fun _ => 0))), (q21, .inl (xI X, 7, .inl (fun _ => 0))), (q22, .inl (xI X, 154, .inl (fun _ => 0))), (q23, .inl (xI X, 154, .inl (fun _ => 0)))]) (k' := 23) (n' := 1044) rfl rfl rfl ?_
  refine J_aload_n dX10_init_196 0 rfl ?_
  refine J_bipush (v := 49) dX10_init_197 rfl ?_
  refine J_newz (N := 49) wd_999 rfl (by decide) (by rw [hK]; exact Nat.le_of_ble_eq_true rfl) (by rw [hN]; exact Nat.le_of_ble_eq_true rfl) dX10_init_199 (fun q24 => ?_)
  refine J_pf (q0 := 0) (j := 29) hclX10 rfl (by decide) wd_925 rfl ⟨rfl, rfl⟩ rfl (tyX10_ok 29 (by decide)) rfl rfl (Nat.le_of_ble_eq_true rfl) dX10_init_201 ?_
  refine J_eq (ws' := [(h0, .inr (10, [.ref q1, .ref q2, .ref q3, .ref q4, .ref q5, .ref q6, .ref q7, .ref q8, .int 4, .int 0, .int 0, .ref q9, .int 0, .int 0, .int 0, .ref q10, .ref q11, .ref q12, .ref q13, .ref q14, .ref q15, .ref q16, .ref q17, .ref q18, .ref q19, .ref q20, .ref q21, .ref q22, .ref q23, .ref q24, .null, .null, .null, .int 0])), (q1, .inl (xI X, 7, .inl (fun _ => 0))), (q2, .inl (xI X, 7, .inl (fun _ => 0))), (q3, .inl (xI X, 60, .inl (fun _ => 0))), (q4, .inl (xI X, 60, .inl (fun _ => 0))), (q5, .inl (xI X, 60, .inl (fun _ => 0))), (q6, .inl (xI X, 60, .inl (fun _ => 0))), (q7, .inl (xI X, 60, .inl (fun _ => 0))), (q8, .inl (xI X, 60, .inl (fun _ => 0))), (q9, .inl (xI X, 60, .inl (fun _ => 0))), (q10, .inl (xI X, 20, .inl (fun _ => 0))), (q11, .inl (xI X, 20, .inl (fun _ => 0))), (q12, .inl (xI X, 20, .inl (fun _ => 0))), (q13, .inl (xI X, 20, .inl (fun _ => 0))), (q14, .inl (xI X, 20, .inl (fun _ => 0))), (q15, .inl (xI X, 20, .inl (fun _ => 0))), (q16, .inl (xI X, 147, .inl (fun _ => 0))), (q17, .inl (xI X, 7, .inl (fun _ => 0))), (q18, .inl (xI X, 7, .inl (fun _ => 0))), (q19, .inl (xI X, 7, .inl (fun _ => 0))), (q20, .inl (xI X, 7, .inl (fun _ => 0))), (q21, .inl (xI X, 7, .inl (fun _ => 0))), (q22, .inl (xI X, 154, .inl (fun _ => 0))), (q23, .inl (xI X, 154, .inl (fun _ => 0))), (q24, .inl (xZ X, 49, .inl (fun _ => 0)))]) (k' := 24) (n' := 1093) rfl rfl rfl ?_
  refine J_aload_n dX10_init_204 0 rfl ?_
  refine J_bipush (v := 6) dX10_init_205 rfl ?_
  refine J_newa (N := 6) wd_157 rfl (by decide) (by rw [hK]; exact Nat.le_of_ble_eq_true rfl) (by rw [hN]; exact Nat.le_of_ble_eq_true rfl) dX10_init_207 (fun q25 => ?_)
  refine J_pf (q0 := 0) (j := 30) hclX10 rfl (by decide) wd_926 rfl ⟨rfl, rfl⟩ rfl (tyX10_ok 30 (by decide)) rfl rfl (Nat.le_of_ble_eq_true rfl) dX10_init_209 ?_
  refine J_eq (ws' := [(h0, .inr (10, [.ref q1, .ref q2, .ref q3, .ref q4, .ref q5, .ref q6, .ref q7, .ref q8, .int 4, .int 0, .int 0, .ref q9, .int 0, .int 0, .int 0, .ref q10, .ref q11, .ref q12, .ref q13, .ref q14, .ref q15, .ref q16, .ref q17, .ref q18, .ref q19, .ref q20, .ref q21, .ref q22, .ref q23, .ref q24, .ref q25, .null, .null, .int 0])), (q1, .inl (xI X, 7, .inl (fun _ => 0))), (q2, .inl (xI X, 7, .inl (fun _ => 0))), (q3, .inl (xI X, 60, .inl (fun _ => 0))), (q4, .inl (xI X, 60, .inl (fun _ => 0))), (q5, .inl (xI X, 60, .inl (fun _ => 0))), (q6, .inl (xI X, 60, .inl (fun _ => 0))), (q7, .inl (xI X, 60, .inl (fun _ => 0))), (q8, .inl (xI X, 60, .inl (fun _ => 0))), (q9, .inl (xI X, 60, .inl (fun _ => 0))), (q10, .inl (xI X, 20, .inl (fun _ => 0))), (q11, .inl (xI X, 20, .inl (fun _ => 0))), (q12, .inl (xI X, 20, .inl (fun _ => 0))), (q13, .inl (xI X, 20, .inl (fun _ => 0))), (q14, .inl (xI X, 20, .inl (fun _ => 0))), (q15, .inl (xI X, 20, .inl (fun _ => 0))), (q16, .inl (xI X, 147, .inl (fun _ => 0))), (q17, .inl (xI X, 7, .inl (fun _ => 0))), (q18, .inl (xI X, 7, .inl (fun _ => 0))), (q19, .inl (xI X, 7, .inl (fun _ => 0))), (q20, .inl (xI X, 7, .inl (fun _ => 0))), (q21, .inl (xI X, 7, .inl (fun _ => 0))), (q22, .inl (xI X, 154, .inl (fun _ => 0))), (q23, .inl (xI X, 154, .inl (fun _ => 0))), (q24, .inl (xZ X, 49, .inl (fun _ => 0))), (q25, .inl (xI X, 6, .inl (fun _ => 0)))]) (k' := 25) (n' := 1099) rfl rfl rfl ?_
  refine J_aload_n dX10_init_212 0 rfl ?_
  refine J_bipush (v := 6) dX10_init_213 rfl ?_
  refine J_newa (N := 6) wd_157 rfl (by decide) (by rw [hK]; exact Nat.le_of_ble_eq_true rfl) (by rw [hN]; exact Nat.le_of_ble_eq_true rfl) dX10_init_215 (fun q26 => ?_)
  refine J_pf (q0 := 0) (j := 31) hclX10 rfl (by decide) wd_927 rfl ⟨rfl, rfl⟩ rfl (tyX10_ok 31 (by decide)) rfl rfl (Nat.le_of_ble_eq_true rfl) dX10_init_217 ?_
  refine J_eq (ws' := [(h0, .inr (10, [.ref q1, .ref q2, .ref q3, .ref q4, .ref q5, .ref q6, .ref q7, .ref q8, .int 4, .int 0, .int 0, .ref q9, .int 0, .int 0, .int 0, .ref q10, .ref q11, .ref q12, .ref q13, .ref q14, .ref q15, .ref q16, .ref q17, .ref q18, .ref q19, .ref q20, .ref q21, .ref q22, .ref q23, .ref q24, .ref q25, .ref q26, .null, .int 0])), (q1, .inl (xI X, 7, .inl (fun _ => 0))), (q2, .inl (xI X, 7, .inl (fun _ => 0))), (q3, .inl (xI X, 60, .inl (fun _ => 0))), (q4, .inl (xI X, 60, .inl (fun _ => 0))), (q5, .inl (xI X, 60, .inl (fun _ => 0))), (q6, .inl (xI X, 60, .inl (fun _ => 0))), (q7, .inl (xI X, 60, .inl (fun _ => 0))), (q8, .inl (xI X, 60, .inl (fun _ => 0))), (q9, .inl (xI X, 60, .inl (fun _ => 0))), (q10, .inl (xI X, 20, .inl (fun _ => 0))), (q11, .inl (xI X, 20, .inl (fun _ => 0))), (q12, .inl (xI X, 20, .inl (fun _ => 0))), (q13, .inl (xI X, 20, .inl (fun _ => 0))), (q14, .inl (xI X, 20, .inl (fun _ => 0))), (q15, .inl (xI X, 20, .inl (fun _ => 0))), (q16, .inl (xI X, 147, .inl (fun _ => 0))), (q17, .inl (xI X, 7, .inl (fun _ => 0))), (q18, .inl (xI X, 7, .inl (fun _ => 0))), (q19, .inl (xI X, 7, .inl (fun _ => 0))), (q20, .inl (xI X, 7, .inl (fun _ => 0))), (q21, .inl (xI X, 7, .inl (fun _ => 0))), (q22, .inl (xI X, 154, .inl (fun _ => 0))), (q23, .inl (xI X, 154, .inl (fun _ => 0))), (q24, .inl (xZ X, 49, .inl (fun _ => 0))), (q25, .inl (xI X, 6, .inl (fun _ => 0))), (q26, .inl (xI X, 6, .inl (fun _ => 0)))]) (k' := 26) (n' := 1105) rfl rfl rfl ?_
  refine J_aload_n dX10_init_220 0 rfl ?_
  refine J_bipush (v := 6) dX10_init_221 rfl ?_
  refine J_newz (N := 6) wd_999 rfl (by decide) (by rw [hK]; exact Nat.le_of_ble_eq_true rfl) (by rw [hN]; exact Nat.le_of_ble_eq_true rfl) dX10_init_223 (fun q27 => ?_)
  refine J_pf (q0 := 0) (j := 32) hclX10 rfl (by decide) wd_928 rfl ⟨rfl, rfl⟩ rfl (tyX10_ok 32 (by decide)) rfl rfl (Nat.le_of_ble_eq_true rfl) dX10_init_225 ?_
  refine J_eq (ws' := [(h0, .inr (10, [.ref q1, .ref q2, .ref q3, .ref q4, .ref q5, .ref q6, .ref q7, .ref q8, .int 4, .int 0, .int 0, .ref q9, .int 0, .int 0, .int 0, .ref q10, .ref q11, .ref q12, .ref q13, .ref q14, .ref q15, .ref q16, .ref q17, .ref q18, .ref q19, .ref q20, .ref q21, .ref q22, .ref q23, .ref q24, .ref q25, .ref q26, .ref q27, .int 0])), (q1, .inl (xI X, 7, .inl (fun _ => 0))), (q2, .inl (xI X, 7, .inl (fun _ => 0))), (q3, .inl (xI X, 60, .inl (fun _ => 0))), (q4, .inl (xI X, 60, .inl (fun _ => 0))), (q5, .inl (xI X, 60, .inl (fun _ => 0))), (q6, .inl (xI X, 60, .inl (fun _ => 0))), (q7, .inl (xI X, 60, .inl (fun _ => 0))), (q8, .inl (xI X, 60, .inl (fun _ => 0))), (q9, .inl (xI X, 60, .inl (fun _ => 0))), (q10, .inl (xI X, 20, .inl (fun _ => 0))), (q11, .inl (xI X, 20, .inl (fun _ => 0))), (q12, .inl (xI X, 20, .inl (fun _ => 0))), (q13, .inl (xI X, 20, .inl (fun _ => 0))), (q14, .inl (xI X, 20, .inl (fun _ => 0))), (q15, .inl (xI X, 20, .inl (fun _ => 0))), (q16, .inl (xI X, 147, .inl (fun _ => 0))), (q17, .inl (xI X, 7, .inl (fun _ => 0))), (q18, .inl (xI X, 7, .inl (fun _ => 0))), (q19, .inl (xI X, 7, .inl (fun _ => 0))), (q20, .inl (xI X, 7, .inl (fun _ => 0))), (q21, .inl (xI X, 7, .inl (fun _ => 0))), (q22, .inl (xI X, 154, .inl (fun _ => 0))), (q23, .inl (xI X, 154, .inl (fun _ => 0))), (q24, .inl (xZ X, 49, .inl (fun _ => 0))), (q25, .inl (xI X, 6, .inl (fun _ => 0))), (q26, .inl (xI X, 6, .inl (fun _ => 0))), (q27, .inl (xZ X, 6, .inl (fun _ => 0)))]) (k' := 27) (n' := 1111) rfl rfl rfl ?_
  exact J_ret rfl dX10_init_228 (by rw [hK]) (by rw [hN]) (fun k => [h0, q1, q2, q3, q4, q5, q6, q7, q8, q9, q10, q11, q12, q13, q14, q15, q16, q17, q18, q19, q20, q21, q22, q23, q24, q25, q26, q27].getD k 0) rfl rfl
